section
-- ===== PART A: goes FIRST, ahead of the names: the tables' words, and 'selects' of the private methods out of them =====
/-- a private method of a class that the tables say can be made, by its rows of tables_1 -/
def lw_okq (q : MethodName × Nat) : Prop := (q.1.cls ≠ "java/lang/invoke/MethodHandle" ∧ q.1.cls ≠ "java/lang/invoke/VarHandle") ∧ Cond.instantiable q.1.cls q.2 ∈ tables_1 ∧ Cond.privateMethod q.1 ∈ tables_1 ∧ Cond.instanceMethod q.1 ∈ tables_1
theorem lw_p0 : lw_okq (⟨"OneBell", "putOnTape", "(I)V"⟩, 17) := ⟨⟨by decide +kernel, by decide +kernel⟩, List.mem_of_getElem? (i := 22) (by decide +kernel), List.mem_of_getElem? (i := 371) (by decide +kernel), List.mem_of_getElem? (i := 372) (by decide +kernel)⟩
theorem lw_p1 : lw_okq (⟨"OneBell$Reader", "next", "()V"⟩, 7) := ⟨⟨by decide +kernel, by decide +kernel⟩, List.mem_of_getElem? (i := 30) (by decide +kernel), List.mem_of_getElem? (i := 400) (by decide +kernel), List.mem_of_getElem? (i := 401) (by decide +kernel)⟩
theorem lw_p2 : lw_okq (⟨"OneBell$Reader", "isLetter", "(I)Z"⟩, 7) := ⟨⟨by decide +kernel, by decide +kernel⟩, List.mem_of_getElem? (i := 30) (by decide +kernel), List.mem_of_getElem? (i := 404) (by decide +kernel), List.mem_of_getElem? (i := 405) (by decide +kernel)⟩
theorem lw_p3 : lw_okq (⟨"OneBell$Reader", "isDigit", "(I)Z"⟩, 7) := ⟨⟨by decide +kernel, by decide +kernel⟩, List.mem_of_getElem? (i := 30) (by decide +kernel), List.mem_of_getElem? (i := 408) (by decide +kernel), List.mem_of_getElem? (i := 409) (by decide +kernel)⟩
theorem lw_p4 : lw_okq (⟨"OneBell$Reader", "readLine", "(LOneBell$House;)V"⟩, 7) := ⟨⟨by decide +kernel, by decide +kernel⟩, List.mem_of_getElem? (i := 30) (by decide +kernel), List.mem_of_getElem? (i := 412) (by decide +kernel), List.mem_of_getElem? (i := 413) (by decide +kernel)⟩
theorem lw_p5 : lw_okq (⟨"OneBell$Reader", "stands", "(I)Z"⟩, 7) := ⟨⟨by decide +kernel, by decide +kernel⟩, List.mem_of_getElem? (i := 30) (by decide +kernel), List.mem_of_getElem? (i := 416) (by decide +kernel), List.mem_of_getElem? (i := 417) (by decide +kernel)⟩
theorem lw_p6 : lw_okq (⟨"OneBell$Reader", "fail", "(II)V"⟩, 7) := ⟨⟨by decide +kernel, by decide +kernel⟩, List.mem_of_getElem? (i := 30) (by decide +kernel), List.mem_of_getElem? (i := 420) (by decide +kernel), List.mem_of_getElem? (i := 421) (by decide +kernel)⟩
theorem lw_p7 : lw_okq (⟨"OneBell$Reader", "lineKind", "()I"⟩, 7) := ⟨⟨by decide +kernel, by decide +kernel⟩, List.mem_of_getElem? (i := 30) (by decide +kernel), List.mem_of_getElem? (i := 424) (by decide +kernel), List.mem_of_getElem? (i := 425) (by decide +kernel)⟩
theorem lw_p8 : lw_okq (⟨"OneBell$Reader", "spells", "(Ljava/lang/String;)Z"⟩, 7) := ⟨⟨by decide +kernel, by decide +kernel⟩, List.mem_of_getElem? (i := 30) (by decide +kernel), List.mem_of_getElem? (i := 429) (by decide +kernel), List.mem_of_getElem? (i := 430) (by decide +kernel)⟩
theorem lw_p9 : lw_okq (⟨"OneBell$Reader", "lineFault", "(ILOneBell$House;)I"⟩, 7) := ⟨⟨by decide +kernel, by decide +kernel⟩, List.mem_of_getElem? (i := 30) (by decide +kernel), List.mem_of_getElem? (i := 490) (by decide +kernel), List.mem_of_getElem? (i := 491) (by decide +kernel)⟩
theorem lw_p10 : lw_okq (⟨"OneBell$Reader", "readNumbers", "(ILOneBell$House;)V"⟩, 7) := ⟨⟨by decide +kernel, by decide +kernel⟩, List.mem_of_getElem? (i := 30) (by decide +kernel), List.mem_of_getElem? (i := 494) (by decide +kernel), List.mem_of_getElem? (i := 495) (by decide +kernel)⟩
theorem lw_p11 : lw_okq (⟨"OneBell$Reader", "number", "(II)I"⟩, 7) := ⟨⟨by decide +kernel, by decide +kernel⟩, List.mem_of_getElem? (i := 30) (by decide +kernel), List.mem_of_getElem? (i := 498) (by decide +kernel), List.mem_of_getElem? (i := 499) (by decide +kernel)⟩
theorem lw_p12 : lw_okq (⟨"OneBell$Reader", "readLead", "(LOneBell$House;)V"⟩, 7) := ⟨⟨by decide +kernel, by decide +kernel⟩, List.mem_of_getElem? (i := 30) (by decide +kernel), List.mem_of_getElem? (i := 502) (by decide +kernel), List.mem_of_getElem? (i := 503) (by decide +kernel)⟩
theorem lw_p13 : lw_okq (⟨"OneBell$Reader", "readChance", "(LOneBell$House;)V"⟩, 7) := ⟨⟨by decide +kernel, by decide +kernel⟩, List.mem_of_getElem? (i := 30) (by decide +kernel), List.mem_of_getElem? (i := 507) (by decide +kernel), List.mem_of_getElem? (i := 508) (by decide +kernel)⟩
theorem lw_p14 : lw_okq (⟨"OneBell$Reader", "readStuck", "(LOneBell$House;)V"⟩, 7) := ⟨⟨by decide +kernel, by decide +kernel⟩, List.mem_of_getElem? (i := 30) (by decide +kernel), List.mem_of_getElem? (i := 519) (by decide +kernel), List.mem_of_getElem? (i := 520) (by decide +kernel)⟩
theorem lw_p15 : lw_okq (⟨"OneBell$Reader", "readSign", "(LOneBell$House;)V"⟩, 7) := ⟨⟨by decide +kernel, by decide +kernel⟩, List.mem_of_getElem? (i := 30) (by decide +kernel), List.mem_of_getElem? (i := 523) (by decide +kernel), List.mem_of_getElem? (i := 524) (by decide +kernel)⟩
def lw_privs_1 : List (MethodName × Nat) := [(⟨"OneBell", "putOnTape", "(I)V"⟩, 17), (⟨"OneBell$Reader", "next", "()V"⟩, 7), (⟨"OneBell$Reader", "isLetter", "(I)Z"⟩, 7), (⟨"OneBell$Reader", "isDigit", "(I)Z"⟩, 7), (⟨"OneBell$Reader", "readLine", "(LOneBell$House;)V"⟩, 7), (⟨"OneBell$Reader", "stands", "(I)Z"⟩, 7), (⟨"OneBell$Reader", "fail", "(II)V"⟩, 7), (⟨"OneBell$Reader", "lineKind", "()I"⟩, 7), (⟨"OneBell$Reader", "spells", "(Ljava/lang/String;)Z"⟩, 7), (⟨"OneBell$Reader", "lineFault", "(ILOneBell$House;)I"⟩, 7), (⟨"OneBell$Reader", "readNumbers", "(ILOneBell$House;)V"⟩, 7), (⟨"OneBell$Reader", "number", "(II)I"⟩, 7), (⟨"OneBell$Reader", "readLead", "(LOneBell$House;)V"⟩, 7), (⟨"OneBell$Reader", "readChance", "(LOneBell$House;)V"⟩, 7), (⟨"OneBell$Reader", "readStuck", "(LOneBell$House;)V"⟩, 7), (⟨"OneBell$Reader", "readSign", "(LOneBell$House;)V"⟩, 7)]
theorem lw_r1 : ∀ q ∈ lw_privs_1, lw_okq q := List.forall_mem_cons.mpr ⟨lw_p0, List.forall_mem_cons.mpr ⟨lw_p1, List.forall_mem_cons.mpr ⟨lw_p2, List.forall_mem_cons.mpr ⟨lw_p3, List.forall_mem_cons.mpr ⟨lw_p4, List.forall_mem_cons.mpr ⟨lw_p5, List.forall_mem_cons.mpr ⟨lw_p6, List.forall_mem_cons.mpr ⟨lw_p7, List.forall_mem_cons.mpr ⟨lw_p8, List.forall_mem_cons.mpr ⟨lw_p9, List.forall_mem_cons.mpr ⟨lw_p10, List.forall_mem_cons.mpr ⟨lw_p11, List.forall_mem_cons.mpr ⟨lw_p12, List.forall_mem_cons.mpr ⟨lw_p13, List.forall_mem_cons.mpr ⟨lw_p14, List.forall_mem_cons.mpr ⟨lw_p15, fun _ h => absurd h List.not_mem_nil⟩⟩⟩⟩⟩⟩⟩⟩⟩⟩⟩⟩⟩⟩⟩⟩
theorem lw_p16 : lw_okq (⟨"OneBell$Reader", "readRoom", "(ILOneBell$House;)V"⟩, 7) := ⟨⟨by decide +kernel, by decide +kernel⟩, List.mem_of_getElem? (i := 30) (by decide +kernel), List.mem_of_getElem? (i := 531) (by decide +kernel), List.mem_of_getElem? (i := 532) (by decide +kernel)⟩
theorem lw_p17 : lw_okq (⟨"OneBell", "isRowNumber", "(I)Z"⟩, 17) := ⟨⟨by decide +kernel, by decide +kernel⟩, List.mem_of_getElem? (i := 22) (by decide +kernel), List.mem_of_getElem? (i := 619) (by decide +kernel), List.mem_of_getElem? (i := 620) (by decide +kernel)⟩
theorem lw_p18 : lw_okq (⟨"OneBell", "takeRow", "(I)I"⟩, 17) := ⟨⟨by decide +kernel, by decide +kernel⟩, List.mem_of_getElem? (i := 22) (by decide +kernel), List.mem_of_getElem? (i := 635) (by decide +kernel), List.mem_of_getElem? (i := 636) (by decide +kernel)⟩
theorem lw_p19 : lw_okq (⟨"OneBell$Company", "amissBits", "([II)I"⟩, 5) := ⟨⟨by decide +kernel, by decide +kernel⟩, List.mem_of_getElem? (i := 239) (by decide +kernel), List.mem_of_getElem? (i := 686) (by decide +kernel), List.mem_of_getElem? (i := 687) (by decide +kernel)⟩
theorem lw_p20 : lw_okq (⟨"OneBell", "bringSet", "(III)I"⟩, 17) := ⟨⟨by decide +kernel, by decide +kernel⟩, List.mem_of_getElem? (i := 22) (by decide +kernel), List.mem_of_getElem? (i := 708) (by decide +kernel), List.mem_of_getElem? (i := 709) (by decide +kernel)⟩
theorem lw_p21 : lw_okq (⟨"OneBell$Sets", "prepare", "(Z)V"⟩, 8) := ⟨⟨by decide +kernel, by decide +kernel⟩, List.mem_of_getElem? (i := 185) (by decide +kernel), List.mem_of_getElem? (i := 716) (by decide +kernel), List.mem_of_getElem? (i := 717) (by decide +kernel)⟩
theorem lw_p22 : lw_okq (⟨"OneBell$Search", "slotOf", "(I)I"⟩, 7) := ⟨⟨by decide +kernel, by decide +kernel⟩, List.mem_of_getElem? (i := 156) (by decide +kernel), List.mem_of_getElem? (i := 732) (by decide +kernel), List.mem_of_getElem? (i := 733) (by decide +kernel)⟩
theorem lw_p23 : lw_okq (⟨"OneBell$Sets", "isThere", "(II)Z"⟩, 8) := ⟨⟨by decide +kernel, by decide +kernel⟩, List.mem_of_getElem? (i := 185) (by decide +kernel), List.mem_of_getElem? (i := 737) (by decide +kernel), List.mem_of_getElem? (i := 738) (by decide +kernel)⟩
theorem lw_p24 : lw_okq (⟨"OneBell$Sets", "imageOf", "(II)I"⟩, 8) := ⟨⟨by decide +kernel, by decide +kernel⟩, List.mem_of_getElem? (i := 185) (by decide +kernel), List.mem_of_getElem? (i := 769) (by decide +kernel), List.mem_of_getElem? (i := 770) (by decide +kernel)⟩
theorem lw_p25 : lw_okq (⟨"OneBell$Sets", "spread", "()V"⟩, 8) := ⟨⟨by decide +kernel, by decide +kernel⟩, List.mem_of_getElem? (i := 185) (by decide +kernel), List.mem_of_getElem? (i := 785) (by decide +kernel), List.mem_of_getElem? (i := 786) (by decide +kernel)⟩
theorem lw_p26 : lw_okq (⟨"OneBell$Pairs", "at", "(II)I"⟩, 5) := ⟨⟨by decide +kernel, by decide +kernel⟩, List.mem_of_getElem? (i := 216) (by decide +kernel), List.mem_of_getElem? (i := 799) (by decide +kernel), List.mem_of_getElem? (i := 800) (by decide +kernel)⟩
theorem lw_p27 : lw_okq (⟨"OneBell$Pairs", "measureOthers", "(LOneBell$House;)V"⟩, 5) := ⟨⟨by decide +kernel, by decide +kernel⟩, List.mem_of_getElem? (i := 216) (by decide +kernel), List.mem_of_getElem? (i := 803) (by decide +kernel), List.mem_of_getElem? (i := 804) (by decide +kernel)⟩
theorem lw_p28 : lw_okq (⟨"OneBell$Pairs", "measureStep", "(LOneBell$House;I)Z"⟩, 5) := ⟨⟨by decide +kernel, by decide +kernel⟩, List.mem_of_getElem? (i := 216) (by decide +kernel), List.mem_of_getElem? (i := 807) (by decide +kernel), List.mem_of_getElem? (i := 808) (by decide +kernel)⟩
theorem lw_p29 : lw_okq (⟨"OneBell$Pairs", "toneTowards", "(LOneBell$House;III)I"⟩, 5) := ⟨⟨by decide +kernel, by decide +kernel⟩, List.mem_of_getElem? (i := 216) (by decide +kernel), List.mem_of_getElem? (i := 811) (by decide +kernel), List.mem_of_getElem? (i := 812) (by decide +kernel)⟩
theorem lw_p30 : lw_okq (⟨"OneBell$Pairs", "growHome", "(LOneBell$House;II)Z"⟩, 5) := ⟨⟨by decide +kernel, by decide +kernel⟩, List.mem_of_getElem? (i := 216) (by decide +kernel), List.mem_of_getElem? (i := 865) (by decide +kernel), List.mem_of_getElem? (i := 866) (by decide +kernel)⟩
theorem lw_p31 : lw_okq (⟨"OneBell$Sets", "makeValues", "()V"⟩, 8) := ⟨⟨by decide +kernel, by decide +kernel⟩, List.mem_of_getElem? (i := 185) (by decide +kernel), List.mem_of_getElem? (i := 891) (by decide +kernel), List.mem_of_getElem? (i := 892) (by decide +kernel)⟩
def lw_privs_2 : List (MethodName × Nat) := [(⟨"OneBell$Reader", "readRoom", "(ILOneBell$House;)V"⟩, 7), (⟨"OneBell", "isRowNumber", "(I)Z"⟩, 17), (⟨"OneBell", "takeRow", "(I)I"⟩, 17), (⟨"OneBell$Company", "amissBits", "([II)I"⟩, 5), (⟨"OneBell", "bringSet", "(III)I"⟩, 17), (⟨"OneBell$Sets", "prepare", "(Z)V"⟩, 8), (⟨"OneBell$Search", "slotOf", "(I)I"⟩, 7), (⟨"OneBell$Sets", "isThere", "(II)Z"⟩, 8), (⟨"OneBell$Sets", "imageOf", "(II)I"⟩, 8), (⟨"OneBell$Sets", "spread", "()V"⟩, 8), (⟨"OneBell$Pairs", "at", "(II)I"⟩, 5), (⟨"OneBell$Pairs", "measureOthers", "(LOneBell$House;)V"⟩, 5), (⟨"OneBell$Pairs", "measureStep", "(LOneBell$House;I)Z"⟩, 5), (⟨"OneBell$Pairs", "toneTowards", "(LOneBell$House;III)I"⟩, 5), (⟨"OneBell$Pairs", "growHome", "(LOneBell$House;II)Z"⟩, 5), (⟨"OneBell$Sets", "makeValues", "()V"⟩, 8)]
theorem lw_r2 : ∀ q ∈ lw_privs_2, lw_okq q := List.forall_mem_cons.mpr ⟨lw_p16, List.forall_mem_cons.mpr ⟨lw_p17, List.forall_mem_cons.mpr ⟨lw_p18, List.forall_mem_cons.mpr ⟨lw_p19, List.forall_mem_cons.mpr ⟨lw_p20, List.forall_mem_cons.mpr ⟨lw_p21, List.forall_mem_cons.mpr ⟨lw_p22, List.forall_mem_cons.mpr ⟨lw_p23, List.forall_mem_cons.mpr ⟨lw_p24, List.forall_mem_cons.mpr ⟨lw_p25, List.forall_mem_cons.mpr ⟨lw_p26, List.forall_mem_cons.mpr ⟨lw_p27, List.forall_mem_cons.mpr ⟨lw_p28, List.forall_mem_cons.mpr ⟨lw_p29, List.forall_mem_cons.mpr ⟨lw_p30, List.forall_mem_cons.mpr ⟨lw_p31, fun _ h => absurd h List.not_mem_nil⟩⟩⟩⟩⟩⟩⟩⟩⟩⟩⟩⟩⟩⟩⟩⟩
theorem lw_p32 : lw_okq (⟨"OneBell$Sets", "countOneToneMore", "()V"⟩, 8) := ⟨⟨by decide +kernel, by decide +kernel⟩, List.mem_of_getElem? (i := 185) (by decide +kernel), List.mem_of_getElem? (i := 896) (by decide +kernel), List.mem_of_getElem? (i := 897) (by decide +kernel)⟩
theorem lw_p33 : lw_okq (⟨"OneBell$Sight", "stand", "(I)V"⟩, 5) := ⟨⟨by decide +kernel, by decide +kernel⟩, List.mem_of_getElem? (i := 261) (by decide +kernel), List.mem_of_getElem? (i := 914) (by decide +kernel), List.mem_of_getElem? (i := 915) (by decide +kernel)⟩
theorem lw_p34 : lw_okq (⟨"OneBell$Sight", "narrow", "(I)V"⟩, 5) := ⟨⟨by decide +kernel, by decide +kernel⟩, List.mem_of_getElem? (i := 261) (by decide +kernel), List.mem_of_getElem? (i := 918) (by decide +kernel), List.mem_of_getElem? (i := 919) (by decide +kernel)⟩
theorem lw_p35 : lw_okq (⟨"OneBell$Sight", "ring", "(III)V"⟩, 5) := ⟨⟨by decide +kernel, by decide +kernel⟩, List.mem_of_getElem? (i := 261) (by decide +kernel), List.mem_of_getElem? (i := 925) (by decide +kernel), List.mem_of_getElem? (i := 926) (by decide +kernel)⟩
theorem lw_p36 : lw_okq (⟨"OneBell$Sight", "countDoubts", "(IIZ)I"⟩, 5) := ⟨⟨by decide +kernel, by decide +kernel⟩, List.mem_of_getElem? (i := 261) (by decide +kernel), List.mem_of_getElem? (i := 930) (by decide +kernel), List.mem_of_getElem? (i := 931) (by decide +kernel)⟩
theorem lw_p37 : lw_okq (⟨"OneBell$Sets", "findSigns", "()V"⟩, 8) := ⟨⟨by decide +kernel, by decide +kernel⟩, List.mem_of_getElem? (i := 185) (by decide +kernel), List.mem_of_getElem? (i := 956) (by decide +kernel), List.mem_of_getElem? (i := 957) (by decide +kernel)⟩
theorem lw_p38 : lw_okq (⟨"OneBell$Sets", "addUnsure", "(III)V"⟩, 8) := ⟨⟨by decide +kernel, by decide +kernel⟩, List.mem_of_getElem? (i := 185) (by decide +kernel), List.mem_of_getElem? (i := 961) (by decide +kernel), List.mem_of_getElem? (i := 962) (by decide +kernel)⟩
theorem lw_p39 : lw_okq (⟨"OneBell$Sets", "openTurns", "()V"⟩, 8) := ⟨⟨by decide +kernel, by decide +kernel⟩, List.mem_of_getElem? (i := 185) (by decide +kernel), List.mem_of_getElem? (i := 965) (by decide +kernel), List.mem_of_getElem? (i := 966) (by decide +kernel)⟩
theorem lw_p40 : lw_okq (⟨"OneBell$Sets", "settle", "(I)Z"⟩, 8) := ⟨⟨by decide +kernel, by decide +kernel⟩, List.mem_of_getElem? (i := 185) (by decide +kernel), List.mem_of_getElem? (i := 969) (by decide +kernel), List.mem_of_getElem? (i := 970) (by decide +kernel)⟩
theorem lw_p41 : lw_okq (⟨"OneBell$Sets", "isKnownWithin", "(II)Z"⟩, 8) := ⟨⟨by decide +kernel, by decide +kernel⟩, List.mem_of_getElem? (i := 185) (by decide +kernel), List.mem_of_getElem? (i := 973) (by decide +kernel), List.mem_of_getElem? (i := 974) (by decide +kernel)⟩
theorem lw_p42 : lw_okq (⟨"OneBell$Sets", "isSettled", "(I)Z"⟩, 8) := ⟨⟨by decide +kernel, by decide +kernel⟩, List.mem_of_getElem? (i := 185) (by decide +kernel), List.mem_of_getElem? (i := 977) (by decide +kernel), List.mem_of_getElem? (i := 978) (by decide +kernel)⟩
theorem lw_p43 : lw_okq (⟨"OneBell$Company", "gather", "(I)V"⟩, 5) := ⟨⟨by decide +kernel, by decide +kernel⟩, List.mem_of_getElem? (i := 239) (by decide +kernel), List.mem_of_getElem? (i := 1010) (by decide +kernel), List.mem_of_getElem? (i := 1011) (by decide +kernel)⟩
theorem lw_p44 : lw_okq (⟨"OneBell$Company", "isLedAmiss", "()Z"⟩, 5) := ⟨⟨by decide +kernel, by decide +kernel⟩, List.mem_of_getElem? (i := 239) (by decide +kernel), List.mem_of_getElem? (i := 1014) (by decide +kernel), List.mem_of_getElem? (i := 1015) (by decide +kernel)⟩
theorem lw_p45 : lw_okq (⟨"OneBell$Company", "packLed", "()I"⟩, 5) := ⟨⟨by decide +kernel, by decide +kernel⟩, List.mem_of_getElem? (i := 239) (by decide +kernel), List.mem_of_getElem? (i := 1019) (by decide +kernel), List.mem_of_getElem? (i := 1020) (by decide +kernel)⟩
theorem lw_p46 : lw_okq (⟨"OneBell$Company", "areLedAt", "(I)Z"⟩, 5) := ⟨⟨by decide +kernel, by decide +kernel⟩, List.mem_of_getElem? (i := 239) (by decide +kernel), List.mem_of_getElem? (i := 1024) (by decide +kernel), List.mem_of_getElem? (i := 1025) (by decide +kernel)⟩
theorem lw_p47 : lw_okq (⟨"OneBell$Company", "ringForLed", "(II)V"⟩, 5) := ⟨⟨by decide +kernel, by decide +kernel⟩, List.mem_of_getElem? (i := 239) (by decide +kernel), List.mem_of_getElem? (i := 1031) (by decide +kernel), List.mem_of_getElem? (i := 1032) (by decide +kernel)⟩
def lw_privs_3 : List (MethodName × Nat) := [(⟨"OneBell$Sets", "countOneToneMore", "()V"⟩, 8), (⟨"OneBell$Sight", "stand", "(I)V"⟩, 5), (⟨"OneBell$Sight", "narrow", "(I)V"⟩, 5), (⟨"OneBell$Sight", "ring", "(III)V"⟩, 5), (⟨"OneBell$Sight", "countDoubts", "(IIZ)I"⟩, 5), (⟨"OneBell$Sets", "findSigns", "()V"⟩, 8), (⟨"OneBell$Sets", "addUnsure", "(III)V"⟩, 8), (⟨"OneBell$Sets", "openTurns", "()V"⟩, 8), (⟨"OneBell$Sets", "settle", "(I)Z"⟩, 8), (⟨"OneBell$Sets", "isKnownWithin", "(II)Z"⟩, 8), (⟨"OneBell$Sets", "isSettled", "(I)Z"⟩, 8), (⟨"OneBell$Company", "gather", "(I)V"⟩, 5), (⟨"OneBell$Company", "isLedAmiss", "()Z"⟩, 5), (⟨"OneBell$Company", "packLed", "()I"⟩, 5), (⟨"OneBell$Company", "areLedAt", "(I)Z"⟩, 5), (⟨"OneBell$Company", "ringForLed", "(II)V"⟩, 5)]
theorem lw_r3 : ∀ q ∈ lw_privs_3, lw_okq q := List.forall_mem_cons.mpr ⟨lw_p32, List.forall_mem_cons.mpr ⟨lw_p33, List.forall_mem_cons.mpr ⟨lw_p34, List.forall_mem_cons.mpr ⟨lw_p35, List.forall_mem_cons.mpr ⟨lw_p36, List.forall_mem_cons.mpr ⟨lw_p37, List.forall_mem_cons.mpr ⟨lw_p38, List.forall_mem_cons.mpr ⟨lw_p39, List.forall_mem_cons.mpr ⟨lw_p40, List.forall_mem_cons.mpr ⟨lw_p41, List.forall_mem_cons.mpr ⟨lw_p42, List.forall_mem_cons.mpr ⟨lw_p43, List.forall_mem_cons.mpr ⟨lw_p44, List.forall_mem_cons.mpr ⟨lw_p45, List.forall_mem_cons.mpr ⟨lw_p46, List.forall_mem_cons.mpr ⟨lw_p47, fun _ h => absurd h List.not_mem_nil⟩⟩⟩⟩⟩⟩⟩⟩⟩⟩⟩⟩⟩⟩⟩⟩
theorem lw_p48 : lw_okq (⟨"OneBell", "areTwoWaiters", "(II)Z"⟩, 17) := ⟨⟨by decide +kernel, by decide +kernel⟩, List.mem_of_getElem? (i := 22) (by decide +kernel), List.mem_of_getElem? (i := 1039) (by decide +kernel), List.mem_of_getElem? (i := 1040) (by decide +kernel)⟩
theorem lw_p49 : lw_okq (⟨"OneBell$Pairs", "countOneToneMore", "(LOneBell$House;)V"⟩, 5) := ⟨⟨by decide +kernel, by decide +kernel⟩, List.mem_of_getElem? (i := 216) (by decide +kernel), List.mem_of_getElem? (i := 1055) (by decide +kernel), List.mem_of_getElem? (i := 1056) (by decide +kernel)⟩
theorem lw_p50 : lw_okq (⟨"OneBell$Pairs", "measureApart", "(LOneBell$House;I)V"⟩, 5) := ⟨⟨by decide +kernel, by decide +kernel⟩, List.mem_of_getElem? (i := 216) (by decide +kernel), List.mem_of_getElem? (i := 1072) (by decide +kernel), List.mem_of_getElem? (i := 1073) (by decide +kernel)⟩
theorem lw_p51 : lw_okq (⟨"OneBell$Pairs", "toneApart", "(LOneBell$House;III)I"⟩, 5) := ⟨⟨by decide +kernel, by decide +kernel⟩, List.mem_of_getElem? (i := 216) (by decide +kernel), List.mem_of_getElem? (i := 1076) (by decide +kernel), List.mem_of_getElem? (i := 1077) (by decide +kernel)⟩
theorem lw_p52 : lw_okq (⟨"OneBell", "leadIn", "(II)I"⟩, 17) := ⟨⟨by decide +kernel, by decide +kernel⟩, List.mem_of_getElem? (i := 22) (by decide +kernel), List.mem_of_getElem? (i := 1085) (by decide +kernel), List.mem_of_getElem? (i := 1086) (by decide +kernel)⟩
theorem lw_p53 : lw_okq (⟨"OneBell$Chances", "goBack", "(LOneBell$Route;I)V"⟩, 3) := ⟨⟨by decide +kernel, by decide +kernel⟩, List.mem_of_getElem? (i := 283) (by decide +kernel), List.mem_of_getElem? (i := 1099) (by decide +kernel), List.mem_of_getElem? (i := 1100) (by decide +kernel)⟩
theorem lw_p54 : lw_okq (⟨"OneBell$NumberRow", "cut", "(J)J"⟩, 3) := ⟨⟨by decide +kernel, by decide +kernel⟩, List.mem_of_getElem? (i := 298) (by decide +kernel), List.mem_of_getElem? (i := 1170) (by decide +kernel), List.mem_of_getElem? (i := 1171) (by decide +kernel)⟩
theorem lw_p55 : lw_okq (⟨"OneBellModel", "next", "()V"⟩, 40) := ⟨⟨by decide +kernel, by decide +kernel⟩, List.mem_of_getElem? (i := 1194) (by decide +kernel), List.mem_of_getElem? (i := 1334) (by decide +kernel), List.mem_of_getElem? (i := 1335) (by decide +kernel)⟩
theorem lw_p56 : lw_okq (⟨"OneBellModel", "see", "(I)I"⟩, 40) := ⟨⟨by decide +kernel, by decide +kernel⟩, List.mem_of_getElem? (i := 1194) (by decide +kernel), List.mem_of_getElem? (i := 1338) (by decide +kernel), List.mem_of_getElem? (i := 1339) (by decide +kernel)⟩
theorem lw_p57 : lw_okq (⟨"OneBellModel", "keyAt", "()I"⟩, 40) := ⟨⟨by decide +kernel, by decide +kernel⟩, List.mem_of_getElem? (i := 1194) (by decide +kernel), List.mem_of_getElem? (i := 1345) (by decide +kernel), List.mem_of_getElem? (i := 1346) (by decide +kernel)⟩
theorem lw_p58 : lw_okq (⟨"OneBellModel", "readLine", "()V"⟩, 40) := ⟨⟨by decide +kernel, by decide +kernel⟩, List.mem_of_getElem? (i := 1194) (by decide +kernel), List.mem_of_getElem? (i := 1355) (by decide +kernel), List.mem_of_getElem? (i := 1356) (by decide +kernel)⟩
theorem lw_p59 : lw_okq (⟨"OneBellModel", "is", "(I)Z"⟩, 40) := ⟨⟨by decide +kernel, by decide +kernel⟩, List.mem_of_getElem? (i := 1194) (by decide +kernel), List.mem_of_getElem? (i := 1359) (by decide +kernel), List.mem_of_getElem? (i := 1360) (by decide +kernel)⟩
theorem lw_p60 : lw_okq (⟨"OneBellModel", "readRooms", "()V"⟩, 40) := ⟨⟨by decide +kernel, by decide +kernel⟩, List.mem_of_getElem? (i := 1194) (by decide +kernel), List.mem_of_getElem? (i := 1363) (by decide +kernel), List.mem_of_getElem? (i := 1364) (by decide +kernel)⟩
theorem lw_p61 : lw_okq (⟨"OneBellModel", "fails", "(I)V"⟩, 40) := ⟨⟨by decide +kernel, by decide +kernel⟩, List.mem_of_getElem? (i := 1194) (by decide +kernel), List.mem_of_getElem? (i := 1367) (by decide +kernel), List.mem_of_getElem? (i := 1368) (by decide +kernel)⟩
theorem lw_p62 : lw_okq (⟨"OneBellModel", "takes", "(II)I"⟩, 40) := ⟨⟨by decide +kernel, by decide +kernel⟩, List.mem_of_getElem? (i := 1194) (by decide +kernel), List.mem_of_getElem? (i := 1371) (by decide +kernel), List.mem_of_getElem? (i := 1372) (by decide +kernel)⟩
theorem lw_p63 : lw_okq (⟨"OneBellModel", "readTones", "()V"⟩, 40) := ⟨⟨by decide +kernel, by decide +kernel⟩, List.mem_of_getElem? (i := 1194) (by decide +kernel), List.mem_of_getElem? (i := 1375) (by decide +kernel), List.mem_of_getElem? (i := 1376) (by decide +kernel)⟩
def lw_privs_4 : List (MethodName × Nat) := [(⟨"OneBell", "areTwoWaiters", "(II)Z"⟩, 17), (⟨"OneBell$Pairs", "countOneToneMore", "(LOneBell$House;)V"⟩, 5), (⟨"OneBell$Pairs", "measureApart", "(LOneBell$House;I)V"⟩, 5), (⟨"OneBell$Pairs", "toneApart", "(LOneBell$House;III)I"⟩, 5), (⟨"OneBell", "leadIn", "(II)I"⟩, 17), (⟨"OneBell$Chances", "goBack", "(LOneBell$Route;I)V"⟩, 3), (⟨"OneBell$NumberRow", "cut", "(J)J"⟩, 3), (⟨"OneBellModel", "next", "()V"⟩, 40), (⟨"OneBellModel", "see", "(I)I"⟩, 40), (⟨"OneBellModel", "keyAt", "()I"⟩, 40), (⟨"OneBellModel", "readLine", "()V"⟩, 40), (⟨"OneBellModel", "is", "(I)Z"⟩, 40), (⟨"OneBellModel", "readRooms", "()V"⟩, 40), (⟨"OneBellModel", "fails", "(I)V"⟩, 40), (⟨"OneBellModel", "takes", "(II)I"⟩, 40), (⟨"OneBellModel", "readTones", "()V"⟩, 40)]
theorem lw_r4 : ∀ q ∈ lw_privs_4, lw_okq q := List.forall_mem_cons.mpr ⟨lw_p48, List.forall_mem_cons.mpr ⟨lw_p49, List.forall_mem_cons.mpr ⟨lw_p50, List.forall_mem_cons.mpr ⟨lw_p51, List.forall_mem_cons.mpr ⟨lw_p52, List.forall_mem_cons.mpr ⟨lw_p53, List.forall_mem_cons.mpr ⟨lw_p54, List.forall_mem_cons.mpr ⟨lw_p55, List.forall_mem_cons.mpr ⟨lw_p56, List.forall_mem_cons.mpr ⟨lw_p57, List.forall_mem_cons.mpr ⟨lw_p58, List.forall_mem_cons.mpr ⟨lw_p59, List.forall_mem_cons.mpr ⟨lw_p60, List.forall_mem_cons.mpr ⟨lw_p61, List.forall_mem_cons.mpr ⟨lw_p62, List.forall_mem_cons.mpr ⟨lw_p63, fun _ h => absurd h List.not_mem_nil⟩⟩⟩⟩⟩⟩⟩⟩⟩⟩⟩⟩⟩⟩⟩⟩
theorem lw_p64 : lw_okq (⟨"OneBellModel", "readWaiter", "()V"⟩, 40) := ⟨⟨by decide +kernel, by decide +kernel⟩, List.mem_of_getElem? (i := 1194) (by decide +kernel), List.mem_of_getElem? (i := 1382) (by decide +kernel), List.mem_of_getElem? (i := 1383) (by decide +kernel)⟩
theorem lw_p65 : lw_okq (⟨"OneBellModel", "takesRoom", "()I"⟩, 40) := ⟨⟨by decide +kernel, by decide +kernel⟩, List.mem_of_getElem? (i := 1194) (by decide +kernel), List.mem_of_getElem? (i := 1386) (by decide +kernel), List.mem_of_getElem? (i := 1387) (by decide +kernel)⟩
theorem lw_p66 : lw_okq (⟨"OneBellModel", "eats", "(I)Z"⟩, 40) := ⟨⟨by decide +kernel, by decide +kernel⟩, List.mem_of_getElem? (i := 1194) (by decide +kernel), List.mem_of_getElem? (i := 1390) (by decide +kernel), List.mem_of_getElem? (i := 1391) (by decide +kernel)⟩
theorem lw_p67 : lw_okq (⟨"OneBellModel", "readLead", "()V"⟩, 40) := ⟨⟨by decide +kernel, by decide +kernel⟩, List.mem_of_getElem? (i := 1194) (by decide +kernel), List.mem_of_getElem? (i := 1394) (by decide +kernel), List.mem_of_getElem? (i := 1395) (by decide +kernel)⟩
theorem lw_p68 : lw_okq (⟨"OneBellModel", "readChance", "()V"⟩, 40) := ⟨⟨by decide +kernel, by decide +kernel⟩, List.mem_of_getElem? (i := 1194) (by decide +kernel), List.mem_of_getElem? (i := 1398) (by decide +kernel), List.mem_of_getElem? (i := 1399) (by decide +kernel)⟩
theorem lw_p69 : lw_okq (⟨"OneBellModel", "takesTone", "()I"⟩, 40) := ⟨⟨by decide +kernel, by decide +kernel⟩, List.mem_of_getElem? (i := 1194) (by decide +kernel), List.mem_of_getElem? (i := 1402) (by decide +kernel), List.mem_of_getElem? (i := 1403) (by decide +kernel)⟩
theorem lw_p70 : lw_okq (⟨"OneBellModel", "readStuck", "()V"⟩, 40) := ⟨⟨by decide +kernel, by decide +kernel⟩, List.mem_of_getElem? (i := 1194) (by decide +kernel), List.mem_of_getElem? (i := 1406) (by decide +kernel), List.mem_of_getElem? (i := 1407) (by decide +kernel)⟩
theorem lw_p71 : lw_okq (⟨"OneBellModel", "readSign", "()V"⟩, 40) := ⟨⟨by decide +kernel, by decide +kernel⟩, List.mem_of_getElem? (i := 1194) (by decide +kernel), List.mem_of_getElem? (i := 1410) (by decide +kernel), List.mem_of_getElem? (i := 1411) (by decide +kernel)⟩
theorem lw_p72 : lw_okq (⟨"OneBellModel", "needs", "(I)V"⟩, 40) := ⟨⟨by decide +kernel, by decide +kernel⟩, List.mem_of_getElem? (i := 1194) (by decide +kernel), List.mem_of_getElem? (i := 1414) (by decide +kernel), List.mem_of_getElem? (i := 1415) (by decide +kernel)⟩
theorem lw_p73 : lw_okq (⟨"OneBellModel", "isRoom", "(I)Z"⟩, 40) := ⟨⟨by decide +kernel, by decide +kernel⟩, List.mem_of_getElem? (i := 1194) (by decide +kernel), List.mem_of_getElem? (i := 1426) (by decide +kernel), List.mem_of_getElem? (i := 1427) (by decide +kernel)⟩
theorem lw_p74 : lw_okq (⟨"OneBellModel", "plain", "(II)I"⟩, 40) := ⟨⟨by decide +kernel, by decide +kernel⟩, List.mem_of_getElem? (i := 1194) (by decide +kernel), List.mem_of_getElem? (i := 1431) (by decide +kernel), List.mem_of_getElem? (i := 1432) (by decide +kernel)⟩
theorem lw_p75 : lw_okq (⟨"OneBellModel", "isWaiter", "(I)Z"⟩, 40) := ⟨⟨by decide +kernel, by decide +kernel⟩, List.mem_of_getElem? (i := 1194) (by decide +kernel), List.mem_of_getElem? (i := 1443) (by decide +kernel), List.mem_of_getElem? (i := 1444) (by decide +kernel)⟩
theorem lw_p76 : lw_okq (⟨"OneBellModel", "mayOf", "(II)I"⟩, 40) := ⟨⟨by decide +kernel, by decide +kernel⟩, List.mem_of_getElem? (i := 1194) (by decide +kernel), List.mem_of_getElem? (i := 1451) (by decide +kernel), List.mem_of_getElem? (i := 1452) (by decide +kernel)⟩
theorem lw_p77 : lw_okq (⟨"OneBellModel", "firstWrong", "(I)I"⟩, 40) := ⟨⟨by decide +kernel, by decide +kernel⟩, List.mem_of_getElem? (i := 1194) (by decide +kernel), List.mem_of_getElem? (i := 1460) (by decide +kernel), List.mem_of_getElem? (i := 1461) (by decide +kernel)⟩
theorem lw_p78 : lw_okq (⟨"OneBellModel", "refuses", "(I)I"⟩, 40) := ⟨⟨by decide +kernel, by decide +kernel⟩, List.mem_of_getElem? (i := 1194) (by decide +kernel), List.mem_of_getElem? (i := 1468) (by decide +kernel), List.mem_of_getElem? (i := 1469) (by decide +kernel)⟩
theorem lw_p79 : lw_okq (⟨"OneBellModel", "walks", "(III)I"⟩, 40) := ⟨⟨by decide +kernel, by decide +kernel⟩, List.mem_of_getElem? (i := 1194) (by decide +kernel), List.mem_of_getElem? (i := 1472) (by decide +kernel), List.mem_of_getElem? (i := 1473) (by decide +kernel)⟩
def lw_privs_5 : List (MethodName × Nat) := [(⟨"OneBellModel", "readWaiter", "()V"⟩, 40), (⟨"OneBellModel", "takesRoom", "()I"⟩, 40), (⟨"OneBellModel", "eats", "(I)Z"⟩, 40), (⟨"OneBellModel", "readLead", "()V"⟩, 40), (⟨"OneBellModel", "readChance", "()V"⟩, 40), (⟨"OneBellModel", "takesTone", "()I"⟩, 40), (⟨"OneBellModel", "readStuck", "()V"⟩, 40), (⟨"OneBellModel", "readSign", "()V"⟩, 40), (⟨"OneBellModel", "needs", "(I)V"⟩, 40), (⟨"OneBellModel", "isRoom", "(I)Z"⟩, 40), (⟨"OneBellModel", "plain", "(II)I"⟩, 40), (⟨"OneBellModel", "isWaiter", "(I)Z"⟩, 40), (⟨"OneBellModel", "mayOf", "(II)I"⟩, 40), (⟨"OneBellModel", "firstWrong", "(I)I"⟩, 40), (⟨"OneBellModel", "refuses", "(I)I"⟩, 40), (⟨"OneBellModel", "walks", "(III)I"⟩, 40)]
theorem lw_r5 : ∀ q ∈ lw_privs_5, lw_okq q := List.forall_mem_cons.mpr ⟨lw_p64, List.forall_mem_cons.mpr ⟨lw_p65, List.forall_mem_cons.mpr ⟨lw_p66, List.forall_mem_cons.mpr ⟨lw_p67, List.forall_mem_cons.mpr ⟨lw_p68, List.forall_mem_cons.mpr ⟨lw_p69, List.forall_mem_cons.mpr ⟨lw_p70, List.forall_mem_cons.mpr ⟨lw_p71, List.forall_mem_cons.mpr ⟨lw_p72, List.forall_mem_cons.mpr ⟨lw_p73, List.forall_mem_cons.mpr ⟨lw_p74, List.forall_mem_cons.mpr ⟨lw_p75, List.forall_mem_cons.mpr ⟨lw_p76, List.forall_mem_cons.mpr ⟨lw_p77, List.forall_mem_cons.mpr ⟨lw_p78, List.forall_mem_cons.mpr ⟨lw_p79, fun _ h => absurd h List.not_mem_nil⟩⟩⟩⟩⟩⟩⟩⟩⟩⟩⟩⟩⟩⟩⟩⟩
theorem lw_p80 : lw_okq (⟨"OneBellModel", "toneAt", "(II)I"⟩, 40) := ⟨⟨by decide +kernel, by decide +kernel⟩, List.mem_of_getElem? (i := 1194) (by decide +kernel), List.mem_of_getElem? (i := 1476) (by decide +kernel), List.mem_of_getElem? (i := 1477) (by decide +kernel)⟩
theorem lw_p81 : lw_okq (⟨"OneBellModel", "meetsAt", "(II)I"⟩, 40) := ⟨⟨by decide +kernel, by decide +kernel⟩, List.mem_of_getElem? (i := 1194) (by decide +kernel), List.mem_of_getElem? (i := 1484) (by decide +kernel), List.mem_of_getElem? (i := 1485) (by decide +kernel)⟩
theorem lw_p82 : lw_okq (⟨"OneBellModel", "amissAt", "(II)I"⟩, 40) := ⟨⟨by decide +kernel, by decide +kernel⟩, List.mem_of_getElem? (i := 1194) (by decide +kernel), List.mem_of_getElem? (i := 1492) (by decide +kernel), List.mem_of_getElem? (i := 1493) (by decide +kernel)⟩
theorem lw_p83 : lw_okq (⟨"OneBellModel", "isSet", "(I)Z"⟩, 40) := ⟨⟨by decide +kernel, by decide +kernel⟩, List.mem_of_getElem? (i := 1194) (by decide +kernel), List.mem_of_getElem? (i := 1504) (by decide +kernel), List.mem_of_getElem? (i := 1505) (by decide +kernel)⟩
theorem lw_p84 : lw_okq (⟨"OneBellModel", "brought", "(III)I"⟩, 40) := ⟨⟨by decide +kernel, by decide +kernel⟩, List.mem_of_getElem? (i := 1194) (by decide +kernel), List.mem_of_getElem? (i := 1512) (by decide +kernel), List.mem_of_getElem? (i := 1513) (by decide +kernel)⟩
theorem lw_p85 : lw_okq (⟨"OneBellModel", "bringsTo", "(III)I"⟩, 40) := ⟨⟨by decide +kernel, by decide +kernel⟩, List.mem_of_getElem? (i := 1194) (by decide +kernel), List.mem_of_getElem? (i := 1516) (by decide +kernel), List.mem_of_getElem? (i := 1517) (by decide +kernel)⟩
theorem lw_p86 : lw_okq (⟨"OneBellModel", "begins", "()V"⟩, 40) := ⟨⟨by decide +kernel, by decide +kernel⟩, List.mem_of_getElem? (i := 1194) (by decide +kernel), List.mem_of_getElem? (i := 1520) (by decide +kernel), List.mem_of_getElem? (i := 1521) (by decide +kernel)⟩
theorem lw_p87 : lw_okq (⟨"OneBellModel", "comes", "(IIII)Z"⟩, 40) := ⟨⟨by decide +kernel, by decide +kernel⟩, List.mem_of_getElem? (i := 1194) (by decide +kernel), List.mem_of_getElem? (i := 1524) (by decide +kernel), List.mem_of_getElem? (i := 1525) (by decide +kernel)⟩
theorem lw_p88 : lw_okq (⟨"OneBellModel", "isGoal", "(II)Z"⟩, 40) := ⟨⟨by decide +kernel, by decide +kernel⟩, List.mem_of_getElem? (i := 1194) (by decide +kernel), List.mem_of_getElem? (i := 1530) (by decide +kernel), List.mem_of_getElem? (i := 1531) (by decide +kernel)⟩
theorem lw_p89 : lw_okq (⟨"OneBellModel", "foundIf", "(I)I"⟩, 40) := ⟨⟨by decide +kernel, by decide +kernel⟩, List.mem_of_getElem? (i := 1194) (by decide +kernel), List.mem_of_getElem? (i := 1537) (by decide +kernel), List.mem_of_getElem? (i := 1538) (by decide +kernel)⟩
theorem lw_p90 : lw_okq (⟨"OneBellModel", "lengthTo", "(I)I"⟩, 40) := ⟨⟨by decide +kernel, by decide +kernel⟩, List.mem_of_getElem? (i := 1194) (by decide +kernel), List.mem_of_getElem? (i := 1541) (by decide +kernel), List.mem_of_getElem? (i := 1542) (by decide +kernel)⟩
theorem lw_p91 : lw_okq (⟨"OneBellModel", "keeps", "(I)I"⟩, 40) := ⟨⟨by decide +kernel, by decide +kernel⟩, List.mem_of_getElem? (i := 1194) (by decide +kernel), List.mem_of_getElem? (i := 1545) (by decide +kernel), List.mem_of_getElem? (i := 1546) (by decide +kernel)⟩
theorem lw_p92 : lw_okq (⟨"OneBellModel", "meetsBy", "(II)I"⟩, 40) := ⟨⟨by decide +kernel, by decide +kernel⟩, List.mem_of_getElem? (i := 1194) (by decide +kernel), List.mem_of_getElem? (i := 1561) (by decide +kernel), List.mem_of_getElem? (i := 1562) (by decide +kernel)⟩
theorem lw_p93 : lw_okq (⟨"OneBellModel", "plainOf", "(II)I"⟩, 40) := ⟨⟨by decide +kernel, by decide +kernel⟩, List.mem_of_getElem? (i := 1194) (by decide +kernel), List.mem_of_getElem? (i := 1573) (by decide +kernel), List.mem_of_getElem? (i := 1574) (by decide +kernel)⟩
theorem lw_p94 : lw_okq (⟨"OneBellModel", "isHome", "(I)Z"⟩, 40) := ⟨⟨by decide +kernel, by decide +kernel⟩, List.mem_of_getElem? (i := 1194) (by decide +kernel), List.mem_of_getElem? (i := 1585) (by decide +kernel), List.mem_of_getElem? (i := 1586) (by decide +kernel)⟩
theorem lw_p95 : lw_okq (⟨"OneBellModel", "meetsOn", "(III)Z"⟩, 40) := ⟨⟨by decide +kernel, by decide +kernel⟩, List.mem_of_getElem? (i := 1194) (by decide +kernel), List.mem_of_getElem? (i := 1589) (by decide +kernel), List.mem_of_getElem? (i := 1590) (by decide +kernel)⟩
def lw_privs_6 : List (MethodName × Nat) := [(⟨"OneBellModel", "toneAt", "(II)I"⟩, 40), (⟨"OneBellModel", "meetsAt", "(II)I"⟩, 40), (⟨"OneBellModel", "amissAt", "(II)I"⟩, 40), (⟨"OneBellModel", "isSet", "(I)Z"⟩, 40), (⟨"OneBellModel", "brought", "(III)I"⟩, 40), (⟨"OneBellModel", "bringsTo", "(III)I"⟩, 40), (⟨"OneBellModel", "begins", "()V"⟩, 40), (⟨"OneBellModel", "comes", "(IIII)Z"⟩, 40), (⟨"OneBellModel", "isGoal", "(II)Z"⟩, 40), (⟨"OneBellModel", "foundIf", "(I)I"⟩, 40), (⟨"OneBellModel", "lengthTo", "(I)I"⟩, 40), (⟨"OneBellModel", "keeps", "(I)I"⟩, 40), (⟨"OneBellModel", "meetsBy", "(II)I"⟩, 40), (⟨"OneBellModel", "plainOf", "(II)I"⟩, 40), (⟨"OneBellModel", "isHome", "(I)Z"⟩, 40), (⟨"OneBellModel", "meetsOn", "(III)Z"⟩, 40)]
theorem lw_r6 : ∀ q ∈ lw_privs_6, lw_okq q := List.forall_mem_cons.mpr ⟨lw_p80, List.forall_mem_cons.mpr ⟨lw_p81, List.forall_mem_cons.mpr ⟨lw_p82, List.forall_mem_cons.mpr ⟨lw_p83, List.forall_mem_cons.mpr ⟨lw_p84, List.forall_mem_cons.mpr ⟨lw_p85, List.forall_mem_cons.mpr ⟨lw_p86, List.forall_mem_cons.mpr ⟨lw_p87, List.forall_mem_cons.mpr ⟨lw_p88, List.forall_mem_cons.mpr ⟨lw_p89, List.forall_mem_cons.mpr ⟨lw_p90, List.forall_mem_cons.mpr ⟨lw_p91, List.forall_mem_cons.mpr ⟨lw_p92, List.forall_mem_cons.mpr ⟨lw_p93, List.forall_mem_cons.mpr ⟨lw_p94, List.forall_mem_cons.mpr ⟨lw_p95, fun _ h => absurd h List.not_mem_nil⟩⟩⟩⟩⟩⟩⟩⟩⟩⟩⟩⟩⟩⟩⟩⟩
theorem lw_p96 : lw_okq (⟨"OneBellModel", "begins2", "()V"⟩, 40) := ⟨⟨by decide +kernel, by decide +kernel⟩, List.mem_of_getElem? (i := 1194) (by decide +kernel), List.mem_of_getElem? (i := 1611) (by decide +kernel), List.mem_of_getElem? (i := 1612) (by decide +kernel)⟩
theorem lw_p97 : lw_okq (⟨"OneBellModel", "joinsSeen", "()V"⟩, 40) := ⟨⟨by decide +kernel, by decide +kernel⟩, List.mem_of_getElem? (i := 1194) (by decide +kernel), List.mem_of_getElem? (i := 1615) (by decide +kernel), List.mem_of_getElem? (i := 1616) (by decide +kernel)⟩
theorem lw_p98 : lw_okq (⟨"OneBellModel", "rings", "(I)V"⟩, 40) := ⟨⟨by decide +kernel, by decide +kernel⟩, List.mem_of_getElem? (i := 1194) (by decide +kernel), List.mem_of_getElem? (i := 1619) (by decide +kernel), List.mem_of_getElem? (i := 1620) (by decide +kernel)⟩
theorem lw_p99 : lw_okq (⟨"OneBellModel", "doubts", "(IZ)I"⟩, 40) := ⟨⟨by decide +kernel, by decide +kernel⟩, List.mem_of_getElem? (i := 1194) (by decide +kernel), List.mem_of_getElem? (i := 1623) (by decide +kernel), List.mem_of_getElem? (i := 1624) (by decide +kernel)⟩
theorem lw_p100 : lw_okq (⟨"OneBellModel", "worstOf", "(I)I"⟩, 40) := ⟨⟨by decide +kernel, by decide +kernel⟩, List.mem_of_getElem? (i := 1194) (by decide +kernel), List.mem_of_getElem? (i := 1635) (by decide +kernel), List.mem_of_getElem? (i := 1636) (by decide +kernel)⟩
theorem lw_p101 : lw_okq (⟨"OneBellModel", "provesBy", "(II)I"⟩, 40) := ⟨⟨by decide +kernel, by decide +kernel⟩, List.mem_of_getElem? (i := 1194) (by decide +kernel), List.mem_of_getElem? (i := 1646) (by decide +kernel), List.mem_of_getElem? (i := 1647) (by decide +kernel)⟩
theorem lw_p102 : lw_okq (⟨"OneBellModel", "isWell", "(I)Z"⟩, 40) := ⟨⟨by decide +kernel, by decide +kernel⟩, List.mem_of_getElem? (i := 1194) (by decide +kernel), List.mem_of_getElem? (i := 1662) (by decide +kernel), List.mem_of_getElem? (i := 1663) (by decide +kernel)⟩
theorem lw_p103 : lw_okq (⟨"OneBellModel", "areIn", "(II)Z"⟩, 40) := ⟨⟨by decide +kernel, by decide +kernel⟩, List.mem_of_getElem? (i := 1194) (by decide +kernel), List.mem_of_getElem? (i := 1666) (by decide +kernel), List.mem_of_getElem? (i := 1667) (by decide +kernel)⟩
theorem lw_p104 : lw_okq (⟨"OneBellModel", "rungOn", "(II)I"⟩, 40) := ⟨⟨by decide +kernel, by decide +kernel⟩, List.mem_of_getElem? (i := 1194) (by decide +kernel), List.mem_of_getElem? (i := 1670) (by decide +kernel), List.mem_of_getElem? (i := 1671) (by decide +kernel)⟩
theorem lw_p105 : lw_okq (⟨"OneBellModel", "laysApart", "(I)V"⟩, 40) := ⟨⟨by decide +kernel, by decide +kernel⟩, List.mem_of_getElem? (i := 1194) (by decide +kernel), List.mem_of_getElem? (i := 1683) (by decide +kernel), List.mem_of_getElem? (i := 1684) (by decide +kernel)⟩
theorem lw_p106 : lw_okq (⟨"OneBellModel", "laysParts", "(I)V"⟩, 40) := ⟨⟨by decide +kernel, by decide +kernel⟩, List.mem_of_getElem? (i := 1194) (by decide +kernel), List.mem_of_getElem? (i := 1701) (by decide +kernel), List.mem_of_getElem? (i := 1702) (by decide +kernel)⟩
theorem lw_p107 : lw_okq (⟨"OneBellModel", "ringsParts", "(I)V"⟩, 40) := ⟨⟨by decide +kernel, by decide +kernel⟩, List.mem_of_getElem? (i := 1194) (by decide +kernel), List.mem_of_getElem? (i := 1705) (by decide +kernel), List.mem_of_getElem? (i := 1706) (by decide +kernel)⟩
theorem lw_p108 : lw_okq (⟨"OneBellModel", "thereBy", "(I)I"⟩, 40) := ⟨⟨by decide +kernel, by decide +kernel⟩, List.mem_of_getElem? (i := 1194) (by decide +kernel), List.mem_of_getElem? (i := 1713) (by decide +kernel), List.mem_of_getElem? (i := 1714) (by decide +kernel)⟩
theorem lw_p109 : lw_okq (⟨"OneBellModel", "chances", "()I"⟩, 40) := ⟨⟨by decide +kernel, by decide +kernel⟩, List.mem_of_getElem? (i := 1194) (by decide +kernel), List.mem_of_getElem? (i := 1762) (by decide +kernel), List.mem_of_getElem? (i := 1763) (by decide +kernel)⟩
def lw_privs_7 : List (MethodName × Nat) := [(⟨"OneBellModel", "begins2", "()V"⟩, 40), (⟨"OneBellModel", "joinsSeen", "()V"⟩, 40), (⟨"OneBellModel", "rings", "(I)V"⟩, 40), (⟨"OneBellModel", "doubts", "(IZ)I"⟩, 40), (⟨"OneBellModel", "worstOf", "(I)I"⟩, 40), (⟨"OneBellModel", "provesBy", "(II)I"⟩, 40), (⟨"OneBellModel", "isWell", "(I)Z"⟩, 40), (⟨"OneBellModel", "areIn", "(II)Z"⟩, 40), (⟨"OneBellModel", "rungOn", "(II)I"⟩, 40), (⟨"OneBellModel", "laysApart", "(I)V"⟩, 40), (⟨"OneBellModel", "laysParts", "(I)V"⟩, 40), (⟨"OneBellModel", "ringsParts", "(I)V"⟩, 40), (⟨"OneBellModel", "thereBy", "(I)I"⟩, 40), (⟨"OneBellModel", "chances", "()I"⟩, 40)]
theorem lw_r7 : ∀ q ∈ lw_privs_7, lw_okq q := List.forall_mem_cons.mpr ⟨lw_p96, List.forall_mem_cons.mpr ⟨lw_p97, List.forall_mem_cons.mpr ⟨lw_p98, List.forall_mem_cons.mpr ⟨lw_p99, List.forall_mem_cons.mpr ⟨lw_p100, List.forall_mem_cons.mpr ⟨lw_p101, List.forall_mem_cons.mpr ⟨lw_p102, List.forall_mem_cons.mpr ⟨lw_p103, List.forall_mem_cons.mpr ⟨lw_p104, List.forall_mem_cons.mpr ⟨lw_p105, List.forall_mem_cons.mpr ⟨lw_p106, List.forall_mem_cons.mpr ⟨lw_p107, List.forall_mem_cons.mpr ⟨lw_p108, List.forall_mem_cons.mpr ⟨lw_p109, fun _ h => absurd h List.not_mem_nil⟩⟩⟩⟩⟩⟩⟩⟩⟩⟩⟩⟩⟩⟩
def lw_privs : List (MethodName × Nat) := lw_privs_1 ++ (lw_privs_2 ++ (lw_privs_3 ++ (lw_privs_4 ++ (lw_privs_5 ++ (lw_privs_6 ++ (lw_privs_7))))))
def lw_tbl : List Cond := k2_sels lw_privs ++ tables_1
theorem lw_privs_ok : ∀ q ∈ lw_privs, lw_okq q := by
  show ∀ q ∈ lw_privs_1 ++ (lw_privs_2 ++ (lw_privs_3 ++ (lw_privs_4 ++ (lw_privs_5 ++ (lw_privs_6 ++ (lw_privs_7)))))), lw_okq q
  exact List.forall_mem_append.mpr ⟨lw_r1, List.forall_mem_append.mpr ⟨lw_r2, List.forall_mem_append.mpr ⟨lw_r3, List.forall_mem_append.mpr ⟨lw_r4, List.forall_mem_append.mpr ⟨lw_r5, List.forall_mem_append.mpr ⟨lw_r6, lw_r7⟩⟩⟩⟩⟩⟩
end
section
/-! the program: classes, fields, methods, their instructions with what they link (printed by wip/gen2.py from the claim's own files) -/
abbrev ai_R : Type := Nat × Instr × Nat × Value × Nat × Nat × Nat × Nat
abbrev ai_M : Type := Nat × MethodName × ByteArray × Nat × Option FieldType × Nat × Nat × Nat × Nat × Nat × Nat × Nat × List ai_R
def an_0 : String := "OneBell$Chances"
def an_1 : String := "OneBell$Company"
def an_2 : String := "OneBell$House"
def an_3 : String := "OneBell$NumberRow"
def an_4 : String := "OneBell$Pairs"
def an_5 : String := "OneBell$Reader"
def an_6 : String := "OneBell$Route"
def an_7 : String := "OneBell$Search"
def an_8 : String := "OneBell$Sets"
def an_9 : String := "OneBell$Sight"
def an_10 : String := "OneBell"
def an_11 : String := "OneBellModel"
def an_12 : String := "OneBellLaw"
def an_13 : String := "java/lang/Integer"
def an_14 : String := "java/lang/Math"
def an_15 : String := "java/util/Arrays"
def ai_cn : List String := [an_0, an_1, an_2, an_3, an_4, an_5, an_6, an_7, an_8, an_9, an_10, an_11, an_12, an_13, an_14, an_15]
def ai_ip : List Nat := [7010, 7008, 7003, 7011, 7007, 7002, 7004, 7005, 7006, 7009, 7001, 7012, 7000, 7020, 7013, 7014]
def at_0 : u_T := fun k => match k with
  | 0 => ("OneBell$Chances", "house", "LOneBell$House;", true)
  | 1 => ("OneBell$Chances", "parts", "[J", true)
  | _ => ("OneBell$Chances", "nextParts", "[J", true)
def al_0 : List Nat := [8051, 8053, 8055]
def ad_0 : List Value := [.null, .null, .null]
def at_1 : u_T := fun k => match k with
  | 0 => ("OneBell$Company", "house", "LOneBell$House;", true)
  | 1 => ("OneBell$Company", "search", "LOneBell$Search;", true)
  | 2 => ("OneBell$Company", "spots", "[I", true)
  | 3 => ("OneBell$Company", "led", "[I", true)
  | _ => ("OneBell$Company", "ledCount", "I", false)
def al_1 : List Nat := [8009, 8011, 8013, 8015, 8017]
def ad_1 : List Value := [.null, .null, .null, .null, .int 0]
def at_2 : u_T := fun k => match k with
  | 0 => ("OneBell$House", "rooms", "I", false)
  | 1 => ("OneBell$House", "tones", "I", false)
  | 2 => ("OneBell$House", "lines", "I", false)
  | 3 => ("OneBell$House", "pantry", "I", false)
  | 4 => ("OneBell$House", "waiters", "I", false)
  | 5 => ("OneBell$House", "barred", "I", false)
  | 6 => ("OneBell$House", "neverForTwo", "I", false)
  | 7 => ("OneBell$House", "plain", "[I", true)
  | 8 => ("OneBell$House", "other", "[I", true)
  | 9 => ("OneBell$House", "hundredths", "[I", true)
  | 10 => ("OneBell$House", "signs", "[I", true)
  | _ => ("OneBell$House", "stands", "[I", true)
def al_2 : List Nat := [7110, 7112, 7114, 7116, 7118, 7120, 7122, 7124, 7126, 7128, 7130, 7132]
def ad_2 : List Value := [.int 0, .int 0, .int 0, .int 0, .int 0, .int 0, .int 0, .null, .null, .null, .null, .null]
def at_3 : u_T := fun k => match k with
  | 0 => ("OneBell$NumberRow", "size", "I", false)
  | 1 => ("OneBell$NumberRow", "sort", "I", false)
  | _ => ("OneBell$NumberRow", "values", "[J", true)
def al_3 : List Nat := [8067, 8069, 8071]
def ad_3 : List Value := [.int 0, .int 0, .null]
def at_4 : u_T := fun k => match k with
  | 0 => ("OneBell$Pairs", "needed", "[I", true)
  | 1 => ("OneBell$Pairs", "homeWith", "[I", true)
  | 2 => ("OneBell$Pairs", "tally", "[I", true)
  | 3 => ("OneBell$Pairs", "nextTally", "[I", true)
  | _ => ("OneBell$Pairs", "apartFor", "[J", true)
def al_4 : List Nat := [7226, 7228, 7230, 7232, 7234]
def ad_4 : List Value := [.null, .null, .null, .null, .null]
def at_5 : u_T := fun k => match k with
  | 0 => ("OneBell$Reader", "faultKind", "I", false)
  | 1 => ("OneBell$Reader", "faultPlace", "I", false)
  | 2 => ("OneBell$Reader", "text", "[I", false)
  | 3 => ("OneBell$Reader", "length", "I", false)
  | 4 => ("OneBell$Reader", "token", "I", false)
  | 5 => ("OneBell$Reader", "start", "I", false)
  | _ => ("OneBell$Reader", "end", "I", false)
def al_5 : List Nat := [7044, 7046, 7048, 7050, 7052, 7054, 7056]
def ad_5 : List Value := [.int 0, .int 0, .null, .int 0, .int 0, .int 0, .int 0]
def at_6 : u_T := fun k => match k with
  | 0 => ("OneBell$Route", "length", "I", false)
  | _ => ("OneBell$Route", "tones", "[I", true)
def al_6 : List Nat := [7146, 7148]
def ad_6 : List Value := [.int 0, .null]
def at_7 : u_T := fun k => match k with
  | 0 => ("OneBell$Search", "capacity", "I", true)
  | 1 => ("OneBell$Search", "mask", "I", true)
  | 2 => ("OneBell$Search", "slots", "[I", false)
  | 3 => ("OneBell$Search", "states", "[I", false)
  | 4 => ("OneBell$Search", "from", "[I", false)
  | 5 => ("OneBell$Search", "base", "I", false)
  | _ => ("OneBell$Search", "many", "I", false)
def al_7 : List Nat := [7168, 7170, 7172, 7174, 7176, 7178, 7180]
def ad_7 : List Value := [.int 0, .int 0, .null, .null, .null, .int 0, .int 0]
def at_8 : u_T := fun k => match k with
  | 0 => ("OneBell$Sets", "house", "LOneBell$House;", true)
  | 1 => ("OneBell$Sets", "search", "LOneBell$Search;", true)
  | 2 => ("OneBell$Sets", "images", "[I", true)
  | 3 => ("OneBell$Sets", "bySign", "[I", true)
  | 4 => ("OneBell$Sets", "signCount", "I", false)
  | 5 => ("OneBell$Sets", "openCount", "I", false)
  | 6 => ("OneBell$Sets", "values", "[I", false)
  | _ => ("OneBell$Sets", "nextValues", "[I", false)
def al_8 : List Nat := [7198, 7200, 7202, 7204, 7206, 7208, 7210, 7212]
def ad_8 : List Value := [.null, .null, .null, .null, .int 0, .int 0, .null, .null]
def at_9 : u_T := fun k => match k with
  | 0 => ("OneBell$Sight", "house", "LOneBell$House;", true)
  | 1 => ("OneBell$Sight", "spots", "[I", true)
  | 2 => ("OneBell$Sight", "untold", "[I", true)
  | 3 => ("OneBell$Sight", "bySign", "[I", true)
  | _ => ("OneBell$Sight", "bySpot", "[I", true)
def al_9 : List Nat := [8031, 8033, 8035, 8037, 8039]
def ad_9 : List Value := [.null, .null, .null, .null, .null]
def at_10 : u_T := fun k => match k with
  | 0 => ("OneBell", "tape", "[I", true)
  | 1 => ("OneBell", "taped", "I", false)
  | 2 => ("OneBell", "reader", "LOneBell$Reader;", true)
  | 3 => ("OneBell", "told", "LOneBell$House;", true)
  | 4 => ("OneBell", "draft", "LOneBell$House;", true)
  | 5 => ("OneBell", "result", "LOneBell$Route;", true)
  | 6 => ("OneBell", "rung", "LOneBell$Route;", true)
  | 7 => ("OneBell", "rows", "[LOneBell$NumberRow;", true)
  | 8 => ("OneBell", "keptHouses", "[LOneBell$House;", true)
  | 9 => ("OneBell", "keptResults", "[LOneBell$Route;", true)
  | 10 => ("OneBell", "search", "LOneBell$Search;", true)
  | 11 => ("OneBell", "lostSearch", "LOneBell$Search;", true)
  | 12 => ("OneBell", "sets", "LOneBell$Sets;", true)
  | 13 => ("OneBell", "pairs", "LOneBell$Pairs;", true)
  | 14 => ("OneBell", "company", "LOneBell$Company;", true)
  | 15 => ("OneBell", "sight", "LOneBell$Sight;", true)
  | _ => ("OneBell", "chances", "LOneBell$Chances;", true)
def al_10 : List Nat := [8091, 8093, 8095, 8097, 8099, 8101, 8103, 8105, 8107, 8109, 8111, 8113, 8115, 8117, 8119, 8121, 8123]
def ad_10 : List Value := [.null, .int 0, .null, .null, .null, .null, .null, .null, .null, .null, .null, .null, .null, .null, .null, .null, .null]
def at_11 : u_T := fun k => match k with
  | 0 => ("OneBellModel", "thrown", "I", false)
  | 1 => ("OneBellModel", "all", "[I", true)
  | 2 => ("OneBellModel", "hasImage", "[Z", true)
  | 3 => ("OneBellModel", "tape", "[I", true)
  | 4 => ("OneBellModel", "fresh", "[I", true)
  | 5 => ("OneBellModel", "taped", "I", false)
  | 6 => ("OneBellModel", "at", "I", false)
  | 7 => ("OneBellModel", "behind", "I", false)
  | 8 => ("OneBellModel", "size", "I", false)
  | 9 => ("OneBellModel", "kind", "I", false)
  | 10 => ("OneBellModel", "number", "I", false)
  | 11 => ("OneBellModel", "wrong", "I", false)
  | 12 => ("OneBellModel", "wrongAt", "I", false)
  | 13 => ("OneBellModel", "faultKind", "I", false)
  | 14 => ("OneBellModel", "faultPlace", "I", false)
  | 15 => ("OneBellModel", "states", "[I", true)
  | 16 => ("OneBellModel", "others", "[I", true)
  | 17 => ("OneBellModel", "ahead", "[I", true)
  | 18 => ("OneBellModel", "tones", "[I", true)
  | 19 => ("OneBellModel", "spot", "[I", true)
  | 20 => ("OneBellModel", "spotMark", "[I", true)
  | 21 => ("OneBellModel", "many", "I", false)
  | 22 => ("OneBellModel", "mark", "I", false)
  | 23 => ("OneBellModel", "laid", "[I", true)
  | 24 => ("OneBellModel", "canMeet", "[Z", true)
  | 25 => ("OneBellModel", "waysNow", "[J", true)
  | 26 => ("OneBellModel", "waysThen", "[J", true)
  | 27 => ("OneBellModel", "nowAt", "[I", true)
  | 28 => ("OneBellModel", "seen", "[I", true)
  | 29 => ("OneBellModel", "oldSeen", "[I", true)
  | 30 => ("OneBellModel", "knows", "[I", true)
  | 31 => ("OneBellModel", "apart", "[J", true)
  | 32 => ("OneBellModel", "canBe", "[Z", true)
  | 33 => ("OneBellModel", "partsNow", "[J", true)
  | 34 => ("OneBellModel", "partsThen", "[J", true)
  | 35 => ("OneBellModel", "tried", "[I", true)
  | 36 => ("OneBellModel", "standing", "[I", true)
  | 37 => ("OneBellModel", "rowSort", "[I", true)
  | 38 => ("OneBellModel", "rowMany", "[I", true)
  | _ => ("OneBellModel", "numbers", "[J", true)
def al_11 : List Nat := [12040, 12042, 12044, 12046, 12048, 12050, 12052, 12054, 12056, 12058, 12060, 12062, 12064, 12066, 12068, 12070, 12072, 12074, 12076, 12078, 12080, 12082, 12084, 12086, 12088, 12090, 12092, 12094, 12096, 12098, 12100, 12102, 12104, 12106, 12108, 12110, 12112, 12114, 12116, 12118]
def ad_11 : List Value := [.int 0, .null, .null, .null, .null, .int 0, .int 0, .int 0, .int 0, .int 0, .int 0, .int 0, .int 0, .int 0, .int 0, .null, .null, .null, .null, .null, .null, .int 0, .int 0, .null, .null, .null, .null, .null, .null, .null, .null, .null, .null, .null, .null, .null, .null, .null, .null, .null]
abbrev ai_cl : List vw_C := [(an_0, at_0, 3), (an_1, at_1, 5), (an_2, at_2, 12), (an_3, at_3, 3), (an_4, at_4, 5), (an_5, at_5, 7), (an_6, at_6, 2), (an_7, at_7, 7), (an_8, at_8, 8), (an_9, at_9, 5), (an_10, at_10, 17), (an_11, at_11, 40)]
def ai_lay : List (List Nat) := [al_0, al_1, al_2, al_3, al_4, al_5, al_6, al_7, al_8, al_9, al_10, al_11]
def ai_df : List (List Value) := [ad_0, ad_1, ad_2, ad_3, ad_4, ad_5, ad_6, ad_7, ad_8, ad_9, ad_10, ad_11]
def ai_inp : List Nat := [8043, 7239, 7061, 8058, 7216, 7030, 7136, 7156, 7185, 8021, 7022, 11234]
def ai_ty : List FieldType := [.int, .long, .boolean, .object "OneBell$NumberRow", .object "OneBell$House", .object "OneBell$Route"]
def ai_ap : List Nat := [7059, 7237, 12121]
def ai_ao : List Nat := [7152, 7153, 7154]
def ar_0 : List ai_R := [(0, .aload_n 0, 1, .null, 0, 0, 0, 0), (1, .invokespecial 3, 3, .null, 4, 0, 8047, 0), (4, .aload_n 0, 1, .null, 0, 0, 0, 0), (5, .bipush 14, 2, .null, 0, 0, 0, 0),
  (7, .newarray .long, 2, .null, 0, 0, 0, 0), (9, .putfield 9, 3, .null, 0, 1, 8049, 0), (12, .aload_n 0, 1, .null, 0, 0, 0, 0), (13, .bipush 14, 2, .null, 0, 0, 0, 0),
  (15, .newarray .long, 2, .null, 0, 0, 0, 0), (17, .putfield 15, 3, .null, 0, 2, 8050, 0), (20, .aload_n 0, 1, .null, 0, 0, 0, 0), (21, .aload_n 1, 1, .null, 0, 0, 0, 0),
  (22, .putfield 18, 3, .null, 0, 0, 8048, 0), (25, .return_, 1, .null, 0, 0, 0, 0)]
def ar_1 : List ai_R := [(0, .aload_n 0, 1, .null, 0, 0, 0, 0), (1, .aload_n 1, 1, .null, 0, 0, 0, 0), (2, .iload_n 2, 1, .null, 0, 0, 0, 0), (3, .invokevirtual 22, 3, .null, 0, 2, 11138, 0),
  (6, .aload_n 0, 1, .null, 0, 0, 0, 0), (7, .getfield 9, 3, .null, 0, 1, 8049, 0), (10, .iload_n 3, 1, .null, 0, 0, 0, 0), (11, .laload, 1, .null, 0, 0, 0, 0),
  (12, .lreturn, 1, .null, 0, 0, 0, 0)]
def ar_2 : List ai_R := [(0, .aload_n 0, 1, .null, 0, 0, 0, 0), (1, .getfield 9, 3, .null, 0, 1, 8049, 0), (4, .lconst 0, 1, .null, 0, 0, 0, 0), (5, .invokestatic 26, 3, .null, 1, 291, 11142, 0),
  (8, .aload_n 0, 1, .null, 0, 0, 0, 0), (9, .getfield 9, 3, .null, 0, 1, 8049, 0), (12, .iload_n 2, 1, .null, 0, 0, 0, 0), (13, .lconst 1, 1, .null, 0, 0, 0, 0),
  (14, .lastore, 1, .null, 0, 0, 0, 0), (15, .aload_n 1, 1, .null, 0, 0, 0, 0), (16, .getfield 32, 3, .null, 6, 0, 7143, 0), (19, .iconst 1, 1, .null, 0, 0, 0, 0),
  (20, .isub, 1, .null, 0, 0, 0, 0), (21, .istore_n 3, 1, .null, 0, 0, 0, 0), (22, .iload_n 3, 1, .null, 0, 0, 0, 0), (23, .ifCond .lt 135, 3, .null, 84, 0, 0, 0),
  (26, .aload_n 1, 1, .null, 0, 0, 0, 0), (27, .iload_n 3, 1, .null, 0, 0, 0, 0), (28, .invokevirtual 38, 3, .null, 0, 90, 11143, 0), (31, .istore 4, 2, .null, 0, 0, 0, 0),
  (33, .iconst 0, 1, .null, 0, 0, 0, 0), (34, .istore 5, 2, .null, 0, 0, 0, 0), (36, .iload 5, 2, .null, 0, 0, 0, 0), (38, .aload_n 0, 1, .null, 0, 0, 0, 0),
  (39, .getfield 18, 3, .null, 0, 0, 8048, 0), (42, .getfield 42, 3, .null, 2, 0, 7070, 0), (45, .if_icmp .ge 87, 3, .null, 72, 0, 0, 0), (48, .aload_n 0, 1, .null, 0, 0, 0, 0),
  (49, .getfield 18, 3, .null, 0, 0, 8048, 0), (52, .iload 5, 2, .null, 0, 0, 0, 0), (54, .iload 4, 2, .null, 0, 0, 0, 0), (56, .invokevirtual 47, 3, .null, 0, 29, 11144, 0),
  (59, .istore 6, 2, .null, 0, 0, 0, 0), (61, .aload_n 0, 1, .null, 0, 0, 0, 0), (62, .getfield 15, 3, .null, 0, 2, 8050, 0), (65, .iload 5, 2, .null, 0, 0, 0, 0),
  (67, .aload_n 0, 1, .null, 0, 0, 0, 0), (68, .getfield 9, 3, .null, 0, 1, 8049, 0), (71, .aload_n 0, 1, .null, 0, 0, 0, 0), (72, .getfield 18, 3, .null, 0, 0, 8048, 0),
  (75, .iload 5, 2, .null, 0, 0, 0, 0), (77, .iload 4, 2, .null, 0, 0, 0, 0), (79, .invokevirtual 51, 3, .null, 0, 27, 11145, 0), (82, .laload, 1, .null, 0, 0, 0, 0),
  (83, .bipush 100, 2, .null, 0, 0, 0, 0), (85, .iload 6, 2, .null, 0, 0, 0, 0), (87, .isub, 1, .null, 0, 0, 0, 0), (88, .i2l, 1, .null, 0, 0, 0, 0),
  (89, .lmul, 1, .null, 0, 0, 0, 0), (90, .lastore, 1, .null, 0, 0, 0, 0), (91, .iload 6, 2, .null, 0, 0, 0, 0), (93, .ifCond .le 33, 3, .null, 70, 0, 0, 0),
  (96, .aload_n 0, 1, .null, 0, 0, 0, 0), (97, .getfield 15, 3, .null, 0, 2, 8050, 0), (100, .iload 5, 2, .null, 0, 0, 0, 0), (102, .dup2, 1, .null, 0, 0, 0, 0),
  (103, .laload, 1, .null, 0, 0, 0, 0), (104, .aload_n 0, 1, .null, 0, 0, 0, 0), (105, .getfield 9, 3, .null, 0, 1, 8049, 0), (108, .aload_n 0, 1, .null, 0, 0, 0, 0),
  (109, .getfield 18, 3, .null, 0, 0, 8048, 0), (112, .iload 5, 2, .null, 0, 0, 0, 0), (114, .iload 4, 2, .null, 0, 0, 0, 0), (116, .invokevirtual 54, 3, .null, 0, 28, 11146, 0),
  (119, .laload, 1, .null, 0, 0, 0, 0), (120, .iload 6, 2, .null, 0, 0, 0, 0), (122, .i2l, 1, .null, 0, 0, 0, 0), (123, .lmul, 1, .null, 0, 0, 0, 0),
  (124, .ladd, 1, .null, 0, 0, 0, 0), (125, .lastore, 1, .null, 0, 0, 0, 0), (126, .iinc 5 1, 3, .null, 0, 0, 0, 0), (129, .goto (-93), 3, .null, 22, 0, 0, 0),
  (132, .aload_n 0, 1, .null, 0, 0, 0, 0), (133, .getfield 15, 3, .null, 0, 2, 8050, 0), (136, .iconst 0, 1, .null, 0, 0, 0, 0), (137, .aload_n 0, 1, .null, 0, 0, 0, 0),
  (138, .getfield 9, 3, .null, 0, 1, 8049, 0), (141, .iconst 0, 1, .null, 0, 0, 0, 0), (142, .aload_n 0, 1, .null, 0, 0, 0, 0), (143, .getfield 18, 3, .null, 0, 0, 8048, 0),
  (146, .getfield 42, 3, .null, 2, 0, 7070, 0), (149, .invokestatic 57, 3, .null, 5, 0, 11147, 0), (152, .iinc 3 (-1), 3, .null, 0, 0, 0, 0), (155, .goto (-133), 3, .null, 14, 0, 0, 0),
  (158, .return_, 1, .null, 0, 0, 0, 0)]
def ar_3 : List ai_R := [(0, .aload_n 0, 1, .null, 0, 0, 0, 0), (1, .aload_n 1, 1, .null, 0, 0, 0, 0), (2, .aload_n 0, 1, .null, 0, 0, 0, 0), (3, .getfield 18, 3, .null, 0, 0, 8048, 0),
  (6, .getfield 63, 3, .null, 2, 3, 7086, 0), (9, .invokevirtual 22, 3, .null, 0, 2, 11138, 0), (12, .lconst 1, 1, .null, 0, 0, 0, 0), (13, .lstore_n 2, 1, .null, 0, 0, 0, 0),
  (14, .iconst 0, 1, .null, 0, 0, 0, 0), (15, .istore 4, 2, .null, 0, 0, 0, 0), (17, .iload 4, 2, .null, 0, 0, 0, 0), (19, .aload_n 1, 1, .null, 0, 0, 0, 0),
  (20, .getfield 32, 3, .null, 6, 0, 7143, 0), (23, .if_icmp .ge 21, 3, .null, 23, 0, 0, 0), (26, .iload 4, 2, .null, 0, 0, 0, 0), (28, .iconst 4, 1, .null, 0, 0, 0, 0),
  (29, .if_icmp .ge 15, 3, .null, 23, 0, 0, 0), (32, .lload_n 2, 1, .null, 0, 0, 0, 0), (33, .ldc2_w 66, 3, .long (100), 0, 0, 11156, 0), (36, .lmul, 1, .null, 0, 0, 0, 0),
  (37, .lstore_n 2, 1, .null, 0, 0, 0, 0), (38, .iinc 4 1, 3, .null, 0, 0, 0, 0), (41, .goto (-24), 3, .null, 10, 0, 0, 0), (44, .ldc2_w 68, 3, .long (1000000000), 0, 0, 11157, 0),
  (47, .lstore 4, 2, .null, 0, 0, 0, 0), (49, .iconst 0, 1, .null, 0, 0, 0, 0), (50, .istore 6, 2, .null, 0, 0, 0, 0), (52, .iload 6, 2, .null, 0, 0, 0, 0),
  (54, .aload_n 0, 1, .null, 0, 0, 0, 0), (55, .getfield 18, 3, .null, 0, 0, 8048, 0), (58, .getfield 70, 3, .null, 2, 4, 7094, 0), (61, .if_icmp .ge 36, 3, .null, 50, 0, 0, 0),
  (64, .lload_n 2, 1, .null, 0, 0, 0, 0), (65, .lconst 0, 1, .null, 0, 0, 0, 0), (66, .lcmp, 1, .null, 0, 0, 0, 0), (67, .ifCond .le 30, 3, .null, 50, 0, 0, 0),
  (70, .lload 4, 2, .null, 0, 0, 0, 0), (72, .aload_n 0, 1, .null, 0, 0, 0, 0), (73, .getfield 9, 3, .null, 0, 1, 8049, 0), (76, .aload_n 0, 1, .null, 0, 0, 0, 0),
  (77, .getfield 18, 3, .null, 0, 0, 8048, 0), (80, .iload 6, 2, .null, 0, 0, 0, 0), (82, .invokevirtual 73, 3, .null, 0, 31, 11158, 0), (85, .laload, 1, .null, 0, 0, 0, 0),
  (86, .lmul, 1, .null, 0, 0, 0, 0), (87, .lload_n 2, 1, .null, 0, 0, 0, 0), (88, .ldiv, 1, .null, 0, 0, 0, 0), (89, .lstore 4, 2, .null, 0, 0, 0, 0),
  (91, .iinc 6 1, 3, .null, 0, 0, 0, 0), (94, .goto (-42), 3, .null, 27, 0, 0, 0), (97, .lload 4, 2, .null, 0, 0, 0, 0), (99, .l2i, 1, .null, 0, 0, 0, 0),
  (100, .ireturn, 1, .null, 0, 0, 0, 0)]
def ar_4 : List ai_R := [(0, .iconst (-1), 1, .null, 0, 0, 0, 0), (1, .istore 4, 2, .null, 0, 0, 0, 0), (3, .iconst 0, 1, .null, 0, 0, 0, 0), (4, .istore 5, 2, .null, 0, 0, 0, 0),
  (6, .iload 5, 2, .null, 0, 0, 0, 0), (8, .iload_n 1, 1, .null, 0, 0, 0, 0), (9, .if_icmp .gt 77, 3, .null, 42, 0, 0, 0), (12, .aload_n 2, 1, .null, 0, 0, 0, 0),
  (13, .iload 5, 2, .null, 0, 0, 0, 0), (15, .invokevirtual 76, 3, .null, 0, 93, 11167, 0), (18, .iconst 0, 1, .null, 0, 0, 0, 0), (19, .istore 6, 2, .null, 0, 0, 0, 0),
  (21, .iconst 0, 1, .null, 0, 0, 0, 0), (22, .istore 7, 2, .null, 0, 0, 0, 0), (24, .iload 7, 2, .null, 0, 0, 0, 0), (26, .sipush 10000, 3, .null, 0, 0, 0, 0),
  (29, .if_icmp .ge 51, 3, .null, 40, 0, 0, 0), (32, .iload 6, 2, .null, 0, 0, 0, 0), (34, .iconst (-1), 1, .null, 0, 0, 0, 0), (35, .if_icmp .eq 45, 3, .null, 40, 0, 0, 0),
  (38, .aload_n 0, 1, .null, 0, 0, 0, 0), (39, .aload_n 2, 1, .null, 0, 0, 0, 0), (40, .invokevirtual 80, 3, .null, 0, 3, 11168, 0), (43, .istore 8, 2, .null, 0, 0, 0, 0),
  (45, .iload 8, 2, .null, 0, 0, 0, 0), (47, .iload 4, 2, .null, 0, 0, 0, 0), (49, .if_icmp .le 12, 3, .null, 32, 0, 0, 0), (52, .iload 8, 2, .null, 0, 0, 0, 0),
  (54, .istore 4, 2, .null, 0, 0, 0, 0), (56, .aload_n 3, 1, .null, 0, 0, 0, 0), (57, .aload_n 2, 1, .null, 0, 0, 0, 0), (58, .invokevirtual 84, 3, .null, 0, 92, 11169, 0),
  (61, .aload_n 2, 1, .null, 0, 0, 0, 0), (62, .aload_n 0, 1, .null, 0, 0, 0, 0), (63, .getfield 18, 3, .null, 0, 0, 8048, 0), (66, .getfield 88, 3, .null, 2, 1, 7077, 0),
  (69, .invokevirtual 91, 3, .null, 0, 94, 11170, 0), (72, .istore 6, 2, .null, 0, 0, 0, 0), (74, .iinc 7 1, 3, .null, 0, 0, 0, 0), (77, .goto (-53), 3, .null, 14, 0, 0, 0),
  (80, .iinc 5 1, 3, .null, 0, 0, 0, 0), (83, .goto (-77), 3, .null, 4, 0, 0, 0), (86, .iload 4, 2, .null, 0, 0, 0, 0), (88, .ireturn, 1, .null, 0, 0, 0, 0)]
def ar_5 : List ai_R := [(0, .aload_n 0, 1, .null, 0, 0, 0, 0), (1, .invokespecial 3, 3, .null, 4, 0, 8003, 0), (4, .aload_n 0, 1, .null, 0, 0, 0, 0), (5, .bipush 8, 2, .null, 0, 0, 0, 0),
  (7, .newarray .int, 2, .null, 0, 0, 0, 0), (9, .putfield 9, 3, .null, 1, 2, 8006, 0), (12, .aload_n 0, 1, .null, 0, 0, 0, 0), (13, .iconst 3, 1, .null, 0, 0, 0, 0),
  (14, .newarray .int, 2, .null, 0, 0, 0, 0), (16, .putfield 15, 3, .null, 1, 3, 8007, 0), (19, .aload_n 0, 1, .null, 0, 0, 0, 0), (20, .aload_n 1, 1, .null, 0, 0, 0, 0),
  (21, .putfield 18, 3, .null, 1, 0, 8004, 0), (24, .aload_n 0, 1, .null, 0, 0, 0, 0), (25, .aload_n 2, 1, .null, 0, 0, 0, 0), (26, .putfield 22, 3, .null, 1, 1, 8005, 0),
  (29, .return_, 1, .null, 0, 0, 0, 0)]
def ar_6 : List ai_R := [(0, .iconst 0, 1, .null, 0, 0, 0, 0), (1, .istore_n 1, 1, .null, 0, 0, 0, 0), (2, .iload_n 1, 1, .null, 0, 0, 0, 0), (3, .aload_n 0, 1, .null, 0, 0, 0, 0),
  (4, .getfield 18, 3, .null, 1, 0, 8004, 0), (7, .getfield 26, 3, .null, 2, 4, 7092, 0), (10, .if_icmp .ge 23, 3, .null, 17, 0, 0, 0), (13, .aload_n 0, 1, .null, 0, 0, 0, 0),
  (14, .getfield 9, 3, .null, 1, 2, 8006, 0), (17, .iload_n 1, 1, .null, 0, 0, 0, 0), (18, .aload_n 0, 1, .null, 0, 0, 0, 0), (19, .getfield 18, 3, .null, 1, 0, 8004, 0),
  (22, .iload_n 1, 1, .null, 0, 0, 0, 0), (23, .invokevirtual 32, 3, .null, 0, 31, 9186, 0), (26, .iastore, 1, .null, 0, 0, 0, 0), (27, .iinc 1 1, 3, .null, 0, 0, 0, 0),
  (30, .goto (-28), 3, .null, 2, 0, 0, 0), (33, .return_, 1, .null, 0, 0, 0, 0)]
def ar_7 : List ai_R := [(0, .aload_n 0, 1, .null, 0, 0, 0, 0), (1, .getfield 9, 3, .null, 1, 2, 8006, 0), (4, .iload_n 1, 1, .null, 0, 0, 0, 0), (5, .iaload, 1, .null, 0, 0, 0, 0),
  (6, .ireturn, 1, .null, 0, 0, 0, 0)]
def ar_8 : List ai_R := [(0, .iconst 0, 1, .null, 0, 0, 0, 0), (1, .istore_n 2, 1, .null, 0, 0, 0, 0), (2, .iload_n 2, 1, .null, 0, 0, 0, 0), (3, .aload_n 0, 1, .null, 0, 0, 0, 0),
  (4, .getfield 18, 3, .null, 1, 0, 8004, 0), (7, .getfield 26, 3, .null, 2, 4, 7092, 0), (10, .if_icmp .ge 29, 3, .null, 21, 0, 0, 0), (13, .aload_n 0, 1, .null, 0, 0, 0, 0),
  (14, .getfield 9, 3, .null, 1, 2, 8006, 0), (17, .iload_n 2, 1, .null, 0, 0, 0, 0), (18, .aload_n 0, 1, .null, 0, 0, 0, 0), (19, .getfield 18, 3, .null, 1, 0, 8004, 0),
  (22, .aload_n 0, 1, .null, 0, 0, 0, 0), (23, .getfield 9, 3, .null, 1, 2, 8006, 0), (26, .iload_n 2, 1, .null, 0, 0, 0, 0), (27, .iaload, 1, .null, 0, 0, 0, 0),
  (28, .iload_n 1, 1, .null, 0, 0, 0, 0), (29, .invokevirtual 36, 3, .null, 0, 27, 9192, 0), (32, .iastore, 1, .null, 0, 0, 0, 0), (33, .iinc 2 1, 3, .null, 0, 0, 0, 0),
  (36, .goto (-34), 3, .null, 2, 0, 0, 0), (39, .return_, 1, .null, 0, 0, 0, 0)]
def ar_9 : List ai_R := [(0, .iload_n 2, 1, .null, 0, 0, 0, 0), (1, .istore_n 3, 1, .null, 0, 0, 0, 0), (2, .iconst 0, 1, .null, 0, 0, 0, 0), (3, .istore 4, 2, .null, 0, 0, 0, 0),
  (5, .iload 4, 2, .null, 0, 0, 0, 0), (7, .aload_n 0, 1, .null, 0, 0, 0, 0), (8, .getfield 18, 3, .null, 1, 0, 8004, 0), (11, .getfield 26, 3, .null, 2, 4, 7092, 0),
  (14, .if_icmp .ge 107, 3, .null, 64, 0, 0, 0), (17, .aload_n 0, 1, .null, 0, 0, 0, 0), (18, .getfield 18, 3, .null, 1, 0, 8004, 0), (21, .aload_n 0, 1, .null, 0, 0, 0, 0),
  (22, .getfield 9, 3, .null, 1, 2, 8006, 0), (25, .iload 4, 2, .null, 0, 0, 0, 0), (27, .iaload, 1, .null, 0, 0, 0, 0), (28, .iload_n 1, 1, .null, 0, 0, 0, 0),
  (29, .invokevirtual 40, 3, .null, 0, 29, 11179, 0), (32, .istore 5, 2, .null, 0, 0, 0, 0), (34, .iconst 0, 1, .null, 0, 0, 0, 0), (35, .istore 6, 2, .null, 0, 0, 0, 0),
  (37, .iload 5, 2, .null, 0, 0, 0, 0), (39, .ifCond .le 31, 3, .null, 39, 0, 0, 0), (42, .ldc 43, 2, .int (1103515245), 0, 0, 11180, 0), (44, .iload_n 3, 1, .null, 0, 0, 0, 0),
  (45, .imul, 1, .null, 0, 0, 0, 0), (46, .sipush 12345, 3, .null, 0, 0, 0, 0), (49, .iadd, 1, .null, 0, 0, 0, 0), (50, .istore_n 3, 1, .null, 0, 0, 0, 0),
  (51, .iload_n 3, 1, .null, 0, 0, 0, 0), (52, .bipush 16, 2, .null, 0, 0, 0, 0), (54, .iushr, 1, .null, 0, 0, 0, 0), (55, .bipush 100, 2, .null, 0, 0, 0, 0),
  (57, .irem, 1, .null, 0, 0, 0, 0), (58, .iload 5, 2, .null, 0, 0, 0, 0), (60, .if_icmp .ge 7, 3, .null, 37, 0, 0, 0), (63, .iconst 1, 1, .null, 0, 0, 0, 0),
  (64, .goto 4, 3, .null, 38, 0, 0, 0), (67, .iconst 0, 1, .null, 0, 0, 0, 0), (68, .istore 6, 2, .null, 0, 0, 0, 0), (70, .aload_n 0, 1, .null, 0, 0, 0, 0),
  (71, .getfield 9, 3, .null, 1, 2, 8006, 0), (74, .iload 4, 2, .null, 0, 0, 0, 0), (76, .iload 6, 2, .null, 0, 0, 0, 0), (78, .ifCond .eq 21, 3, .null, 53, 0, 0, 0),
  (81, .aload_n 0, 1, .null, 0, 0, 0, 0), (82, .getfield 18, 3, .null, 1, 0, 8004, 0), (85, .aload_n 0, 1, .null, 0, 0, 0, 0), (86, .getfield 9, 3, .null, 1, 2, 8006, 0),
  (89, .iload 4, 2, .null, 0, 0, 0, 0), (91, .iaload, 1, .null, 0, 0, 0, 0), (92, .iload_n 1, 1, .null, 0, 0, 0, 0), (93, .invokevirtual 44, 3, .null, 0, 28, 11181, 0),
  (96, .goto 18, 3, .null, 61, 0, 0, 0), (99, .aload_n 0, 1, .null, 0, 0, 0, 0), (100, .getfield 18, 3, .null, 1, 0, 8004, 0), (103, .aload_n 0, 1, .null, 0, 0, 0, 0),
  (104, .getfield 9, 3, .null, 1, 2, 8006, 0), (107, .iload 4, 2, .null, 0, 0, 0, 0), (109, .iaload, 1, .null, 0, 0, 0, 0), (110, .iload_n 1, 1, .null, 0, 0, 0, 0),
  (111, .invokevirtual 36, 3, .null, 0, 27, 9192, 0), (114, .iastore, 1, .null, 0, 0, 0, 0), (115, .iinc 4 1, 3, .null, 0, 0, 0, 0), (118, .goto (-113), 3, .null, 4, 0, 0, 0),
  (121, .iload_n 3, 1, .null, 0, 0, 0, 0), (122, .ireturn, 1, .null, 0, 0, 0, 0)]
def ar_10 : List ai_R := [(0, .iconst 0, 1, .null, 0, 0, 0, 0), (1, .istore_n 1, 1, .null, 0, 0, 0, 0), (2, .iload_n 1, 1, .null, 0, 0, 0, 0), (3, .aload_n 0, 1, .null, 0, 0, 0, 0),
  (4, .getfield 18, 3, .null, 1, 0, 8004, 0), (7, .getfield 26, 3, .null, 2, 4, 7092, 0), (10, .if_icmp .ge 52, 3, .null, 35, 0, 0, 0), (13, .iload_n 1, 1, .null, 0, 0, 0, 0),
  (14, .iconst 1, 1, .null, 0, 0, 0, 0), (15, .iadd, 1, .null, 0, 0, 0, 0), (16, .istore_n 2, 1, .null, 0, 0, 0, 0), (17, .iload_n 2, 1, .null, 0, 0, 0, 0),
  (18, .aload_n 0, 1, .null, 0, 0, 0, 0), (19, .getfield 18, 3, .null, 1, 0, 8004, 0), (22, .getfield 26, 3, .null, 2, 4, 7092, 0), (25, .if_icmp .ge 31, 3, .null, 33, 0, 0, 0),
  (28, .aload_n 0, 1, .null, 0, 0, 0, 0), (29, .getfield 9, 3, .null, 1, 2, 8006, 0), (32, .iload_n 1, 1, .null, 0, 0, 0, 0), (33, .iaload, 1, .null, 0, 0, 0, 0),
  (34, .aload_n 0, 1, .null, 0, 0, 0, 0), (35, .getfield 9, 3, .null, 1, 2, 8006, 0), (38, .iload_n 2, 1, .null, 0, 0, 0, 0), (39, .iaload, 1, .null, 0, 0, 0, 0),
  (40, .if_icmp .ne 10, 3, .null, 31, 0, 0, 0), (43, .bipush 10, 2, .null, 0, 0, 0, 0), (45, .iload_n 1, 1, .null, 0, 0, 0, 0), (46, .imul, 1, .null, 0, 0, 0, 0),
  (47, .iload_n 2, 1, .null, 0, 0, 0, 0), (48, .iadd, 1, .null, 0, 0, 0, 0), (49, .ireturn, 1, .null, 0, 0, 0, 0), (50, .iinc 2 1, 3, .null, 0, 0, 0, 0),
  (53, .goto (-36), 3, .null, 11, 0, 0, 0), (56, .iinc 1 1, 3, .null, 0, 0, 0, 0), (59, .goto (-57), 3, .null, 2, 0, 0, 0), (62, .iconst (-1), 1, .null, 0, 0, 0, 0),
  (63, .ireturn, 1, .null, 0, 0, 0, 0)]
def ar_11 : List ai_R := [(0, .iconst 0, 1, .null, 0, 0, 0, 0), (1, .istore_n 3, 1, .null, 0, 0, 0, 0), (2, .iconst 0, 1, .null, 0, 0, 0, 0), (3, .istore 4, 2, .null, 0, 0, 0, 0),
  (5, .iconst 0, 1, .null, 0, 0, 0, 0), (6, .istore 5, 2, .null, 0, 0, 0, 0), (8, .iload 5, 2, .null, 0, 0, 0, 0), (10, .iload_n 2, 1, .null, 0, 0, 0, 0),
  (11, .if_icmp .ge 38, 3, .null, 33, 0, 0, 0), (14, .iload 5, 2, .null, 0, 0, 0, 0), (16, .aload_n 1, 1, .null, 0, 0, 0, 0), (17, .arraylength, 1, .null, 0, 0, 0, 0),
  (18, .if_icmp .ge 31, 3, .null, 33, 0, 0, 0), (21, .iload 4, 2, .null, 0, 0, 0, 0), (23, .iload_n 3, 1, .null, 0, 0, 0, 0), (24, .iconst 1, 1, .null, 0, 0, 0, 0),
  (25, .aload_n 1, 1, .null, 0, 0, 0, 0), (26, .iload 5, 2, .null, 0, 0, 0, 0), (28, .iaload, 1, .null, 0, 0, 0, 0), (29, .ishl, 1, .null, 0, 0, 0, 0),
  (30, .iand, 1, .null, 0, 0, 0, 0), (31, .ior, 1, .null, 0, 0, 0, 0), (32, .istore 4, 2, .null, 0, 0, 0, 0), (34, .iload_n 3, 1, .null, 0, 0, 0, 0),
  (35, .iconst 1, 1, .null, 0, 0, 0, 0), (36, .aload_n 1, 1, .null, 0, 0, 0, 0), (37, .iload 5, 2, .null, 0, 0, 0, 0), (39, .iaload, 1, .null, 0, 0, 0, 0),
  (40, .ishl, 1, .null, 0, 0, 0, 0), (41, .ior, 1, .null, 0, 0, 0, 0), (42, .istore_n 3, 1, .null, 0, 0, 0, 0), (43, .iinc 5 1, 3, .null, 0, 0, 0, 0),
  (46, .goto (-38), 3, .null, 6, 0, 0, 0), (49, .iload_n 3, 1, .null, 0, 0, 0, 0), (50, .aload_n 0, 1, .null, 0, 0, 0, 0), (51, .getfield 18, 3, .null, 1, 0, 8004, 0),
  (54, .getfield 47, 3, .null, 2, 5, 7099, 0), (57, .iand, 1, .null, 0, 0, 0, 0), (58, .iload 4, 2, .null, 0, 0, 0, 0), (60, .aload_n 0, 1, .null, 0, 0, 0, 0),
  (61, .getfield 18, 3, .null, 1, 0, 8004, 0), (64, .getfield 50, 3, .null, 2, 6, 7102, 0), (67, .iand, 1, .null, 0, 0, 0, 0), (68, .ior, 1, .null, 0, 0, 0, 0),
  (69, .ireturn, 1, .null, 0, 0, 0, 0)]
def ar_12 : List ai_R := [(0, .aload_n 0, 1, .null, 0, 0, 0, 0), (1, .aload_n 0, 1, .null, 0, 0, 0, 0), (2, .getfield 9, 3, .null, 1, 2, 8006, 0), (5, .aload_n 0, 1, .null, 0, 0, 0, 0),
  (6, .getfield 18, 3, .null, 1, 0, 8004, 0), (9, .getfield 26, 3, .null, 2, 4, 7092, 0), (12, .invokevirtual 53, 3, .null, 0, 11, 9205, 0), (15, .istore_n 1, 1, .null, 0, 0, 0, 0),
  (16, .iconst 0, 1, .null, 0, 0, 0, 0), (17, .istore_n 2, 1, .null, 0, 0, 0, 0), (18, .iload_n 2, 1, .null, 0, 0, 0, 0), (19, .aload_n 0, 1, .null, 0, 0, 0, 0),
  (20, .getfield 18, 3, .null, 1, 0, 8004, 0), (23, .getfield 57, 3, .null, 2, 0, 7072, 0), (26, .if_icmp .ge 19, 3, .null, 25, 0, 0, 0), (29, .iload_n 1, 1, .null, 0, 0, 0, 0),
  (30, .iload_n 2, 1, .null, 0, 0, 0, 0), (31, .iushr, 1, .null, 0, 0, 0, 0), (32, .iconst 1, 1, .null, 0, 0, 0, 0), (33, .iand, 1, .null, 0, 0, 0, 0),
  (34, .ifCond .eq 5, 3, .null, 23, 0, 0, 0), (37, .iload_n 2, 1, .null, 0, 0, 0, 0), (38, .ireturn, 1, .null, 0, 0, 0, 0), (39, .iinc 2 1, 3, .null, 0, 0, 0, 0),
  (42, .goto (-24), 3, .null, 10, 0, 0, 0), (45, .iconst (-1), 1, .null, 0, 0, 0, 0), (46, .ireturn, 1, .null, 0, 0, 0, 0)]
def ar_13 : List ai_R := [(0, .aload_n 0, 1, .null, 0, 0, 0, 0), (1, .iload_n 1, 1, .null, 0, 0, 0, 0), (2, .invokevirtual 60, 3, .null, 0, 14, 11049, 0), (5, .aload_n 0, 1, .null, 0, 0, 0, 0),
  (6, .invokevirtual 64, 3, .null, 0, 17, 11053, 0), (9, .ifCond .eq 5, 3, .null, 8, 0, 0, 0), (12, .iconst (-1), 1, .null, 0, 0, 0, 0), (13, .ireturn, 1, .null, 0, 0, 0, 0),
  (14, .aload_n 0, 1, .null, 0, 0, 0, 0), (15, .getfield 22, 3, .null, 1, 1, 8005, 0), (18, .invokevirtual 68, 3, .null, 0, 96, 11057, 0), (21, .aload_n 0, 1, .null, 0, 0, 0, 0),
  (22, .getfield 22, 3, .null, 1, 1, 8005, 0), (25, .aload_n 0, 1, .null, 0, 0, 0, 0), (26, .invokevirtual 73, 3, .null, 0, 15, 11058, 0), (29, .iconst (-1), 1, .null, 0, 0, 0, 0),
  (30, .iconst 0, 1, .null, 0, 0, 0, 0), (31, .invokevirtual 77, 3, .null, 0, 101, 11062, 0), (34, .pop, 1, .null, 0, 0, 0, 0), (35, .aload_n 0, 1, .null, 0, 0, 0, 0),
  (36, .iload_n 2, 1, .null, 0, 0, 0, 0), (37, .invokevirtual 81, 3, .null, 0, 18, 11063, 0), (40, .ifCond .eq 12, 3, .null, 28, 0, 0, 0), (43, .aload_n 0, 1, .null, 0, 0, 0, 0),
  (44, .getfield 22, 3, .null, 1, 1, 8005, 0), (47, .aload_n 3, 1, .null, 0, 0, 0, 0), (48, .invokevirtual 85, 3, .null, 0, 102, 11067, 0), (51, .ireturn, 1, .null, 0, 0, 0, 0),
  (52, .iconst 0, 1, .null, 0, 0, 0, 0), (53, .istore 4, 2, .null, 0, 0, 0, 0), (55, .iload 4, 2, .null, 0, 0, 0, 0), (57, .sipush 2744, 3, .null, 0, 0, 0, 0),
  (60, .if_icmp .ge 99, 3, .null, 76, 0, 0, 0), (63, .iload 4, 2, .null, 0, 0, 0, 0), (65, .aload_n 0, 1, .null, 0, 0, 0, 0), (66, .getfield 22, 3, .null, 1, 1, 8005, 0),
  (69, .invokevirtual 89, 3, .null, 0, 97, 11068, 0), (72, .if_icmp .ge 87, 3, .null, 76, 0, 0, 0), (75, .iconst 0, 1, .null, 0, 0, 0, 0), (76, .istore 5, 2, .null, 0, 0, 0, 0),
  (78, .iload 5, 2, .null, 0, 0, 0, 0), (80, .aload_n 0, 1, .null, 0, 0, 0, 0), (81, .getfield 18, 3, .null, 1, 0, 8004, 0), (84, .getfield 92, 3, .null, 2, 1, 7080, 0),
  (87, .if_icmp .ge 66, 3, .null, 74, 0, 0, 0), (90, .aload_n 0, 1, .null, 0, 0, 0, 0), (91, .aload_n 0, 1, .null, 0, 0, 0, 0), (92, .getfield 22, 3, .null, 1, 1, 8005, 0),
  (95, .iload 4, 2, .null, 0, 0, 0, 0), (97, .invokevirtual 95, 3, .null, 0, 98, 11069, 0), (100, .iload 5, 2, .null, 0, 0, 0, 0), (102, .invokevirtual 98, 3, .null, 0, 16, 11070, 0),
  (105, .aload_n 0, 1, .null, 0, 0, 0, 0), (106, .invokevirtual 64, 3, .null, 0, 17, 11053, 0), (109, .ifCond .ne 38, 3, .null, 72, 0, 0, 0), (112, .aload_n 0, 1, .null, 0, 0, 0, 0),
  (113, .getfield 22, 3, .null, 1, 1, 8005, 0), (116, .aload_n 0, 1, .null, 0, 0, 0, 0), (117, .invokevirtual 73, 3, .null, 0, 15, 11058, 0), (120, .iload 4, 2, .null, 0, 0, 0, 0),
  (122, .iload 5, 2, .null, 0, 0, 0, 0), (124, .invokevirtual 77, 3, .null, 0, 101, 11062, 0), (127, .ifCond .eq 20, 3, .null, 72, 0, 0, 0), (130, .aload_n 0, 1, .null, 0, 0, 0, 0),
  (131, .iload_n 2, 1, .null, 0, 0, 0, 0), (132, .invokevirtual 81, 3, .null, 0, 18, 11063, 0), (135, .ifCond .eq 12, 3, .null, 72, 0, 0, 0), (138, .aload_n 0, 1, .null, 0, 0, 0, 0),
  (139, .getfield 22, 3, .null, 1, 1, 8005, 0), (142, .aload_n 3, 1, .null, 0, 0, 0, 0), (143, .invokevirtual 85, 3, .null, 0, 102, 11067, 0), (146, .ireturn, 1, .null, 0, 0, 0, 0),
  (147, .iinc 5 1, 3, .null, 0, 0, 0, 0), (150, .goto (-72), 3, .null, 40, 0, 0, 0), (153, .iinc 4 1, 3, .null, 0, 0, 0, 0), (156, .goto (-101), 3, .null, 30, 0, 0, 0),
  (159, .iconst (-1), 1, .null, 0, 0, 0, 0), (160, .ireturn, 1, .null, 0, 0, 0, 0)]
def ar_14 : List ai_R := [(0, .aload_n 0, 1, .null, 0, 0, 0, 0), (1, .iconst 0, 1, .null, 0, 0, 0, 0), (2, .putfield 102, 3, .null, 1, 4, 8008, 0), (5, .iconst 0, 1, .null, 0, 0, 0, 0),
  (6, .istore_n 2, 1, .null, 0, 0, 0, 0), (7, .iload_n 2, 1, .null, 0, 0, 0, 0), (8, .aload_n 0, 1, .null, 0, 0, 0, 0), (9, .getfield 18, 3, .null, 1, 0, 8004, 0),
  (12, .getfield 26, 3, .null, 2, 4, 7092, 0), (15, .if_icmp .ge 52, 3, .null, 37, 0, 0, 0), (18, .iload_n 1, 1, .null, 0, 0, 0, 0), (19, .iload_n 2, 1, .null, 0, 0, 0, 0),
  (20, .iushr, 1, .null, 0, 0, 0, 0), (21, .iconst 1, 1, .null, 0, 0, 0, 0), (22, .iand, 1, .null, 0, 0, 0, 0), (23, .ifCond .eq 38, 3, .null, 35, 0, 0, 0),
  (26, .aload_n 0, 1, .null, 0, 0, 0, 0), (27, .getfield 102, 3, .null, 1, 4, 8008, 0), (30, .iconst 3, 1, .null, 0, 0, 0, 0), (31, .if_icmp .ge 30, 3, .null, 35, 0, 0, 0),
  (34, .aload_n 0, 1, .null, 0, 0, 0, 0), (35, .getfield 15, 3, .null, 1, 3, 8007, 0), (38, .aload_n 0, 1, .null, 0, 0, 0, 0), (39, .getfield 102, 3, .null, 1, 4, 8008, 0),
  (42, .aload_n 0, 1, .null, 0, 0, 0, 0), (43, .getfield 18, 3, .null, 1, 0, 8004, 0), (46, .iload_n 2, 1, .null, 0, 0, 0, 0), (47, .invokevirtual 32, 3, .null, 0, 31, 9186, 0),
  (50, .iastore, 1, .null, 0, 0, 0, 0), (51, .aload_n 0, 1, .null, 0, 0, 0, 0), (52, .dup, 1, .null, 0, 0, 0, 0), (53, .getfield 102, 3, .null, 1, 4, 8008, 0),
  (56, .iconst 1, 1, .null, 0, 0, 0, 0), (57, .iadd, 1, .null, 0, 0, 0, 0), (58, .putfield 102, 3, .null, 1, 4, 8008, 0), (61, .iinc 2 1, 3, .null, 0, 0, 0, 0),
  (64, .goto (-57), 3, .null, 5, 0, 0, 0), (67, .return_, 1, .null, 0, 0, 0, 0)]
def ar_15 : List ai_R := [(0, .iconst 0, 1, .null, 0, 0, 0, 0), (1, .istore_n 1, 1, .null, 0, 0, 0, 0), (2, .aload_n 0, 1, .null, 0, 0, 0, 0), (3, .getfield 102, 3, .null, 1, 4, 8008, 0),
  (6, .iconst 1, 1, .null, 0, 0, 0, 0), (7, .isub, 1, .null, 0, 0, 0, 0), (8, .istore_n 2, 1, .null, 0, 0, 0, 0), (9, .iload_n 2, 1, .null, 0, 0, 0, 0),
  (10, .ifCond .lt 21, 3, .null, 20, 0, 0, 0), (13, .iload_n 1, 1, .null, 0, 0, 0, 0), (14, .bipush 14, 2, .null, 0, 0, 0, 0), (16, .imul, 1, .null, 0, 0, 0, 0),
  (17, .aload_n 0, 1, .null, 0, 0, 0, 0), (18, .getfield 15, 3, .null, 1, 3, 8007, 0), (21, .iload_n 2, 1, .null, 0, 0, 0, 0), (22, .iaload, 1, .null, 0, 0, 0, 0),
  (23, .iadd, 1, .null, 0, 0, 0, 0), (24, .istore_n 1, 1, .null, 0, 0, 0, 0), (25, .iinc 2 (-1), 3, .null, 0, 0, 0, 0), (28, .goto (-19), 3, .null, 7, 0, 0, 0),
  (31, .iload_n 1, 1, .null, 0, 0, 0, 0), (32, .ireturn, 1, .null, 0, 0, 0, 0)]
def ar_16 : List ai_R := [(0, .iload_n 1, 1, .null, 0, 0, 0, 0), (1, .istore_n 3, 1, .null, 0, 0, 0, 0), (2, .iconst 0, 1, .null, 0, 0, 0, 0), (3, .istore 4, 2, .null, 0, 0, 0, 0),
  (5, .iload 4, 2, .null, 0, 0, 0, 0), (7, .aload_n 0, 1, .null, 0, 0, 0, 0), (8, .getfield 102, 3, .null, 1, 4, 8008, 0), (11, .if_icmp .ge 33, 3, .null, 25, 0, 0, 0),
  (14, .aload_n 0, 1, .null, 0, 0, 0, 0), (15, .getfield 15, 3, .null, 1, 3, 8007, 0), (18, .iload 4, 2, .null, 0, 0, 0, 0), (20, .aload_n 0, 1, .null, 0, 0, 0, 0),
  (21, .getfield 18, 3, .null, 1, 0, 8004, 0), (24, .iload_n 3, 1, .null, 0, 0, 0, 0), (25, .bipush 14, 2, .null, 0, 0, 0, 0), (27, .irem, 1, .null, 0, 0, 0, 0),
  (28, .iload_n 2, 1, .null, 0, 0, 0, 0), (29, .invokevirtual 36, 3, .null, 0, 27, 9192, 0), (32, .iastore, 1, .null, 0, 0, 0, 0), (33, .iload_n 3, 1, .null, 0, 0, 0, 0),
  (34, .bipush 14, 2, .null, 0, 0, 0, 0), (36, .idiv, 1, .null, 0, 0, 0, 0), (37, .istore_n 3, 1, .null, 0, 0, 0, 0), (38, .iinc 4 1, 3, .null, 0, 0, 0, 0),
  (41, .goto (-36), 3, .null, 4, 0, 0, 0), (44, .return_, 1, .null, 0, 0, 0, 0)]
def ar_17 : List ai_R := [(0, .aload_n 0, 1, .null, 0, 0, 0, 0), (1, .aload_n 0, 1, .null, 0, 0, 0, 0), (2, .getfield 15, 3, .null, 1, 3, 8007, 0), (5, .aload_n 0, 1, .null, 0, 0, 0, 0),
  (6, .getfield 102, 3, .null, 1, 4, 8008, 0), (9, .invokevirtual 53, 3, .null, 0, 11, 9205, 0), (12, .ifCond .eq 7, 3, .null, 9, 0, 0, 0), (15, .iconst 1, 1, .null, 0, 0, 0, 0),
  (16, .goto 4, 3, .null, 10, 0, 0, 0), (19, .iconst 0, 1, .null, 0, 0, 0, 0), (20, .ireturn, 1, .null, 0, 0, 0, 0)]
def ar_18 : List ai_R := [(0, .iconst 0, 1, .null, 0, 0, 0, 0), (1, .istore_n 2, 1, .null, 0, 0, 0, 0), (2, .iload_n 2, 1, .null, 0, 0, 0, 0), (3, .aload_n 0, 1, .null, 0, 0, 0, 0),
  (4, .getfield 102, 3, .null, 1, 4, 8008, 0), (7, .if_icmp .ge 21, 3, .null, 16, 0, 0, 0), (10, .aload_n 0, 1, .null, 0, 0, 0, 0), (11, .getfield 15, 3, .null, 1, 3, 8007, 0),
  (14, .iload_n 2, 1, .null, 0, 0, 0, 0), (15, .iaload, 1, .null, 0, 0, 0, 0), (16, .iload_n 1, 1, .null, 0, 0, 0, 0), (17, .if_icmp .eq 5, 3, .null, 14, 0, 0, 0),
  (20, .iconst 0, 1, .null, 0, 0, 0, 0), (21, .ireturn, 1, .null, 0, 0, 0, 0), (22, .iinc 2 1, 3, .null, 0, 0, 0, 0), (25, .goto (-23), 3, .null, 2, 0, 0, 0),
  (28, .iconst 1, 1, .null, 0, 0, 0, 0), (29, .ireturn, 1, .null, 0, 0, 0, 0)]
def ar_19 : List ai_R := [(0, .aload_n 0, 1, .null, 0, 0, 0, 0), (1, .getfield 18, 3, .null, 1, 0, 8004, 0), (4, .getfield 105, 3, .null, 2, 3, 7089, 0), (7, .bipush 14, 2, .null, 0, 0, 0, 0),
  (9, .imul, 1, .null, 0, 0, 0, 0), (10, .aload_n 0, 1, .null, 0, 0, 0, 0), (11, .getfield 18, 3, .null, 1, 0, 8004, 0), (14, .getfield 105, 3, .null, 2, 3, 7089, 0),
  (17, .iadd, 1, .null, 0, 0, 0, 0), (18, .istore 5, 2, .null, 0, 0, 0, 0), (20, .aload_n 0, 1, .null, 0, 0, 0, 0), (21, .getfield 22, 3, .null, 1, 1, 8005, 0),
  (24, .invokevirtual 68, 3, .null, 0, 96, 11057, 0), (27, .aload_n 0, 1, .null, 0, 0, 0, 0), (28, .getfield 22, 3, .null, 1, 1, 8005, 0), (31, .iload_n 1, 1, .null, 0, 0, 0, 0),
  (32, .bipush 14, 2, .null, 0, 0, 0, 0), (34, .imul, 1, .null, 0, 0, 0, 0), (35, .iload_n 2, 1, .null, 0, 0, 0, 0), (36, .iadd, 1, .null, 0, 0, 0, 0),
  (37, .iconst (-1), 1, .null, 0, 0, 0, 0), (38, .iconst 0, 1, .null, 0, 0, 0, 0), (39, .invokevirtual 77, 3, .null, 0, 101, 11062, 0), (42, .pop, 1, .null, 0, 0, 0, 0),
  (43, .iload_n 1, 1, .null, 0, 0, 0, 0), (44, .bipush 14, 2, .null, 0, 0, 0, 0), (46, .imul, 1, .null, 0, 0, 0, 0), (47, .iload_n 2, 1, .null, 0, 0, 0, 0),
  (48, .iadd, 1, .null, 0, 0, 0, 0), (49, .iload 5, 2, .null, 0, 0, 0, 0), (51, .if_icmp .ne 13, 3, .null, 36, 0, 0, 0), (54, .aload_n 0, 1, .null, 0, 0, 0, 0),
  (55, .getfield 22, 3, .null, 1, 1, 8005, 0), (58, .aload 4, 2, .null, 0, 0, 0, 0), (60, .invokevirtual 85, 3, .null, 0, 102, 11067, 0), (63, .ireturn, 1, .null, 0, 0, 0, 0),
  (64, .iconst 0, 1, .null, 0, 0, 0, 0), (65, .istore 6, 2, .null, 0, 0, 0, 0), (67, .iload 6, 2, .null, 0, 0, 0, 0), (69, .sipush 196, 3, .null, 0, 0, 0, 0),
  (72, .if_icmp .ge 149, 3, .null, 110, 0, 0, 0), (75, .iload 6, 2, .null, 0, 0, 0, 0), (77, .aload_n 0, 1, .null, 0, 0, 0, 0), (78, .getfield 22, 3, .null, 1, 1, 8005, 0),
  (81, .invokevirtual 89, 3, .null, 0, 97, 11068, 0), (84, .if_icmp .ge 137, 3, .null, 110, 0, 0, 0), (87, .aload_n 0, 1, .null, 0, 0, 0, 0), (88, .getfield 22, 3, .null, 1, 1, 8005, 0),
  (91, .iload 6, 2, .null, 0, 0, 0, 0), (93, .invokevirtual 95, 3, .null, 0, 98, 11069, 0), (96, .bipush 14, 2, .null, 0, 0, 0, 0), (98, .idiv, 1, .null, 0, 0, 0, 0),
  (99, .istore 7, 2, .null, 0, 0, 0, 0), (101, .aload_n 0, 1, .null, 0, 0, 0, 0), (102, .getfield 22, 3, .null, 1, 1, 8005, 0), (105, .iload 6, 2, .null, 0, 0, 0, 0),
  (107, .invokevirtual 95, 3, .null, 0, 98, 11069, 0), (110, .bipush 14, 2, .null, 0, 0, 0, 0), (112, .irem, 1, .null, 0, 0, 0, 0), (113, .istore 8, 2, .null, 0, 0, 0, 0),
  (115, .iconst 0, 1, .null, 0, 0, 0, 0), (116, .istore 9, 2, .null, 0, 0, 0, 0), (118, .iload 9, 2, .null, 0, 0, 0, 0), (120, .aload_n 0, 1, .null, 0, 0, 0, 0),
  (121, .getfield 18, 3, .null, 1, 0, 8004, 0), (124, .getfield 92, 3, .null, 2, 1, 7080, 0), (127, .if_icmp .ge 88, 3, .null, 108, 0, 0, 0), (130, .iload_n 3, 1, .null, 0, 0, 0, 0),
  (131, .iload 9, 2, .null, 0, 0, 0, 0), (133, .iushr, 1, .null, 0, 0, 0, 0), (134, .iconst 1, 1, .null, 0, 0, 0, 0), (135, .iand, 1, .null, 0, 0, 0, 0),
  (136, .ifCond .eq 8, 3, .null, 75, 0, 0, 0), (139, .iload 8, 2, .null, 0, 0, 0, 0), (141, .goto 14, 3, .null, 80, 0, 0, 0), (144, .aload_n 0, 1, .null, 0, 0, 0, 0),
  (145, .getfield 18, 3, .null, 1, 0, 8004, 0), (148, .iload 8, 2, .null, 0, 0, 0, 0), (150, .iload 9, 2, .null, 0, 0, 0, 0), (152, .invokevirtual 36, 3, .null, 0, 27, 9192, 0),
  (155, .istore 10, 2, .null, 0, 0, 0, 0), (157, .aload_n 0, 1, .null, 0, 0, 0, 0), (158, .getfield 18, 3, .null, 1, 0, 8004, 0), (161, .iload 7, 2, .null, 0, 0, 0, 0),
  (163, .iload 9, 2, .null, 0, 0, 0, 0), (165, .invokevirtual 36, 3, .null, 0, 27, 9192, 0), (168, .bipush 14, 2, .null, 0, 0, 0, 0), (170, .imul, 1, .null, 0, 0, 0, 0),
  (171, .iload 10, 2, .null, 0, 0, 0, 0), (173, .iadd, 1, .null, 0, 0, 0, 0), (174, .istore 11, 2, .null, 0, 0, 0, 0), (176, .aload_n 0, 1, .null, 0, 0, 0, 0),
  (177, .getfield 22, 3, .null, 1, 1, 8005, 0), (180, .iload 11, 2, .null, 0, 0, 0, 0), (182, .iload 6, 2, .null, 0, 0, 0, 0), (184, .iload 9, 2, .null, 0, 0, 0, 0),
  (186, .invokevirtual 77, 3, .null, 0, 101, 11062, 0), (189, .ifCond .eq 20, 3, .null, 106, 0, 0, 0), (192, .iload 11, 2, .null, 0, 0, 0, 0), (194, .iload 5, 2, .null, 0, 0, 0, 0),
  (196, .if_icmp .ne 13, 3, .null, 106, 0, 0, 0), (199, .aload_n 0, 1, .null, 0, 0, 0, 0), (200, .getfield 22, 3, .null, 1, 1, 8005, 0), (203, .aload 4, 2, .null, 0, 0, 0, 0),
  (205, .invokevirtual 85, 3, .null, 0, 102, 11067, 0), (208, .ireturn, 1, .null, 0, 0, 0, 0), (209, .iinc 9 1, 3, .null, 0, 0, 0, 0), (212, .goto (-94), 3, .null, 62, 0, 0, 0),
  (215, .iinc 6 1, 3, .null, 0, 0, 0, 0), (218, .goto (-151), 3, .null, 38, 0, 0, 0), (221, .iconst (-1), 1, .null, 0, 0, 0, 0), (222, .ireturn, 1, .null, 0, 0, 0, 0)]
def ar_20 : List ai_R := [(0, .aload_n 0, 1, .null, 0, 0, 0, 0), (1, .invokespecial 3, 3, .null, 4, 0, 7065, 0), (4, .aload_n 0, 1, .null, 0, 0, 0, 0), (5, .bipush 84, 2, .null, 0, 0, 0, 0),
  (7, .newarray .int, 2, .null, 0, 0, 0, 0), (9, .putfield 9, 3, .null, 2, 7, 7105, 0), (12, .aload_n 0, 1, .null, 0, 0, 0, 0), (13, .bipush 84, 2, .null, 0, 0, 0, 0),
  (15, .newarray .int, 2, .null, 0, 0, 0, 0), (17, .putfield 15, 3, .null, 2, 8, 7106, 0), (20, .aload_n 0, 1, .null, 0, 0, 0, 0), (21, .bipush 84, 2, .null, 0, 0, 0, 0),
  (23, .newarray .int, 2, .null, 0, 0, 0, 0), (25, .putfield 18, 3, .null, 2, 9, 7107, 0), (28, .aload_n 0, 1, .null, 0, 0, 0, 0), (29, .bipush 14, 2, .null, 0, 0, 0, 0),
  (31, .newarray .int, 2, .null, 0, 0, 0, 0), (33, .putfield 21, 3, .null, 2, 10, 7108, 0), (36, .aload_n 0, 1, .null, 0, 0, 0, 0), (37, .bipush 8, 2, .null, 0, 0, 0, 0),
  (39, .newarray .int, 2, .null, 0, 0, 0, 0), (41, .putfield 24, 3, .null, 2, 11, 7109, 0), (44, .return_, 1, .null, 0, 0, 0, 0)]
def ar_21 : List ai_R := [(0, .aload_n 0, 1, .null, 0, 0, 0, 0), (1, .iconst 0, 1, .null, 0, 0, 0, 0), (2, .putfield 27, 3, .null, 2, 0, 7066, 0), (5, .aload_n 0, 1, .null, 0, 0, 0, 0),
  (6, .iconst 0, 1, .null, 0, 0, 0, 0), (7, .putfield 31, 3, .null, 2, 1, 7074, 0), (10, .aload_n 0, 1, .null, 0, 0, 0, 0), (11, .iconst 0, 1, .null, 0, 0, 0, 0),
  (12, .putfield 34, 3, .null, 2, 2, 7082, 0), (15, .aload_n 0, 1, .null, 0, 0, 0, 0), (16, .iconst 0, 1, .null, 0, 0, 0, 0), (17, .putfield 37, 3, .null, 2, 3, 7085, 0),
  (20, .aload_n 0, 1, .null, 0, 0, 0, 0), (21, .iconst 0, 1, .null, 0, 0, 0, 0), (22, .putfield 40, 3, .null, 2, 4, 7093, 0), (25, .aload_n 0, 1, .null, 0, 0, 0, 0),
  (26, .iconst 0, 1, .null, 0, 0, 0, 0), (27, .putfield 43, 3, .null, 2, 5, 7097, 0), (30, .aload_n 0, 1, .null, 0, 0, 0, 0), (31, .iconst 0, 1, .null, 0, 0, 0, 0),
  (32, .putfield 46, 3, .null, 2, 6, 7101, 0), (35, .aload_n 0, 1, .null, 0, 0, 0, 0), (36, .getfield 21, 3, .null, 2, 10, 7108, 0), (39, .iconst 0, 1, .null, 0, 0, 0, 0),
  (40, .invokestatic 49, 3, .null, 1, 292, 8152, 0), (43, .iconst 0, 1, .null, 0, 0, 0, 0), (44, .istore_n 1, 1, .null, 0, 0, 0, 0), (45, .iload_n 1, 1, .null, 0, 0, 0, 0),
  (46, .bipush 14, 2, .null, 0, 0, 0, 0), (48, .if_icmp .ge 30, 3, .null, 44, 0, 0, 0), (51, .iconst 0, 1, .null, 0, 0, 0, 0), (52, .istore_n 2, 1, .null, 0, 0, 0, 0),
  (53, .iload_n 2, 1, .null, 0, 0, 0, 0), (54, .bipush 6, 2, .null, 0, 0, 0, 0), (56, .if_icmp .ge 16, 3, .null, 42, 0, 0, 0), (59, .aload_n 0, 1, .null, 0, 0, 0, 0),
  (60, .iload_n 1, 1, .null, 0, 0, 0, 0), (61, .iload_n 2, 1, .null, 0, 0, 0, 0), (62, .iload_n 1, 1, .null, 0, 0, 0, 0), (63, .invokevirtual 55, 3, .null, 0, 32, 8155, 0),
  (66, .iinc 2 1, 3, .null, 0, 0, 0, 0), (69, .goto (-16), 3, .null, 32, 0, 0, 0), (72, .iinc 1 1, 3, .null, 0, 0, 0, 0), (75, .goto (-30), 3, .null, 27, 0, 0, 0),
  (78, .return_, 1, .null, 0, 0, 0, 0)]
def ar_22 : List ai_R := [(0, .aload_n 0, 1, .null, 0, 0, 0, 0), (1, .aload_n 1, 1, .null, 0, 0, 0, 0), (2, .getfield 27, 3, .null, 2, 0, 7066, 0), (5, .putfield 27, 3, .null, 2, 0, 7066, 0),
  (8, .aload_n 0, 1, .null, 0, 0, 0, 0), (9, .aload_n 1, 1, .null, 0, 0, 0, 0), (10, .getfield 31, 3, .null, 2, 1, 7074, 0), (13, .putfield 31, 3, .null, 2, 1, 7074, 0),
  (16, .aload_n 0, 1, .null, 0, 0, 0, 0), (17, .aload_n 1, 1, .null, 0, 0, 0, 0), (18, .getfield 34, 3, .null, 2, 2, 7082, 0), (21, .putfield 34, 3, .null, 2, 2, 7082, 0),
  (24, .aload_n 0, 1, .null, 0, 0, 0, 0), (25, .aload_n 1, 1, .null, 0, 0, 0, 0), (26, .getfield 37, 3, .null, 2, 3, 7085, 0), (29, .putfield 37, 3, .null, 2, 3, 7085, 0),
  (32, .aload_n 0, 1, .null, 0, 0, 0, 0), (33, .aload_n 1, 1, .null, 0, 0, 0, 0), (34, .getfield 40, 3, .null, 2, 4, 7093, 0), (37, .putfield 40, 3, .null, 2, 4, 7093, 0),
  (40, .aload_n 0, 1, .null, 0, 0, 0, 0), (41, .aload_n 1, 1, .null, 0, 0, 0, 0), (42, .getfield 43, 3, .null, 2, 5, 7097, 0), (45, .putfield 43, 3, .null, 2, 5, 7097, 0),
  (48, .aload_n 0, 1, .null, 0, 0, 0, 0), (49, .aload_n 1, 1, .null, 0, 0, 0, 0), (50, .getfield 46, 3, .null, 2, 6, 7101, 0), (53, .putfield 46, 3, .null, 2, 6, 7101, 0),
  (56, .aload_n 1, 1, .null, 0, 0, 0, 0), (57, .getfield 9, 3, .null, 2, 7, 7105, 0), (60, .iconst 0, 1, .null, 0, 0, 0, 0), (61, .aload_n 0, 1, .null, 0, 0, 0, 0),
  (62, .getfield 9, 3, .null, 2, 7, 7105, 0), (65, .iconst 0, 1, .null, 0, 0, 0, 0), (66, .aload_n 0, 1, .null, 0, 0, 0, 0), (67, .getfield 9, 3, .null, 2, 7, 7105, 0),
  (70, .arraylength, 1, .null, 0, 0, 0, 0), (71, .invokestatic 59, 3, .null, 5, 0, 9062, 0), (74, .aload_n 1, 1, .null, 0, 0, 0, 0), (75, .getfield 15, 3, .null, 2, 8, 7106, 0),
  (78, .iconst 0, 1, .null, 0, 0, 0, 0), (79, .aload_n 0, 1, .null, 0, 0, 0, 0), (80, .getfield 15, 3, .null, 2, 8, 7106, 0), (83, .iconst 0, 1, .null, 0, 0, 0, 0),
  (84, .aload_n 0, 1, .null, 0, 0, 0, 0), (85, .getfield 15, 3, .null, 2, 8, 7106, 0), (88, .arraylength, 1, .null, 0, 0, 0, 0), (89, .invokestatic 59, 3, .null, 5, 0, 9062, 0),
  (92, .aload_n 1, 1, .null, 0, 0, 0, 0), (93, .getfield 18, 3, .null, 2, 9, 7107, 0), (96, .iconst 0, 1, .null, 0, 0, 0, 0), (97, .aload_n 0, 1, .null, 0, 0, 0, 0),
  (98, .getfield 18, 3, .null, 2, 9, 7107, 0), (101, .iconst 0, 1, .null, 0, 0, 0, 0), (102, .aload_n 0, 1, .null, 0, 0, 0, 0), (103, .getfield 18, 3, .null, 2, 9, 7107, 0),
  (106, .arraylength, 1, .null, 0, 0, 0, 0), (107, .invokestatic 59, 3, .null, 5, 0, 9062, 0), (110, .aload_n 1, 1, .null, 0, 0, 0, 0), (111, .getfield 21, 3, .null, 2, 10, 7108, 0),
  (114, .iconst 0, 1, .null, 0, 0, 0, 0), (115, .aload_n 0, 1, .null, 0, 0, 0, 0), (116, .getfield 21, 3, .null, 2, 10, 7108, 0), (119, .iconst 0, 1, .null, 0, 0, 0, 0),
  (120, .aload_n 0, 1, .null, 0, 0, 0, 0), (121, .getfield 21, 3, .null, 2, 10, 7108, 0), (124, .arraylength, 1, .null, 0, 0, 0, 0), (125, .invokestatic 59, 3, .null, 5, 0, 9062, 0),
  (128, .aload_n 1, 1, .null, 0, 0, 0, 0), (129, .getfield 24, 3, .null, 2, 11, 7109, 0), (132, .iconst 0, 1, .null, 0, 0, 0, 0), (133, .aload_n 0, 1, .null, 0, 0, 0, 0),
  (134, .getfield 24, 3, .null, 2, 11, 7109, 0), (137, .iconst 0, 1, .null, 0, 0, 0, 0), (138, .aload_n 0, 1, .null, 0, 0, 0, 0), (139, .getfield 24, 3, .null, 2, 11, 7109, 0),
  (142, .arraylength, 1, .null, 0, 0, 0, 0), (143, .invokestatic 59, 3, .null, 5, 0, 9062, 0), (146, .return_, 1, .null, 0, 0, 0, 0)]
def ar_23 : List ai_R := [(0, .iload_n 1, 1, .null, 0, 0, 0, 0), (1, .ifCond .lt 15, 3, .null, 8, 0, 0, 0), (4, .iload_n 1, 1, .null, 0, 0, 0, 0), (5, .aload_n 0, 1, .null, 0, 0, 0, 0),
  (6, .getfield 27, 3, .null, 2, 0, 7066, 0), (9, .if_icmp .ge 7, 3, .null, 8, 0, 0, 0), (12, .iconst 1, 1, .null, 0, 0, 0, 0), (13, .goto 4, 3, .null, 9, 0, 0, 0),
  (16, .iconst 0, 1, .null, 0, 0, 0, 0), (17, .ireturn, 1, .null, 0, 0, 0, 0)]
def ar_24 : List ai_R := [(0, .iload_n 1, 1, .null, 0, 0, 0, 0), (1, .ifCond .lt 15, 3, .null, 8, 0, 0, 0), (4, .iload_n 1, 1, .null, 0, 0, 0, 0), (5, .aload_n 0, 1, .null, 0, 0, 0, 0),
  (6, .getfield 31, 3, .null, 2, 1, 7074, 0), (9, .if_icmp .ge 7, 3, .null, 8, 0, 0, 0), (12, .iconst 1, 1, .null, 0, 0, 0, 0), (13, .goto 4, 3, .null, 9, 0, 0, 0),
  (16, .iconst 0, 1, .null, 0, 0, 0, 0), (17, .ireturn, 1, .null, 0, 0, 0, 0)]
def ar_25 : List ai_R := [(0, .iload_n 1, 1, .null, 0, 0, 0, 0), (1, .ifCond .lt 15, 3, .null, 8, 0, 0, 0), (4, .iload_n 1, 1, .null, 0, 0, 0, 0), (5, .aload_n 0, 1, .null, 0, 0, 0, 0),
  (6, .getfield 40, 3, .null, 2, 4, 7093, 0), (9, .if_icmp .ge 7, 3, .null, 8, 0, 0, 0), (12, .iconst 1, 1, .null, 0, 0, 0, 0), (13, .goto 4, 3, .null, 9, 0, 0, 0),
  (16, .iconst 0, 1, .null, 0, 0, 0, 0), (17, .ireturn, 1, .null, 0, 0, 0, 0)]
def ar_26 : List ai_R := [(0, .iload_n 1, 1, .null, 0, 0, 0, 0), (1, .ifCond .le 17, 3, .null, 10, 0, 0, 0), (4, .iload_n 1, 1, .null, 0, 0, 0, 0), (5, .iconst 1, 1, .null, 0, 0, 0, 0),
  (6, .aload_n 0, 1, .null, 0, 0, 0, 0), (7, .getfield 27, 3, .null, 2, 0, 7066, 0), (10, .ishl, 1, .null, 0, 0, 0, 0), (11, .if_icmp .ge 7, 3, .null, 10, 0, 0, 0),
  (14, .iconst 1, 1, .null, 0, 0, 0, 0), (15, .goto 4, 3, .null, 11, 0, 0, 0), (18, .iconst 0, 1, .null, 0, 0, 0, 0), (19, .ireturn, 1, .null, 0, 0, 0, 0)]
def ar_27 : List ai_R := [(0, .aload_n 0, 1, .null, 0, 0, 0, 0), (1, .getfield 9, 3, .null, 2, 7, 7105, 0), (4, .iload_n 1, 1, .null, 0, 0, 0, 0), (5, .bipush 6, 2, .null, 0, 0, 0, 0),
  (7, .imul, 1, .null, 0, 0, 0, 0), (8, .iload_n 2, 1, .null, 0, 0, 0, 0), (9, .iadd, 1, .null, 0, 0, 0, 0), (10, .iaload, 1, .null, 0, 0, 0, 0),
  (11, .ireturn, 1, .null, 0, 0, 0, 0)]
def ar_28 : List ai_R := [(0, .aload_n 0, 1, .null, 0, 0, 0, 0), (1, .getfield 15, 3, .null, 2, 8, 7106, 0), (4, .iload_n 1, 1, .null, 0, 0, 0, 0), (5, .bipush 6, 2, .null, 0, 0, 0, 0),
  (7, .imul, 1, .null, 0, 0, 0, 0), (8, .iload_n 2, 1, .null, 0, 0, 0, 0), (9, .iadd, 1, .null, 0, 0, 0, 0), (10, .iaload, 1, .null, 0, 0, 0, 0),
  (11, .ireturn, 1, .null, 0, 0, 0, 0)]
def ar_29 : List ai_R := [(0, .aload_n 0, 1, .null, 0, 0, 0, 0), (1, .getfield 18, 3, .null, 2, 9, 7107, 0), (4, .iload_n 1, 1, .null, 0, 0, 0, 0), (5, .bipush 6, 2, .null, 0, 0, 0, 0),
  (7, .imul, 1, .null, 0, 0, 0, 0), (8, .iload_n 2, 1, .null, 0, 0, 0, 0), (9, .iadd, 1, .null, 0, 0, 0, 0), (10, .iaload, 1, .null, 0, 0, 0, 0),
  (11, .ireturn, 1, .null, 0, 0, 0, 0)]
def ar_30 : List ai_R := [(0, .aload_n 0, 1, .null, 0, 0, 0, 0), (1, .getfield 21, 3, .null, 2, 10, 7108, 0), (4, .iload_n 1, 1, .null, 0, 0, 0, 0), (5, .iaload, 1, .null, 0, 0, 0, 0),
  (6, .ireturn, 1, .null, 0, 0, 0, 0)]
def ar_31 : List ai_R := [(0, .aload_n 0, 1, .null, 0, 0, 0, 0), (1, .getfield 24, 3, .null, 2, 11, 7109, 0), (4, .iload_n 1, 1, .null, 0, 0, 0, 0), (5, .iaload, 1, .null, 0, 0, 0, 0),
  (6, .ireturn, 1, .null, 0, 0, 0, 0)]
def ar_32 : List ai_R := [(0, .aload_n 0, 1, .null, 0, 0, 0, 0), (1, .getfield 9, 3, .null, 2, 7, 7105, 0), (4, .iload_n 1, 1, .null, 0, 0, 0, 0), (5, .bipush 6, 2, .null, 0, 0, 0, 0),
  (7, .imul, 1, .null, 0, 0, 0, 0), (8, .iload_n 2, 1, .null, 0, 0, 0, 0), (9, .iadd, 1, .null, 0, 0, 0, 0), (10, .iload_n 3, 1, .null, 0, 0, 0, 0),
  (11, .iastore, 1, .null, 0, 0, 0, 0), (12, .aload_n 0, 1, .null, 0, 0, 0, 0), (13, .getfield 15, 3, .null, 2, 8, 7106, 0), (16, .iload_n 1, 1, .null, 0, 0, 0, 0),
  (17, .bipush 6, 2, .null, 0, 0, 0, 0), (19, .imul, 1, .null, 0, 0, 0, 0), (20, .iload_n 2, 1, .null, 0, 0, 0, 0), (21, .iadd, 1, .null, 0, 0, 0, 0),
  (22, .iconst (-1), 1, .null, 0, 0, 0, 0), (23, .iastore, 1, .null, 0, 0, 0, 0), (24, .aload_n 0, 1, .null, 0, 0, 0, 0), (25, .getfield 18, 3, .null, 2, 9, 7107, 0),
  (28, .iload_n 1, 1, .null, 0, 0, 0, 0), (29, .bipush 6, 2, .null, 0, 0, 0, 0), (31, .imul, 1, .null, 0, 0, 0, 0), (32, .iload_n 2, 1, .null, 0, 0, 0, 0),
  (33, .iadd, 1, .null, 0, 0, 0, 0), (34, .iconst 0, 1, .null, 0, 0, 0, 0), (35, .iastore, 1, .null, 0, 0, 0, 0), (36, .return_, 1, .null, 0, 0, 0, 0)]
def ar_33 : List ai_R := [(0, .aload_n 0, 1, .null, 0, 0, 0, 0), (1, .getfield 15, 3, .null, 2, 8, 7106, 0), (4, .iload_n 1, 1, .null, 0, 0, 0, 0), (5, .bipush 6, 2, .null, 0, 0, 0, 0),
  (7, .imul, 1, .null, 0, 0, 0, 0), (8, .iload_n 2, 1, .null, 0, 0, 0, 0), (9, .iadd, 1, .null, 0, 0, 0, 0), (10, .iload_n 3, 1, .null, 0, 0, 0, 0),
  (11, .iastore, 1, .null, 0, 0, 0, 0), (12, .aload_n 0, 1, .null, 0, 0, 0, 0), (13, .getfield 18, 3, .null, 2, 9, 7107, 0), (16, .iload_n 1, 1, .null, 0, 0, 0, 0),
  (17, .bipush 6, 2, .null, 0, 0, 0, 0), (19, .imul, 1, .null, 0, 0, 0, 0), (20, .iload_n 2, 1, .null, 0, 0, 0, 0), (21, .iadd, 1, .null, 0, 0, 0, 0),
  (22, .iload 4, 2, .null, 0, 0, 0, 0), (24, .iastore, 1, .null, 0, 0, 0, 0), (25, .return_, 1, .null, 0, 0, 0, 0)]
def ar_34 : List ai_R := [(0, .aload_n 0, 1, .null, 0, 0, 0, 0), (1, .getfield 21, 3, .null, 2, 10, 7108, 0), (4, .iload_n 1, 1, .null, 0, 0, 0, 0), (5, .iload_n 2, 1, .null, 0, 0, 0, 0),
  (6, .iastore, 1, .null, 0, 0, 0, 0), (7, .return_, 1, .null, 0, 0, 0, 0)]
def ar_35 : List ai_R := [(0, .aload_n 0, 1, .null, 0, 0, 0, 0), (1, .getfield 40, 3, .null, 2, 4, 7093, 0), (4, .bipush 8, 2, .null, 0, 0, 0, 0), (6, .if_icmp .ge 23, 3, .null, 16, 0, 0, 0),
  (9, .aload_n 0, 1, .null, 0, 0, 0, 0), (10, .getfield 24, 3, .null, 2, 11, 7109, 0), (13, .aload_n 0, 1, .null, 0, 0, 0, 0), (14, .getfield 40, 3, .null, 2, 4, 7093, 0),
  (17, .iload_n 1, 1, .null, 0, 0, 0, 0), (18, .iastore, 1, .null, 0, 0, 0, 0), (19, .aload_n 0, 1, .null, 0, 0, 0, 0), (20, .dup, 1, .null, 0, 0, 0, 0),
  (21, .getfield 40, 3, .null, 2, 4, 7093, 0), (24, .iconst 1, 1, .null, 0, 0, 0, 0), (25, .iadd, 1, .null, 0, 0, 0, 0), (26, .putfield 40, 3, .null, 2, 4, 7093, 0),
  (29, .return_, 1, .null, 0, 0, 0, 0)]
def ar_36 : List ai_R := [(0, .iconst 0, 1, .null, 0, 0, 0, 0), (1, .istore_n 1, 1, .null, 0, 0, 0, 0), (2, .iconst 0, 1, .null, 0, 0, 0, 0), (3, .istore_n 2, 1, .null, 0, 0, 0, 0),
  (4, .iload_n 2, 1, .null, 0, 0, 0, 0), (5, .aload_n 0, 1, .null, 0, 0, 0, 0), (6, .getfield 27, 3, .null, 2, 0, 7066, 0), (9, .if_icmp .ge 37, 3, .null, 24, 0, 0, 0),
  (12, .iconst 0, 1, .null, 0, 0, 0, 0), (13, .istore_n 3, 1, .null, 0, 0, 0, 0), (14, .iload_n 3, 1, .null, 0, 0, 0, 0), (15, .aload_n 0, 1, .null, 0, 0, 0, 0),
  (16, .getfield 31, 3, .null, 2, 1, 7074, 0), (19, .if_icmp .ge 21, 3, .null, 22, 0, 0, 0), (22, .aload_n 0, 1, .null, 0, 0, 0, 0), (23, .iload_n 2, 1, .null, 0, 0, 0, 0),
  (24, .iload_n 3, 1, .null, 0, 0, 0, 0), (25, .invokevirtual 65, 3, .null, 0, 29, 9132, 0), (28, .ifCond .le 6, 3, .null, 20, 0, 0, 0), (31, .iinc 1 1, 3, .null, 0, 0, 0, 0),
  (34, .iinc 3 1, 3, .null, 0, 0, 0, 0), (37, .goto (-23), 3, .null, 10, 0, 0, 0), (40, .iinc 2 1, 3, .null, 0, 0, 0, 0), (43, .goto (-39), 3, .null, 4, 0, 0, 0),
  (46, .iload_n 1, 1, .null, 0, 0, 0, 0), (47, .ireturn, 1, .null, 0, 0, 0, 0)]
def ar_37 : List ai_R := [(0, .iconst 1, 1, .null, 0, 0, 0, 0), (1, .aload_n 0, 1, .null, 0, 0, 0, 0), (2, .iload_n 1, 1, .null, 0, 0, 0, 0), (3, .iload_n 2, 1, .null, 0, 0, 0, 0),
  (4, .invokevirtual 69, 3, .null, 0, 27, 9131, 0), (7, .ishl, 1, .null, 0, 0, 0, 0), (8, .istore_n 3, 1, .null, 0, 0, 0, 0), (9, .aload_n 0, 1, .null, 0, 0, 0, 0),
  (10, .iload_n 1, 1, .null, 0, 0, 0, 0), (11, .iload_n 2, 1, .null, 0, 0, 0, 0), (12, .invokevirtual 65, 3, .null, 0, 29, 9132, 0), (15, .ifCond .le 16, 3, .null, 21, 0, 0, 0),
  (18, .iload_n 3, 1, .null, 0, 0, 0, 0), (19, .iconst 1, 1, .null, 0, 0, 0, 0), (20, .aload_n 0, 1, .null, 0, 0, 0, 0), (21, .iload_n 1, 1, .null, 0, 0, 0, 0),
  (22, .iload_n 2, 1, .null, 0, 0, 0, 0), (23, .invokevirtual 72, 3, .null, 0, 28, 9133, 0), (26, .ishl, 1, .null, 0, 0, 0, 0), (27, .ior, 1, .null, 0, 0, 0, 0),
  (28, .goto 4, 3, .null, 22, 0, 0, 0), (31, .iload_n 3, 1, .null, 0, 0, 0, 0), (32, .ireturn, 1, .null, 0, 0, 0, 0)]
def ar_38 : List ai_R := [(0, .iconst 0, 1, .null, 0, 0, 0, 0), (1, .istore_n 3, 1, .null, 0, 0, 0, 0), (2, .iconst 0, 1, .null, 0, 0, 0, 0), (3, .istore 4, 2, .null, 0, 0, 0, 0),
  (5, .iload 4, 2, .null, 0, 0, 0, 0), (7, .aload_n 0, 1, .null, 0, 0, 0, 0), (8, .getfield 27, 3, .null, 2, 0, 7066, 0), (11, .if_icmp .ge 28, 3, .null, 23, 0, 0, 0),
  (14, .iload_n 1, 1, .null, 0, 0, 0, 0), (15, .iload 4, 2, .null, 0, 0, 0, 0), (17, .iushr, 1, .null, 0, 0, 0, 0), (18, .iconst 1, 1, .null, 0, 0, 0, 0),
  (19, .iand, 1, .null, 0, 0, 0, 0), (20, .ifCond .eq 13, 3, .null, 21, 0, 0, 0), (23, .iload_n 3, 1, .null, 0, 0, 0, 0), (24, .aload_n 0, 1, .null, 0, 0, 0, 0),
  (25, .iload 4, 2, .null, 0, 0, 0, 0), (27, .iload_n 2, 1, .null, 0, 0, 0, 0), (28, .invokevirtual 75, 3, .null, 0, 37, 9127, 0), (31, .ior, 1, .null, 0, 0, 0, 0),
  (32, .istore_n 3, 1, .null, 0, 0, 0, 0), (33, .iinc 4 1, 3, .null, 0, 0, 0, 0), (36, .goto (-31), 3, .null, 4, 0, 0, 0), (39, .iload_n 3, 1, .null, 0, 0, 0, 0),
  (40, .ireturn, 1, .null, 0, 0, 0, 0)]
def ar_39 : List ai_R := [(0, .iconst 0, 1, .null, 0, 0, 0, 0), (1, .istore_n 3, 1, .null, 0, 0, 0, 0), (2, .iconst 0, 1, .null, 0, 0, 0, 0), (3, .istore 4, 2, .null, 0, 0, 0, 0),
  (5, .iload 4, 2, .null, 0, 0, 0, 0), (7, .aload_n 0, 1, .null, 0, 0, 0, 0), (8, .getfield 27, 3, .null, 2, 0, 7066, 0), (11, .if_icmp .ge 30, 3, .null, 25, 0, 0, 0),
  (14, .iload_n 1, 1, .null, 0, 0, 0, 0), (15, .iload 4, 2, .null, 0, 0, 0, 0), (17, .iushr, 1, .null, 0, 0, 0, 0), (18, .iconst 1, 1, .null, 0, 0, 0, 0),
  (19, .iand, 1, .null, 0, 0, 0, 0), (20, .ifCond .eq 15, 3, .null, 23, 0, 0, 0), (23, .iload_n 3, 1, .null, 0, 0, 0, 0), (24, .iconst 1, 1, .null, 0, 0, 0, 0),
  (25, .aload_n 0, 1, .null, 0, 0, 0, 0), (26, .iload 4, 2, .null, 0, 0, 0, 0), (28, .iload_n 2, 1, .null, 0, 0, 0, 0), (29, .invokevirtual 69, 3, .null, 0, 27, 9131, 0),
  (32, .ishl, 1, .null, 0, 0, 0, 0), (33, .ior, 1, .null, 0, 0, 0, 0), (34, .istore_n 3, 1, .null, 0, 0, 0, 0), (35, .iinc 4 1, 3, .null, 0, 0, 0, 0),
  (38, .goto (-33), 3, .null, 4, 0, 0, 0), (41, .iload_n 3, 1, .null, 0, 0, 0, 0), (42, .ireturn, 1, .null, 0, 0, 0, 0)]
def ar_40 : List ai_R := [(0, .iconst 1, 1, .null, 0, 0, 0, 0), (1, .iload_n 1, 1, .null, 0, 0, 0, 0), (2, .ishl, 1, .null, 0, 0, 0, 0), (3, .istore_n 2, 1, .null, 0, 0, 0, 0),
  (4, .iconst 0, 1, .null, 0, 0, 0, 0), (5, .istore_n 3, 1, .null, 0, 0, 0, 0), (6, .iload_n 3, 1, .null, 0, 0, 0, 0), (7, .aload_n 0, 1, .null, 0, 0, 0, 0),
  (8, .getfield 27, 3, .null, 2, 0, 7066, 0), (11, .if_icmp .ge 37, 3, .null, 27, 0, 0, 0), (14, .iconst 0, 1, .null, 0, 0, 0, 0), (15, .istore 4, 2, .null, 0, 0, 0, 0),
  (17, .iload 4, 2, .null, 0, 0, 0, 0), (19, .aload_n 0, 1, .null, 0, 0, 0, 0), (20, .getfield 31, 3, .null, 2, 1, 7074, 0), (23, .if_icmp .ge 19, 3, .null, 25, 0, 0, 0),
  (26, .iload_n 2, 1, .null, 0, 0, 0, 0), (27, .aload_n 0, 1, .null, 0, 0, 0, 0), (28, .iload_n 2, 1, .null, 0, 0, 0, 0), (29, .iload 4, 2, .null, 0, 0, 0, 0),
  (31, .invokevirtual 78, 3, .null, 0, 38, 9123, 0), (34, .ior, 1, .null, 0, 0, 0, 0), (35, .istore_n 2, 1, .null, 0, 0, 0, 0), (36, .iinc 4 1, 3, .null, 0, 0, 0, 0),
  (39, .goto (-22), 3, .null, 12, 0, 0, 0), (42, .iinc 3 1, 3, .null, 0, 0, 0, 0), (45, .goto (-39), 3, .null, 6, 0, 0, 0), (48, .iload_n 2, 1, .null, 0, 0, 0, 0),
  (49, .ireturn, 1, .null, 0, 0, 0, 0)]
def ar_41 : List ai_R := [(0, .iload_n 3, 1, .null, 0, 0, 0, 0), (1, .istore 4, 2, .null, 0, 0, 0, 0), (3, .iconst 0, 1, .null, 0, 0, 0, 0), (4, .istore 5, 2, .null, 0, 0, 0, 0),
  (6, .iload 5, 2, .null, 0, 0, 0, 0), (8, .iload_n 2, 1, .null, 0, 0, 0, 0), (9, .if_icmp .ge 23, 3, .null, 16, 0, 0, 0), (12, .aload_n 0, 1, .null, 0, 0, 0, 0),
  (13, .iload 4, 2, .null, 0, 0, 0, 0), (15, .aload_n 1, 1, .null, 0, 0, 0, 0), (16, .iload 5, 2, .null, 0, 0, 0, 0), (18, .invokevirtual 81, 3, .null, 0, 90, 9174, 0),
  (21, .invokevirtual 69, 3, .null, 0, 27, 9131, 0), (24, .istore 4, 2, .null, 0, 0, 0, 0), (26, .iinc 5 1, 3, .null, 0, 0, 0, 0), (29, .goto (-23), 3, .null, 4, 0, 0, 0),
  (32, .iload 4, 2, .null, 0, 0, 0, 0), (34, .ireturn, 1, .null, 0, 0, 0, 0)]
def ar_42 : List ai_R := [(0, .aload_n 0, 1, .null, 0, 0, 0, 0), (1, .invokespecial 3, 3, .null, 4, 0, 8062, 0), (4, .aload_n 0, 1, .null, 0, 0, 0, 0), (5, .iconst (-1), 1, .null, 0, 0, 0, 0),
  (6, .putfield 9, 3, .null, 3, 0, 8063, 0), (9, .aload_n 0, 1, .null, 0, 0, 0, 0), (10, .bipush 40, 2, .null, 0, 0, 0, 0), (12, .newarray .long, 2, .null, 0, 0, 0, 0),
  (14, .putfield 15, 3, .null, 3, 2, 8066, 0), (17, .return_, 1, .null, 0, 0, 0, 0)]
def ar_43 : List ai_R := [(0, .aload_n 0, 1, .null, 0, 0, 0, 0), (1, .getfield 9, 3, .null, 3, 0, 8063, 0), (4, .iconst (-1), 1, .null, 0, 0, 0, 0), (5, .if_icmp .ne 7, 3, .null, 6, 0, 0, 0),
  (8, .iconst 1, 1, .null, 0, 0, 0, 0), (9, .goto 4, 3, .null, 7, 0, 0, 0), (12, .iconst 0, 1, .null, 0, 0, 0, 0), (13, .ireturn, 1, .null, 0, 0, 0, 0)]
def ar_44 : List ai_R := [(0, .aload_n 0, 1, .null, 0, 0, 0, 0), (1, .iload_n 1, 1, .null, 0, 0, 0, 0), (2, .putfield 19, 3, .null, 3, 1, 8065, 0), (5, .aload_n 0, 1, .null, 0, 0, 0, 0),
  (6, .iload_n 2, 1, .null, 0, 0, 0, 0), (7, .putfield 9, 3, .null, 3, 0, 8063, 0), (10, .aload_n 0, 1, .null, 0, 0, 0, 0), (11, .getfield 15, 3, .null, 3, 2, 8066, 0),
  (14, .lconst 0, 1, .null, 0, 0, 0, 0), (15, .invokestatic 22, 3, .null, 1, 291, 11198, 0), (18, .return_, 1, .null, 0, 0, 0, 0)]
def ar_45 : List ai_R := [(0, .aload_n 0, 1, .null, 0, 0, 0, 0), (1, .getfield 15, 3, .null, 3, 2, 8066, 0), (4, .iload_n 1, 1, .null, 0, 0, 0, 0), (5, .aload_n 0, 1, .null, 0, 0, 0, 0),
  (6, .lload_n 2, 1, .null, 0, 0, 0, 0), (7, .invokevirtual 28, 3, .null, 0, 46, 11209, 0), (10, .lastore, 1, .null, 0, 0, 0, 0), (11, .aload_n 0, 1, .null, 0, 0, 0, 0),
  (12, .getfield 15, 3, .null, 3, 2, 8066, 0), (15, .iload_n 1, 1, .null, 0, 0, 0, 0), (16, .laload, 1, .null, 0, 0, 0, 0), (17, .lreturn, 1, .null, 0, 0, 0, 0)]
def ar_46 : List ai_R := [(0, .aload_n 0, 1, .null, 0, 0, 0, 0), (1, .getfield 19, 3, .null, 3, 1, 8065, 0), (4, .tableswitch 42 0 2 #[28, 33, 38], 28, .null, 0, 0, 0, 0), (32, .lload_n 1, 1, .null, 0, 0, 0, 0),
  (33, .l2i, 1, .null, 0, 0, 0, 0), (34, .i2b, 1, .null, 0, 0, 0, 0), (35, .i2l, 1, .null, 0, 0, 0, 0), (36, .lreturn, 1, .null, 0, 0, 0, 0),
  (37, .lload_n 1, 1, .null, 0, 0, 0, 0), (38, .l2i, 1, .null, 0, 0, 0, 0), (39, .i2s, 1, .null, 0, 0, 0, 0), (40, .i2l, 1, .null, 0, 0, 0, 0),
  (41, .lreturn, 1, .null, 0, 0, 0, 0), (42, .lload_n 1, 1, .null, 0, 0, 0, 0), (43, .l2i, 1, .null, 0, 0, 0, 0), (44, .i2l, 1, .null, 0, 0, 0, 0),
  (45, .lreturn, 1, .null, 0, 0, 0, 0), (46, .lload_n 1, 1, .null, 0, 0, 0, 0), (47, .lreturn, 1, .null, 0, 0, 0, 0)]
def ar_47 : List ai_R := [(0, .aload_n 0, 1, .null, 0, 0, 0, 0), (1, .getfield 15, 3, .null, 3, 2, 8066, 0), (4, .iload_n 1, 1, .null, 0, 0, 0, 0), (5, .laload, 1, .null, 0, 0, 0, 0),
  (6, .l2i, 1, .null, 0, 0, 0, 0), (7, .ireturn, 1, .null, 0, 0, 0, 0)]
def ar_48 : List ai_R := [(0, .iconst 0, 1, .null, 0, 0, 0, 0), (1, .istore_n 2, 1, .null, 0, 0, 0, 0), (2, .iload_n 2, 1, .null, 0, 0, 0, 0), (3, .aload_n 0, 1, .null, 0, 0, 0, 0),
  (4, .getfield 9, 3, .null, 3, 0, 8063, 0), (7, .if_icmp .ge 34, 3, .null, 25, 0, 0, 0), (10, .aload_n 0, 1, .null, 0, 0, 0, 0), (11, .getfield 15, 3, .null, 3, 2, 8066, 0),
  (14, .iload_n 2, 1, .null, 0, 0, 0, 0), (15, .laload, 1, .null, 0, 0, 0, 0), (16, .lconst 0, 1, .null, 0, 0, 0, 0), (17, .lcmp, 1, .null, 0, 0, 0, 0),
  (18, .ifCond .lt 15, 3, .null, 21, 0, 0, 0), (21, .aload_n 0, 1, .null, 0, 0, 0, 0), (22, .getfield 15, 3, .null, 3, 2, 8066, 0), (25, .iload_n 2, 1, .null, 0, 0, 0, 0),
  (26, .laload, 1, .null, 0, 0, 0, 0), (27, .iload_n 1, 1, .null, 0, 0, 0, 0), (28, .i2l, 1, .null, 0, 0, 0, 0), (29, .lcmp, 1, .null, 0, 0, 0, 0),
  (30, .ifCond .lt 5, 3, .null, 23, 0, 0, 0), (33, .iload_n 2, 1, .null, 0, 0, 0, 0), (34, .ireturn, 1, .null, 0, 0, 0, 0), (35, .iinc 2 1, 3, .null, 0, 0, 0, 0),
  (38, .goto (-36), 3, .null, 2, 0, 0, 0), (41, .iconst (-1), 1, .null, 0, 0, 0, 0), (42, .ireturn, 1, .null, 0, 0, 0, 0)]
def ar_49 : List ai_R := [(0, .aload_n 0, 1, .null, 0, 0, 0, 0), (1, .invokespecial 3, 3, .null, 4, 0, 7220, 0), (4, .aload_n 0, 1, .null, 0, 0, 0, 0), (5, .sipush 196, 3, .null, 0, 0, 0, 0),
  (8, .newarray .int, 2, .null, 0, 0, 0, 0), (10, .putfield 11, 3, .null, 4, 0, 7221, 0), (13, .aload_n 0, 1, .null, 0, 0, 0, 0), (14, .bipush 14, 2, .null, 0, 0, 0, 0),
  (16, .newarray .int, 2, .null, 0, 0, 0, 0), (18, .putfield 15, 3, .null, 4, 1, 7222, 0), (21, .aload_n 0, 1, .null, 0, 0, 0, 0), (22, .sipush 196, 3, .null, 0, 0, 0, 0),
  (25, .newarray .int, 2, .null, 0, 0, 0, 0), (27, .putfield 18, 3, .null, 4, 2, 7223, 0), (30, .aload_n 0, 1, .null, 0, 0, 0, 0), (31, .sipush 196, 3, .null, 0, 0, 0, 0),
  (34, .newarray .int, 2, .null, 0, 0, 0, 0), (36, .putfield 21, 3, .null, 4, 3, 7224, 0), (39, .aload_n 0, 1, .null, 0, 0, 0, 0), (40, .sipush 196, 3, .null, 0, 0, 0, 0),
  (43, .newarray .long, 2, .null, 0, 0, 0, 0), (45, .putfield 24, 3, .null, 4, 4, 7225, 0), (48, .return_, 1, .null, 0, 0, 0, 0)]
def ar_50 : List ai_R := [(0, .iload_n 1, 1, .null, 0, 0, 0, 0), (1, .bipush 14, 2, .null, 0, 0, 0, 0), (3, .imul, 1, .null, 0, 0, 0, 0), (4, .iload_n 2, 1, .null, 0, 0, 0, 0),
  (5, .iadd, 1, .null, 0, 0, 0, 0), (6, .ireturn, 1, .null, 0, 0, 0, 0)]
def ar_51 : List ai_R := [(0, .aload_n 0, 1, .null, 0, 0, 0, 0), (1, .getfield 11, 3, .null, 4, 0, 7221, 0), (4, .aload_n 0, 1, .null, 0, 0, 0, 0), (5, .iload_n 1, 1, .null, 0, 0, 0, 0),
  (6, .iload_n 2, 1, .null, 0, 0, 0, 0), (7, .invokevirtual 28, 3, .null, 0, 50, 10078, 0), (10, .iaload, 1, .null, 0, 0, 0, 0), (11, .ireturn, 1, .null, 0, 0, 0, 0)]
def ar_52 : List ai_R := [(0, .aload_n 0, 1, .null, 0, 0, 0, 0), (1, .getfield 11, 3, .null, 4, 0, 7221, 0), (4, .iconst (-1), 1, .null, 0, 0, 0, 0), (5, .invokestatic 32, 3, .null, 1, 292, 10077, 0),
  (8, .iconst 0, 1, .null, 0, 0, 0, 0), (9, .istore_n 2, 1, .null, 0, 0, 0, 0), (10, .iload_n 2, 1, .null, 0, 0, 0, 0), (11, .aload_n 1, 1, .null, 0, 0, 0, 0),
  (12, .getfield 38, 3, .null, 2, 0, 7071, 0), (15, .if_icmp .ge 21, 3, .null, 20, 0, 0, 0), (18, .aload_n 0, 1, .null, 0, 0, 0, 0), (19, .getfield 11, 3, .null, 4, 0, 7221, 0),
  (22, .aload_n 0, 1, .null, 0, 0, 0, 0), (23, .iload_n 2, 1, .null, 0, 0, 0, 0), (24, .iload_n 2, 1, .null, 0, 0, 0, 0), (25, .invokevirtual 28, 3, .null, 0, 50, 10078, 0),
  (28, .iconst 0, 1, .null, 0, 0, 0, 0), (29, .iastore, 1, .null, 0, 0, 0, 0), (30, .iinc 2 1, 3, .null, 0, 0, 0, 0), (33, .goto (-23), 3, .null, 6, 0, 0, 0),
  (36, .aload_n 0, 1, .null, 0, 0, 0, 0), (37, .aload_n 1, 1, .null, 0, 0, 0, 0), (38, .invokevirtual 44, 3, .null, 0, 54, 10082, 0), (41, .return_, 1, .null, 0, 0, 0, 0)]
def ar_53 : List ai_R := [(0, .aload_n 0, 1, .null, 0, 0, 0, 0), (1, .getfield 11, 3, .null, 4, 0, 7221, 0), (4, .iconst (-1), 1, .null, 0, 0, 0, 0), (5, .invokestatic 32, 3, .null, 1, 292, 10077, 0),
  (8, .iconst 0, 1, .null, 0, 0, 0, 0), (9, .istore_n 2, 1, .null, 0, 0, 0, 0), (10, .iload_n 2, 1, .null, 0, 0, 0, 0), (11, .aload_n 1, 1, .null, 0, 0, 0, 0),
  (12, .getfield 38, 3, .null, 2, 0, 7071, 0), (15, .if_icmp .ge 50, 3, .null, 35, 0, 0, 0), (18, .iconst 0, 1, .null, 0, 0, 0, 0), (19, .istore_n 3, 1, .null, 0, 0, 0, 0),
  (20, .iload_n 3, 1, .null, 0, 0, 0, 0), (21, .aload_n 1, 1, .null, 0, 0, 0, 0), (22, .getfield 38, 3, .null, 2, 0, 7071, 0), (25, .if_icmp .ge 34, 3, .null, 33, 0, 0, 0),
  (28, .aload_n 1, 1, .null, 0, 0, 0, 0), (29, .iload_n 2, 1, .null, 0, 0, 0, 0), (30, .invokevirtual 48, 3, .null, 0, 30, 11028, 0), (33, .aload_n 1, 1, .null, 0, 0, 0, 0),
  (34, .iload_n 3, 1, .null, 0, 0, 0, 0), (35, .invokevirtual 48, 3, .null, 0, 30, 11028, 0), (38, .if_icmp .eq 15, 3, .null, 31, 0, 0, 0), (41, .aload_n 0, 1, .null, 0, 0, 0, 0),
  (42, .getfield 11, 3, .null, 4, 0, 7221, 0), (45, .aload_n 0, 1, .null, 0, 0, 0, 0), (46, .iload_n 2, 1, .null, 0, 0, 0, 0), (47, .iload_n 3, 1, .null, 0, 0, 0, 0),
  (48, .invokevirtual 28, 3, .null, 0, 50, 10078, 0), (51, .iconst 0, 1, .null, 0, 0, 0, 0), (52, .iastore, 1, .null, 0, 0, 0, 0), (53, .iinc 3 1, 3, .null, 0, 0, 0, 0),
  (56, .goto (-36), 3, .null, 12, 0, 0, 0), (59, .iinc 2 1, 3, .null, 0, 0, 0, 0), (62, .goto (-52), 3, .null, 6, 0, 0, 0), (65, .aload_n 0, 1, .null, 0, 0, 0, 0),
  (66, .aload_n 1, 1, .null, 0, 0, 0, 0), (67, .invokevirtual 44, 3, .null, 0, 54, 10082, 0), (70, .return_, 1, .null, 0, 0, 0, 0)]
def ar_54 : List ai_R := [(0, .iconst 1, 1, .null, 0, 0, 0, 0), (1, .istore_n 2, 1, .null, 0, 0, 0, 0), (2, .iconst 1, 1, .null, 0, 0, 0, 0), (3, .istore_n 3, 1, .null, 0, 0, 0, 0),
  (4, .iload_n 3, 1, .null, 0, 0, 0, 0), (5, .sipush 196, 3, .null, 0, 0, 0, 0), (8, .if_icmp .gt 20, 3, .null, 16, 0, 0, 0), (11, .iload_n 2, 1, .null, 0, 0, 0, 0),
  (12, .ifCond .eq 16, 3, .null, 16, 0, 0, 0), (15, .aload_n 0, 1, .null, 0, 0, 0, 0), (16, .aload_n 1, 1, .null, 0, 0, 0, 0), (17, .iload_n 3, 1, .null, 0, 0, 0, 0),
  (18, .invokevirtual 52, 3, .null, 0, 55, 10086, 0), (21, .istore_n 2, 1, .null, 0, 0, 0, 0), (22, .iinc 3 1, 3, .null, 0, 0, 0, 0), (25, .goto (-21), 3, .null, 4, 0, 0, 0),
  (28, .return_, 1, .null, 0, 0, 0, 0)]
def ar_55 : List ai_R := [(0, .iconst 0, 1, .null, 0, 0, 0, 0), (1, .istore_n 3, 1, .null, 0, 0, 0, 0), (2, .iconst 0, 1, .null, 0, 0, 0, 0), (3, .istore 4, 2, .null, 0, 0, 0, 0),
  (5, .iload 4, 2, .null, 0, 0, 0, 0), (7, .aload_n 1, 1, .null, 0, 0, 0, 0), (8, .getfield 38, 3, .null, 2, 0, 7071, 0), (11, .if_icmp .ge 93, 3, .null, 57, 0, 0, 0),
  (14, .iload 4, 2, .null, 0, 0, 0, 0), (16, .iconst 1, 1, .null, 0, 0, 0, 0), (17, .iadd, 1, .null, 0, 0, 0, 0), (18, .istore 5, 2, .null, 0, 0, 0, 0),
  (20, .iload 5, 2, .null, 0, 0, 0, 0), (22, .aload_n 1, 1, .null, 0, 0, 0, 0), (23, .getfield 38, 3, .null, 2, 0, 7071, 0), (26, .if_icmp .ge 72, 3, .null, 55, 0, 0, 0),
  (29, .aload_n 0, 1, .null, 0, 0, 0, 0), (30, .getfield 11, 3, .null, 4, 0, 7221, 0), (33, .aload_n 0, 1, .null, 0, 0, 0, 0), (34, .iload 4, 2, .null, 0, 0, 0, 0),
  (36, .iload 5, 2, .null, 0, 0, 0, 0), (38, .invokevirtual 28, 3, .null, 0, 50, 10078, 0), (41, .iaload, 1, .null, 0, 0, 0, 0), (42, .iconst (-1), 1, .null, 0, 0, 0, 0),
  (43, .if_icmp .ne 49, 3, .null, 53, 0, 0, 0), (46, .aload_n 0, 1, .null, 0, 0, 0, 0), (47, .aload_n 1, 1, .null, 0, 0, 0, 0), (48, .iload 4, 2, .null, 0, 0, 0, 0),
  (50, .iload 5, 2, .null, 0, 0, 0, 0), (52, .iload_n 2, 1, .null, 0, 0, 0, 0), (53, .iconst 1, 1, .null, 0, 0, 0, 0), (54, .isub, 1, .null, 0, 0, 0, 0),
  (55, .invokevirtual 56, 3, .null, 0, 56, 10090, 0), (58, .iconst (-1), 1, .null, 0, 0, 0, 0), (59, .if_icmp .eq 33, 3, .null, 53, 0, 0, 0), (62, .aload_n 0, 1, .null, 0, 0, 0, 0),
  (63, .getfield 11, 3, .null, 4, 0, 7221, 0), (66, .aload_n 0, 1, .null, 0, 0, 0, 0), (67, .iload 4, 2, .null, 0, 0, 0, 0), (69, .iload 5, 2, .null, 0, 0, 0, 0),
  (71, .invokevirtual 28, 3, .null, 0, 50, 10078, 0), (74, .iload_n 2, 1, .null, 0, 0, 0, 0), (75, .iastore, 1, .null, 0, 0, 0, 0), (76, .aload_n 0, 1, .null, 0, 0, 0, 0),
  (77, .getfield 11, 3, .null, 4, 0, 7221, 0), (80, .aload_n 0, 1, .null, 0, 0, 0, 0), (81, .iload 5, 2, .null, 0, 0, 0, 0), (83, .iload 4, 2, .null, 0, 0, 0, 0),
  (85, .invokevirtual 28, 3, .null, 0, 50, 10078, 0), (88, .iload_n 2, 1, .null, 0, 0, 0, 0), (89, .iastore, 1, .null, 0, 0, 0, 0), (90, .iconst 1, 1, .null, 0, 0, 0, 0),
  (91, .istore_n 3, 1, .null, 0, 0, 0, 0), (92, .iinc 5 1, 3, .null, 0, 0, 0, 0), (95, .goto (-75), 3, .null, 12, 0, 0, 0), (98, .iinc 4 1, 3, .null, 0, 0, 0, 0),
  (101, .goto (-96), 3, .null, 4, 0, 0, 0), (104, .iload_n 3, 1, .null, 0, 0, 0, 0), (105, .ireturn, 1, .null, 0, 0, 0, 0)]
def ar_56 : List ai_R := [(0, .iconst 0, 1, .null, 0, 0, 0, 0), (1, .istore 5, 2, .null, 0, 0, 0, 0), (3, .iload 5, 2, .null, 0, 0, 0, 0), (5, .aload_n 1, 1, .null, 0, 0, 0, 0),
  (6, .getfield 60, 3, .null, 2, 1, 7079, 0), (9, .if_icmp .ge 40, 3, .null, 25, 0, 0, 0), (12, .aload_n 0, 1, .null, 0, 0, 0, 0), (13, .getfield 11, 3, .null, 4, 0, 7221, 0),
  (16, .aload_n 0, 1, .null, 0, 0, 0, 0), (17, .aload_n 1, 1, .null, 0, 0, 0, 0), (18, .iload_n 2, 1, .null, 0, 0, 0, 0), (19, .iload 5, 2, .null, 0, 0, 0, 0),
  (21, .invokevirtual 63, 3, .null, 0, 27, 10094, 0), (24, .aload_n 1, 1, .null, 0, 0, 0, 0), (25, .iload_n 3, 1, .null, 0, 0, 0, 0), (26, .iload 5, 2, .null, 0, 0, 0, 0),
  (28, .invokevirtual 63, 3, .null, 0, 27, 10094, 0), (31, .invokevirtual 28, 3, .null, 0, 50, 10078, 0), (34, .iaload, 1, .null, 0, 0, 0, 0), (35, .iload 4, 2, .null, 0, 0, 0, 0),
  (37, .if_icmp .ne 6, 3, .null, 23, 0, 0, 0), (40, .iload 5, 2, .null, 0, 0, 0, 0), (42, .ireturn, 1, .null, 0, 0, 0, 0), (43, .iinc 5 1, 3, .null, 0, 0, 0, 0),
  (46, .goto (-43), 3, .null, 2, 0, 0, 0), (49, .iconst (-1), 1, .null, 0, 0, 0, 0), (50, .ireturn, 1, .null, 0, 0, 0, 0)]
def ar_57 : List ai_R := [(0, .iload_n 2, 1, .null, 0, 0, 0, 0), (1, .istore 5, 2, .null, 0, 0, 0, 0), (3, .iload_n 3, 1, .null, 0, 0, 0, 0), (4, .istore 6, 2, .null, 0, 0, 0, 0),
  (6, .aload_n 0, 1, .null, 0, 0, 0, 0), (7, .iload_n 2, 1, .null, 0, 0, 0, 0), (8, .iload_n 3, 1, .null, 0, 0, 0, 0), (9, .invokevirtual 66, 3, .null, 0, 51, 10112, 0),
  (12, .istore 7, 2, .null, 0, 0, 0, 0), (14, .iload 7, 2, .null, 0, 0, 0, 0), (16, .ifCond .le 58, 3, .null, 39, 0, 0, 0), (19, .aload_n 0, 1, .null, 0, 0, 0, 0),
  (20, .aload_n 1, 1, .null, 0, 0, 0, 0), (21, .iload 5, 2, .null, 0, 0, 0, 0), (23, .iload 6, 2, .null, 0, 0, 0, 0), (25, .iload 7, 2, .null, 0, 0, 0, 0),
  (27, .iconst 1, 1, .null, 0, 0, 0, 0), (28, .isub, 1, .null, 0, 0, 0, 0), (29, .invokevirtual 56, 3, .null, 0, 56, 10090, 0), (32, .istore 8, 2, .null, 0, 0, 0, 0),
  (34, .iload 8, 2, .null, 0, 0, 0, 0), (36, .iconst (-1), 1, .null, 0, 0, 0, 0), (37, .if_icmp .ne 4, 3, .null, 24, 0, 0, 0), (40, .return_, 1, .null, 0, 0, 0, 0),
  (41, .aload 4, 2, .null, 0, 0, 0, 0), (43, .iload 8, 2, .null, 0, 0, 0, 0), (45, .invokevirtual 69, 3, .null, 0, 89, 10117, 0), (48, .aload_n 1, 1, .null, 0, 0, 0, 0),
  (49, .iload 5, 2, .null, 0, 0, 0, 0), (51, .iload 8, 2, .null, 0, 0, 0, 0), (53, .invokevirtual 63, 3, .null, 0, 27, 10094, 0), (56, .istore 5, 2, .null, 0, 0, 0, 0),
  (58, .aload_n 1, 1, .null, 0, 0, 0, 0), (59, .iload 6, 2, .null, 0, 0, 0, 0), (61, .iload 8, 2, .null, 0, 0, 0, 0), (63, .invokevirtual 63, 3, .null, 0, 27, 10094, 0),
  (66, .istore 6, 2, .null, 0, 0, 0, 0), (68, .iinc 7 (-1), 3, .null, 0, 0, 0, 0), (71, .goto (-57), 3, .null, 9, 0, 0, 0), (74, .return_, 1, .null, 0, 0, 0, 0)]
def ar_58 : List ai_R := [(0, .iconst (-1), 1, .null, 0, 0, 0, 0), (1, .istore_n 3, 1, .null, 0, 0, 0, 0), (2, .iconst 0, 1, .null, 0, 0, 0, 0), (3, .istore 4, 2, .null, 0, 0, 0, 0),
  (5, .iload 4, 2, .null, 0, 0, 0, 0), (7, .iload_n 1, 1, .null, 0, 0, 0, 0), (8, .if_icmp .ge 96, 3, .null, 57, 0, 0, 0), (11, .iload 4, 2, .null, 0, 0, 0, 0),
  (13, .iconst 1, 1, .null, 0, 0, 0, 0), (14, .iadd, 1, .null, 0, 0, 0, 0), (15, .istore 5, 2, .null, 0, 0, 0, 0), (17, .iload 5, 2, .null, 0, 0, 0, 0),
  (19, .iload_n 1, 1, .null, 0, 0, 0, 0), (20, .if_icmp .ge 78, 3, .null, 55, 0, 0, 0), (23, .iload_n 2, 1, .null, 0, 0, 0, 0), (24, .iload 4, 2, .null, 0, 0, 0, 0),
  (26, .iushr, 1, .null, 0, 0, 0, 0), (27, .iload_n 2, 1, .null, 0, 0, 0, 0), (28, .iload 5, 2, .null, 0, 0, 0, 0), (30, .iushr, 1, .null, 0, 0, 0, 0),
  (31, .iand, 1, .null, 0, 0, 0, 0), (32, .iconst 1, 1, .null, 0, 0, 0, 0), (33, .iand, 1, .null, 0, 0, 0, 0), (34, .ifCond .eq 7, 3, .null, 26, 0, 0, 0),
  (37, .iconst 1, 1, .null, 0, 0, 0, 0), (38, .goto 4, 3, .null, 27, 0, 0, 0), (41, .iconst 0, 1, .null, 0, 0, 0, 0), (42, .istore 6, 2, .null, 0, 0, 0, 0),
  (44, .iload 6, 2, .null, 0, 0, 0, 0), (46, .ifCond .eq 46, 3, .null, 53, 0, 0, 0), (49, .aload_n 0, 1, .null, 0, 0, 0, 0), (50, .iload 4, 2, .null, 0, 0, 0, 0),
  (52, .iload 5, 2, .null, 0, 0, 0, 0), (54, .invokevirtual 66, 3, .null, 0, 51, 10112, 0), (57, .iconst (-1), 1, .null, 0, 0, 0, 0), (58, .if_icmp .eq 34, 3, .null, 53, 0, 0, 0),
  (61, .iload_n 3, 1, .null, 0, 0, 0, 0), (62, .iconst (-1), 1, .null, 0, 0, 0, 0), (63, .if_icmp .eq 20, 3, .null, 48, 0, 0, 0), (66, .aload_n 0, 1, .null, 0, 0, 0, 0),
  (67, .iload 4, 2, .null, 0, 0, 0, 0), (69, .iload 5, 2, .null, 0, 0, 0, 0), (71, .invokevirtual 66, 3, .null, 0, 51, 10112, 0), (74, .aload_n 0, 1, .null, 0, 0, 0, 0),
  (75, .getfield 11, 3, .null, 4, 0, 7221, 0), (78, .iload_n 3, 1, .null, 0, 0, 0, 0), (79, .iaload, 1, .null, 0, 0, 0, 0), (80, .if_icmp .ge 12, 3, .null, 53, 0, 0, 0),
  (83, .aload_n 0, 1, .null, 0, 0, 0, 0), (84, .iload 4, 2, .null, 0, 0, 0, 0), (86, .iload 5, 2, .null, 0, 0, 0, 0), (88, .invokevirtual 28, 3, .null, 0, 50, 10078, 0),
  (91, .istore_n 3, 1, .null, 0, 0, 0, 0), (92, .iinc 5 1, 3, .null, 0, 0, 0, 0), (95, .goto (-78), 3, .null, 11, 0, 0, 0), (98, .iinc 4 1, 3, .null, 0, 0, 0, 0),
  (101, .goto (-96), 3, .null, 4, 0, 0, 0), (104, .iload_n 3, 1, .null, 0, 0, 0, 0), (105, .ireturn, 1, .null, 0, 0, 0, 0)]
def ar_59 : List ai_R := [(0, .iconst 0, 1, .null, 0, 0, 0, 0), (1, .istore_n 2, 1, .null, 0, 0, 0, 0), (2, .iload_n 2, 1, .null, 0, 0, 0, 0), (3, .iload_n 1, 1, .null, 0, 0, 0, 0),
  (4, .if_icmp .ge 21, 3, .null, 15, 0, 0, 0), (7, .aload_n 0, 1, .null, 0, 0, 0, 0), (8, .iload_n 2, 1, .null, 0, 0, 0, 0), (9, .iload_n 1, 1, .null, 0, 0, 0, 0),
  (10, .invokevirtual 66, 3, .null, 0, 51, 10112, 0), (13, .iconst (-1), 1, .null, 0, 0, 0, 0), (14, .if_icmp .ne 5, 3, .null, 13, 0, 0, 0), (17, .iconst 0, 1, .null, 0, 0, 0, 0),
  (18, .ireturn, 1, .null, 0, 0, 0, 0), (19, .iinc 2 1, 3, .null, 0, 0, 0, 0), (22, .goto (-20), 3, .null, 2, 0, 0, 0), (25, .iconst 1, 1, .null, 0, 0, 0, 0),
  (26, .ireturn, 1, .null, 0, 0, 0, 0)]
def ar_60 : List ai_R := [(0, .aload_n 0, 1, .null, 0, 0, 0, 0), (1, .getfield 15, 3, .null, 4, 1, 7222, 0), (4, .iconst 0, 1, .null, 0, 0, 0, 0), (5, .invokestatic 32, 3, .null, 1, 292, 10077, 0),
  (8, .aload_n 0, 1, .null, 0, 0, 0, 0), (9, .getfield 15, 3, .null, 4, 1, 7222, 0), (12, .aload_n 1, 1, .null, 0, 0, 0, 0), (13, .getfield 75, 3, .null, 2, 3, 7088, 0),
  (16, .iconst 1, 1, .null, 0, 0, 0, 0), (17, .aload_n 1, 1, .null, 0, 0, 0, 0), (18, .getfield 75, 3, .null, 2, 3, 7088, 0), (21, .ishl, 1, .null, 0, 0, 0, 0),
  (22, .iastore, 1, .null, 0, 0, 0, 0), (23, .iconst 1, 1, .null, 0, 0, 0, 0), (24, .istore_n 3, 1, .null, 0, 0, 0, 0), (25, .iconst 0, 1, .null, 0, 0, 0, 0),
  (26, .istore 4, 2, .null, 0, 0, 0, 0), (28, .iload 4, 2, .null, 0, 0, 0, 0), (30, .sipush 196, 3, .null, 0, 0, 0, 0), (33, .if_icmp .gt 44, 3, .null, 42, 0, 0, 0),
  (36, .iload_n 3, 1, .null, 0, 0, 0, 0), (37, .ifCond .eq 40, 3, .null, 42, 0, 0, 0), (40, .iconst 0, 1, .null, 0, 0, 0, 0), (41, .istore_n 3, 1, .null, 0, 0, 0, 0),
  (42, .iconst 0, 1, .null, 0, 0, 0, 0), (43, .istore 5, 2, .null, 0, 0, 0, 0), (45, .iload 5, 2, .null, 0, 0, 0, 0), (47, .aload_n 1, 1, .null, 0, 0, 0, 0),
  (48, .getfield 38, 3, .null, 2, 0, 7071, 0), (51, .if_icmp .ge 20, 3, .null, 40, 0, 0, 0), (54, .iload_n 3, 1, .null, 0, 0, 0, 0), (55, .aload_n 0, 1, .null, 0, 0, 0, 0),
  (56, .aload_n 1, 1, .null, 0, 0, 0, 0), (57, .iload 5, 2, .null, 0, 0, 0, 0), (59, .iload_n 2, 1, .null, 0, 0, 0, 0), (60, .invokevirtual 78, 3, .null, 0, 61, 10144, 0),
  (63, .ior, 1, .null, 0, 0, 0, 0), (64, .istore_n 3, 1, .null, 0, 0, 0, 0), (65, .iinc 5 1, 3, .null, 0, 0, 0, 0), (68, .goto (-23), 3, .null, 26, 0, 0, 0),
  (71, .iinc 4 1, 3, .null, 0, 0, 0, 0), (74, .goto (-46), 3, .null, 17, 0, 0, 0), (77, .iconst 0, 1, .null, 0, 0, 0, 0), (78, .istore 4, 2, .null, 0, 0, 0, 0),
  (80, .iload 4, 2, .null, 0, 0, 0, 0), (82, .aload_n 1, 1, .null, 0, 0, 0, 0), (83, .getfield 38, 3, .null, 2, 0, 7071, 0), (86, .if_icmp .ge 29, 3, .null, 63, 0, 0, 0),
  (89, .aload_n 0, 1, .null, 0, 0, 0, 0), (90, .getfield 15, 3, .null, 4, 1, 7222, 0), (93, .iload 4, 2, .null, 0, 0, 0, 0), (95, .iaload, 1, .null, 0, 0, 0, 0),
  (96, .iconst 1, 1, .null, 0, 0, 0, 0), (97, .aload_n 1, 1, .null, 0, 0, 0, 0), (98, .getfield 38, 3, .null, 2, 0, 7071, 0), (101, .ishl, 1, .null, 0, 0, 0, 0),
  (102, .iconst 1, 1, .null, 0, 0, 0, 0), (103, .isub, 1, .null, 0, 0, 0, 0), (104, .if_icmp .eq 5, 3, .null, 61, 0, 0, 0), (107, .iconst 0, 1, .null, 0, 0, 0, 0),
  (108, .ireturn, 1, .null, 0, 0, 0, 0), (109, .iinc 4 1, 3, .null, 0, 0, 0, 0), (112, .goto (-32), 3, .null, 44, 0, 0, 0), (115, .iconst 1, 1, .null, 0, 0, 0, 0),
  (116, .ireturn, 1, .null, 0, 0, 0, 0)]
def ar_61 : List ai_R := [(0, .iconst 0, 1, .null, 0, 0, 0, 0), (1, .istore 4, 2, .null, 0, 0, 0, 0), (3, .iconst 2, 1, .null, 0, 0, 0, 0), (4, .iload_n 2, 1, .null, 0, 0, 0, 0),
  (5, .ishl, 1, .null, 0, 0, 0, 0), (6, .iconst 1, 1, .null, 0, 0, 0, 0), (7, .isub, 1, .null, 0, 0, 0, 0), (8, .istore 5, 2, .null, 0, 0, 0, 0),
  (10, .iconst 0, 1, .null, 0, 0, 0, 0), (11, .istore 6, 2, .null, 0, 0, 0, 0), (13, .iload 6, 2, .null, 0, 0, 0, 0), (15, .aload_n 1, 1, .null, 0, 0, 0, 0),
  (16, .getfield 60, 3, .null, 2, 1, 7079, 0), (19, .if_icmp .ge 138, 3, .null, 92, 0, 0, 0), (22, .aload_n 0, 1, .null, 0, 0, 0, 0), (23, .getfield 15, 3, .null, 4, 1, 7222, 0),
  (26, .iload_n 2, 1, .null, 0, 0, 0, 0), (27, .iaload, 1, .null, 0, 0, 0, 0), (28, .iload 5, 2, .null, 0, 0, 0, 0), (30, .iand, 1, .null, 0, 0, 0, 0),
  (31, .iload 5, 2, .null, 0, 0, 0, 0), (33, .if_icmp .eq 124, 3, .null, 92, 0, 0, 0), (36, .iload 6, 2, .null, 0, 0, 0, 0), (38, .iload_n 3, 1, .null, 0, 0, 0, 0),
  (39, .if_icmp .ne 7, 3, .null, 27, 0, 0, 0), (42, .iconst 0, 1, .null, 0, 0, 0, 0), (43, .goto 15, 3, .null, 34, 0, 0, 0), (46, .aload_n 0, 1, .null, 0, 0, 0, 0),
  (47, .getfield 15, 3, .null, 4, 1, 7222, 0), (50, .aload_n 1, 1, .null, 0, 0, 0, 0), (51, .iload_n 2, 1, .null, 0, 0, 0, 0), (52, .iload 6, 2, .null, 0, 0, 0, 0),
  (54, .invokevirtual 63, 3, .null, 0, 27, 10094, 0), (57, .iaload, 1, .null, 0, 0, 0, 0), (58, .istore 7, 2, .null, 0, 0, 0, 0), (60, .iconst 0, 1, .null, 0, 0, 0, 0),
  (61, .istore 8, 2, .null, 0, 0, 0, 0), (63, .iload 8, 2, .null, 0, 0, 0, 0), (65, .iload_n 2, 1, .null, 0, 0, 0, 0), (66, .if_icmp .gt 85, 3, .null, 90, 0, 0, 0),
  (69, .iload 7, 2, .null, 0, 0, 0, 0), (71, .ifCond .eq 80, 3, .null, 90, 0, 0, 0), (74, .aload_n 0, 1, .null, 0, 0, 0, 0), (75, .getfield 15, 3, .null, 4, 1, 7222, 0),
  (78, .iload_n 2, 1, .null, 0, 0, 0, 0), (79, .iaload, 1, .null, 0, 0, 0, 0), (80, .iload 8, 2, .null, 0, 0, 0, 0), (82, .iushr, 1, .null, 0, 0, 0, 0),
  (83, .iconst 1, 1, .null, 0, 0, 0, 0), (84, .iand, 1, .null, 0, 0, 0, 0), (85, .ifCond .eq 7, 3, .null, 53, 0, 0, 0), (88, .iconst 1, 1, .null, 0, 0, 0, 0),
  (89, .goto 4, 3, .null, 54, 0, 0, 0), (92, .iconst 0, 1, .null, 0, 0, 0, 0), (93, .istore 9, 2, .null, 0, 0, 0, 0), (95, .iload 9, 2, .null, 0, 0, 0, 0),
  (97, .ifCond .ne 48, 3, .null, 88, 0, 0, 0), (100, .iload 7, 2, .null, 0, 0, 0, 0), (102, .aload_n 1, 1, .null, 0, 0, 0, 0), (103, .iload 8, 2, .null, 0, 0, 0, 0),
  (105, .iload 6, 2, .null, 0, 0, 0, 0), (107, .invokevirtual 63, 3, .null, 0, 27, 10094, 0), (110, .iushr, 1, .null, 0, 0, 0, 0), (111, .iconst 1, 1, .null, 0, 0, 0, 0),
  (112, .iand, 1, .null, 0, 0, 0, 0), (113, .ifCond .eq 32, 3, .null, 88, 0, 0, 0), (116, .aload_n 0, 1, .null, 0, 0, 0, 0), (117, .getfield 15, 3, .null, 4, 1, 7222, 0),
  (120, .iload_n 2, 1, .null, 0, 0, 0, 0), (121, .dup2, 1, .null, 0, 0, 0, 0), (122, .iaload, 1, .null, 0, 0, 0, 0), (123, .iconst 1, 1, .null, 0, 0, 0, 0),
  (124, .iload 8, 2, .null, 0, 0, 0, 0), (126, .ishl, 1, .null, 0, 0, 0, 0), (127, .ior, 1, .null, 0, 0, 0, 0), (128, .iastore, 1, .null, 0, 0, 0, 0),
  (129, .aload_n 0, 1, .null, 0, 0, 0, 0), (130, .getfield 15, 3, .null, 4, 1, 7222, 0), (133, .iload 8, 2, .null, 0, 0, 0, 0), (135, .dup2, 1, .null, 0, 0, 0, 0),
  (136, .iaload, 1, .null, 0, 0, 0, 0), (137, .iconst 1, 1, .null, 0, 0, 0, 0), (138, .iload_n 2, 1, .null, 0, 0, 0, 0), (139, .ishl, 1, .null, 0, 0, 0, 0),
  (140, .ior, 1, .null, 0, 0, 0, 0), (141, .iastore, 1, .null, 0, 0, 0, 0), (142, .iconst 1, 1, .null, 0, 0, 0, 0), (143, .istore 4, 2, .null, 0, 0, 0, 0),
  (145, .iinc 8 1, 3, .null, 0, 0, 0, 0), (148, .goto (-85), 3, .null, 37, 0, 0, 0), (151, .iinc 6 1, 3, .null, 0, 0, 0, 0), (154, .goto (-141), 3, .null, 10, 0, 0, 0),
  (157, .iload 4, 2, .null, 0, 0, 0, 0), (159, .ireturn, 1, .null, 0, 0, 0, 0)]
def ar_62 : List ai_R := [(0, .aload_n 1, 1, .null, 0, 0, 0, 0), (1, .iload_n 2, 1, .null, 0, 0, 0, 0), (2, .iload_n 3, 1, .null, 0, 0, 0, 0), (3, .invokevirtual 63, 3, .null, 0, 27, 10094, 0),
  (6, .istore 4, 2, .null, 0, 0, 0, 0), (8, .iconst 0, 1, .null, 0, 0, 0, 0), (9, .istore 5, 2, .null, 0, 0, 0, 0), (11, .iload 5, 2, .null, 0, 0, 0, 0),
  (13, .aload_n 1, 1, .null, 0, 0, 0, 0), (14, .getfield 38, 3, .null, 2, 0, 7071, 0), (17, .if_icmp .ge 36, 3, .null, 28, 0, 0, 0), (20, .iload 5, 2, .null, 0, 0, 0, 0),
  (22, .iload 4, 2, .null, 0, 0, 0, 0), (24, .if_icmp .eq 23, 3, .null, 26, 0, 0, 0), (27, .aload_n 1, 1, .null, 0, 0, 0, 0), (28, .iload_n 2, 1, .null, 0, 0, 0, 0),
  (29, .iload_n 3, 1, .null, 0, 0, 0, 0), (30, .iload 5, 2, .null, 0, 0, 0, 0), (32, .invokevirtual 82, 3, .null, 0, 32, 10156, 0), (35, .aload_n 0, 1, .null, 0, 0, 0, 0),
  (36, .aload_n 1, 1, .null, 0, 0, 0, 0), (37, .iconst (-1), 1, .null, 0, 0, 0, 0), (38, .invokevirtual 86, 3, .null, 0, 60, 10157, 0), (41, .ifCond .eq 6, 3, .null, 26, 0, 0, 0),
  (44, .iload 5, 2, .null, 0, 0, 0, 0), (46, .ireturn, 1, .null, 0, 0, 0, 0), (47, .iinc 5 1, 3, .null, 0, 0, 0, 0), (50, .goto (-39), 3, .null, 7, 0, 0, 0),
  (53, .aload_n 1, 1, .null, 0, 0, 0, 0), (54, .iload_n 2, 1, .null, 0, 0, 0, 0), (55, .iload_n 3, 1, .null, 0, 0, 0, 0), (56, .iload 4, 2, .null, 0, 0, 0, 0),
  (58, .invokevirtual 82, 3, .null, 0, 32, 10156, 0), (61, .iconst (-1), 1, .null, 0, 0, 0, 0), (62, .ireturn, 1, .null, 0, 0, 0, 0)]
def ar_63 : List ai_R := [(0, .aload_n 0, 1, .null, 0, 0, 0, 0), (1, .getfield 18, 3, .null, 4, 2, 7223, 0), (4, .iconst 0, 1, .null, 0, 0, 0, 0), (5, .invokestatic 32, 3, .null, 1, 292, 10077, 0),
  (8, .aload_n 0, 1, .null, 0, 0, 0, 0), (9, .getfield 18, 3, .null, 4, 2, 7223, 0), (12, .aload_n 0, 1, .null, 0, 0, 0, 0), (13, .iload_n 2, 1, .null, 0, 0, 0, 0),
  (14, .iload_n 3, 1, .null, 0, 0, 0, 0), (15, .invokevirtual 28, 3, .null, 0, 50, 10078, 0), (18, .iconst 1, 1, .null, 0, 0, 0, 0), (19, .iastore, 1, .null, 0, 0, 0, 0),
  (20, .iconst 0, 1, .null, 0, 0, 0, 0), (21, .istore 5, 2, .null, 0, 0, 0, 0), (23, .iload 5, 2, .null, 0, 0, 0, 0), (25, .iload 4, 2, .null, 0, 0, 0, 0),
  (27, .if_icmp .ge 14, 3, .null, 22, 0, 0, 0), (30, .aload_n 0, 1, .null, 0, 0, 0, 0), (31, .aload_n 1, 1, .null, 0, 0, 0, 0), (32, .invokevirtual 89, 3, .null, 0, 64, 11094, 0),
  (35, .iinc 5 1, 3, .null, 0, 0, 0, 0), (38, .goto (-15), 3, .null, 14, 0, 0, 0), (41, .iconst 0, 1, .null, 0, 0, 0, 0), (42, .istore 5, 2, .null, 0, 0, 0, 0),
  (44, .iconst 0, 1, .null, 0, 0, 0, 0), (45, .istore 6, 2, .null, 0, 0, 0, 0), (47, .iload 6, 2, .null, 0, 0, 0, 0), (49, .sipush 196, 3, .null, 0, 0, 0, 0),
  (52, .if_icmp .ge 24, 3, .null, 40, 0, 0, 0), (55, .iload 5, 2, .null, 0, 0, 0, 0), (57, .aload_n 0, 1, .null, 0, 0, 0, 0), (58, .getfield 18, 3, .null, 4, 2, 7223, 0),
  (61, .iload 6, 2, .null, 0, 0, 0, 0), (63, .iaload, 1, .null, 0, 0, 0, 0), (64, .iadd, 1, .null, 0, 0, 0, 0), (65, .ldc 92, 2, .int (1000000007), 0, 0, 11098, 0),
  (67, .irem, 1, .null, 0, 0, 0, 0), (68, .istore 5, 2, .null, 0, 0, 0, 0), (70, .iinc 6 1, 3, .null, 0, 0, 0, 0), (73, .goto (-26), 3, .null, 26, 0, 0, 0),
  (76, .iload 5, 2, .null, 0, 0, 0, 0), (78, .ireturn, 1, .null, 0, 0, 0, 0)]
def ar_64 : List ai_R := [(0, .aload_n 0, 1, .null, 0, 0, 0, 0), (1, .getfield 21, 3, .null, 4, 3, 7224, 0), (4, .iconst 0, 1, .null, 0, 0, 0, 0), (5, .invokestatic 32, 3, .null, 1, 292, 10077, 0),
  (8, .iconst 0, 1, .null, 0, 0, 0, 0), (9, .istore_n 2, 1, .null, 0, 0, 0, 0), (10, .iload_n 2, 1, .null, 0, 0, 0, 0), (11, .aload_n 1, 1, .null, 0, 0, 0, 0),
  (12, .getfield 38, 3, .null, 2, 0, 7071, 0), (15, .if_icmp .ge 118, 3, .null, 69, 0, 0, 0), (18, .iconst 0, 1, .null, 0, 0, 0, 0), (19, .istore_n 3, 1, .null, 0, 0, 0, 0),
  (20, .iload_n 3, 1, .null, 0, 0, 0, 0), (21, .aload_n 1, 1, .null, 0, 0, 0, 0), (22, .getfield 38, 3, .null, 2, 0, 7071, 0), (25, .if_icmp .ge 102, 3, .null, 67, 0, 0, 0),
  (28, .aload_n 0, 1, .null, 0, 0, 0, 0), (29, .getfield 18, 3, .null, 4, 2, 7223, 0), (32, .aload_n 0, 1, .null, 0, 0, 0, 0), (33, .iload_n 2, 1, .null, 0, 0, 0, 0),
  (34, .iload_n 3, 1, .null, 0, 0, 0, 0), (35, .invokevirtual 28, 3, .null, 0, 50, 10078, 0), (38, .iaload, 1, .null, 0, 0, 0, 0), (39, .istore 4, 2, .null, 0, 0, 0, 0),
  (41, .iconst 0, 1, .null, 0, 0, 0, 0), (42, .istore 5, 2, .null, 0, 0, 0, 0), (44, .iload 5, 2, .null, 0, 0, 0, 0), (46, .aload_n 1, 1, .null, 0, 0, 0, 0),
  (47, .getfield 60, 3, .null, 2, 1, 7079, 0), (50, .if_icmp .ge 71, 3, .null, 65, 0, 0, 0), (53, .iload 4, 2, .null, 0, 0, 0, 0), (55, .ifCond .eq 66, 3, .null, 65, 0, 0, 0),
  (58, .aload_n 1, 1, .null, 0, 0, 0, 0), (59, .iload_n 2, 1, .null, 0, 0, 0, 0), (60, .iload 5, 2, .null, 0, 0, 0, 0), (62, .invokevirtual 63, 3, .null, 0, 27, 10094, 0),
  (65, .istore 6, 2, .null, 0, 0, 0, 0), (67, .aload_n 1, 1, .null, 0, 0, 0, 0), (68, .iload_n 3, 1, .null, 0, 0, 0, 0), (69, .iload 5, 2, .null, 0, 0, 0, 0),
  (71, .invokevirtual 63, 3, .null, 0, 27, 10094, 0), (74, .istore 7, 2, .null, 0, 0, 0, 0), (76, .iload 6, 2, .null, 0, 0, 0, 0), (78, .iload 7, 2, .null, 0, 0, 0, 0),
  (80, .if_icmp .eq 35, 3, .null, 63, 0, 0, 0), (83, .aload_n 0, 1, .null, 0, 0, 0, 0), (84, .getfield 21, 3, .null, 4, 3, 7224, 0), (87, .aload_n 0, 1, .null, 0, 0, 0, 0),
  (88, .iload 6, 2, .null, 0, 0, 0, 0), (90, .iload 7, 2, .null, 0, 0, 0, 0), (92, .invokevirtual 28, 3, .null, 0, 50, 10078, 0), (95, .aload_n 0, 1, .null, 0, 0, 0, 0),
  (96, .getfield 21, 3, .null, 4, 3, 7224, 0), (99, .aload_n 0, 1, .null, 0, 0, 0, 0), (100, .iload 6, 2, .null, 0, 0, 0, 0), (102, .iload 7, 2, .null, 0, 0, 0, 0),
  (104, .invokevirtual 28, 3, .null, 0, 50, 10078, 0), (107, .iaload, 1, .null, 0, 0, 0, 0), (108, .iload 4, 2, .null, 0, 0, 0, 0), (110, .iadd, 1, .null, 0, 0, 0, 0),
  (111, .ldc 92, 2, .int (1000000007), 0, 0, 11098, 0), (113, .irem, 1, .null, 0, 0, 0, 0), (114, .iastore, 1, .null, 0, 0, 0, 0), (115, .iinc 5 1, 3, .null, 0, 0, 0, 0),
  (118, .goto (-74), 3, .null, 26, 0, 0, 0), (121, .iinc 3 1, 3, .null, 0, 0, 0, 0), (124, .goto (-104), 3, .null, 12, 0, 0, 0), (127, .iinc 2 1, 3, .null, 0, 0, 0, 0),
  (130, .goto (-120), 3, .null, 6, 0, 0, 0), (133, .aload_n 0, 1, .null, 0, 0, 0, 0), (134, .getfield 21, 3, .null, 4, 3, 7224, 0), (137, .iconst 0, 1, .null, 0, 0, 0, 0),
  (138, .aload_n 0, 1, .null, 0, 0, 0, 0), (139, .getfield 18, 3, .null, 4, 2, 7223, 0), (142, .iconst 0, 1, .null, 0, 0, 0, 0), (143, .sipush 196, 3, .null, 0, 0, 0, 0),
  (146, .invokestatic 93, 3, .null, 5, 0, 11099, 0), (149, .return_, 1, .null, 0, 0, 0, 0)]
def ar_65 : List ai_R := [(0, .aload_n 0, 1, .null, 0, 0, 0, 0), (1, .getfield 24, 3, .null, 4, 4, 7225, 0), (4, .lconst 1, 1, .null, 0, 0, 0, 0), (5, .invokestatic 99, 3, .null, 1, 291, 11108, 0),
  (8, .iconst 1, 1, .null, 0, 0, 0, 0), (9, .istore 6, 2, .null, 0, 0, 0, 0), (11, .iload 6, 2, .null, 0, 0, 0, 0), (13, .iload 4, 2, .null, 0, 0, 0, 0),
  (15, .if_icmp .gt 16, 3, .null, 15, 0, 0, 0), (18, .aload_n 0, 1, .null, 0, 0, 0, 0), (19, .aload_n 1, 1, .null, 0, 0, 0, 0), (20, .iload 6, 2, .null, 0, 0, 0, 0),
  (22, .invokevirtual 102, 3, .null, 0, 66, 11111, 0), (25, .iinc 6 1, 3, .null, 0, 0, 0, 0), (28, .goto (-17), 3, .null, 6, 0, 0, 0), (31, .aload_n 0, 1, .null, 0, 0, 0, 0),
  (32, .getfield 24, 3, .null, 4, 4, 7225, 0), (35, .aload_n 0, 1, .null, 0, 0, 0, 0), (36, .iload_n 2, 1, .null, 0, 0, 0, 0), (37, .iload_n 3, 1, .null, 0, 0, 0, 0),
  (38, .invokevirtual 28, 3, .null, 0, 50, 10078, 0), (41, .laload, 1, .null, 0, 0, 0, 0), (42, .iload 4, 2, .null, 0, 0, 0, 0), (44, .lushr, 1, .null, 0, 0, 0, 0),
  (45, .lconst 1, 1, .null, 0, 0, 0, 0), (46, .land, 1, .null, 0, 0, 0, 0), (47, .lconst 0, 1, .null, 0, 0, 0, 0), (48, .lcmp, 1, .null, 0, 0, 0, 0),
  (49, .ifCond .ne 5, 3, .null, 31, 0, 0, 0), (52, .iconst (-1), 1, .null, 0, 0, 0, 0), (53, .ireturn, 1, .null, 0, 0, 0, 0), (54, .aload 5, 2, .null, 0, 0, 0, 0),
  (56, .invokevirtual 106, 3, .null, 0, 88, 11119, 0), (59, .iload_n 2, 1, .null, 0, 0, 0, 0), (60, .istore 6, 2, .null, 0, 0, 0, 0), (62, .iload_n 3, 1, .null, 0, 0, 0, 0),
  (63, .istore 7, 2, .null, 0, 0, 0, 0), (65, .iload 4, 2, .null, 0, 0, 0, 0), (67, .istore 8, 2, .null, 0, 0, 0, 0), (69, .iload 8, 2, .null, 0, 0, 0, 0),
  (71, .ifCond .le 59, 3, .null, 70, 0, 0, 0), (74, .aload_n 0, 1, .null, 0, 0, 0, 0), (75, .aload_n 1, 1, .null, 0, 0, 0, 0), (76, .iload 6, 2, .null, 0, 0, 0, 0),
  (78, .iload 7, 2, .null, 0, 0, 0, 0), (80, .iload 8, 2, .null, 0, 0, 0, 0), (82, .iconst 1, 1, .null, 0, 0, 0, 0), (83, .isub, 1, .null, 0, 0, 0, 0),
  (84, .invokevirtual 109, 3, .null, 0, 67, 11115, 0), (87, .istore 9, 2, .null, 0, 0, 0, 0), (89, .iload 9, 2, .null, 0, 0, 0, 0), (91, .iconst (-1), 1, .null, 0, 0, 0, 0),
  (92, .if_icmp .ne 5, 3, .null, 55, 0, 0, 0), (95, .iconst (-1), 1, .null, 0, 0, 0, 0), (96, .ireturn, 1, .null, 0, 0, 0, 0), (97, .aload 5, 2, .null, 0, 0, 0, 0),
  (99, .iload 9, 2, .null, 0, 0, 0, 0), (101, .invokevirtual 69, 3, .null, 0, 89, 10117, 0), (104, .aload_n 1, 1, .null, 0, 0, 0, 0), (105, .iload 6, 2, .null, 0, 0, 0, 0),
  (107, .iload 9, 2, .null, 0, 0, 0, 0), (109, .invokevirtual 63, 3, .null, 0, 27, 10094, 0), (112, .istore 6, 2, .null, 0, 0, 0, 0), (114, .aload_n 1, 1, .null, 0, 0, 0, 0),
  (115, .iload 7, 2, .null, 0, 0, 0, 0), (117, .iload 9, 2, .null, 0, 0, 0, 0), (119, .invokevirtual 63, 3, .null, 0, 27, 10094, 0), (122, .istore 7, 2, .null, 0, 0, 0, 0),
  (124, .iinc 8 (-1), 3, .null, 0, 0, 0, 0), (127, .goto (-58), 3, .null, 39, 0, 0, 0), (130, .iload 4, 2, .null, 0, 0, 0, 0), (132, .ireturn, 1, .null, 0, 0, 0, 0)]
def ar_66 : List ai_R := [(0, .iconst 0, 1, .null, 0, 0, 0, 0), (1, .istore_n 3, 1, .null, 0, 0, 0, 0), (2, .iload_n 3, 1, .null, 0, 0, 0, 0), (3, .aload_n 1, 1, .null, 0, 0, 0, 0),
  (4, .getfield 38, 3, .null, 2, 0, 7071, 0), (7, .if_icmp .ge 60, 3, .null, 39, 0, 0, 0), (10, .iconst 0, 1, .null, 0, 0, 0, 0), (11, .istore 4, 2, .null, 0, 0, 0, 0),
  (13, .iload 4, 2, .null, 0, 0, 0, 0), (15, .aload_n 1, 1, .null, 0, 0, 0, 0), (16, .getfield 38, 3, .null, 2, 0, 7071, 0), (19, .if_icmp .ge 42, 3, .null, 37, 0, 0, 0),
  (22, .aload_n 0, 1, .null, 0, 0, 0, 0), (23, .aload_n 1, 1, .null, 0, 0, 0, 0), (24, .iload_n 3, 1, .null, 0, 0, 0, 0), (25, .iload 4, 2, .null, 0, 0, 0, 0),
  (27, .iload_n 2, 1, .null, 0, 0, 0, 0), (28, .iconst 1, 1, .null, 0, 0, 0, 0), (29, .isub, 1, .null, 0, 0, 0, 0), (30, .invokevirtual 109, 3, .null, 0, 67, 11115, 0),
  (33, .iconst (-1), 1, .null, 0, 0, 0, 0), (34, .if_icmp .eq 21, 3, .null, 35, 0, 0, 0), (37, .aload_n 0, 1, .null, 0, 0, 0, 0), (38, .getfield 24, 3, .null, 4, 4, 7225, 0),
  (41, .aload_n 0, 1, .null, 0, 0, 0, 0), (42, .iload_n 3, 1, .null, 0, 0, 0, 0), (43, .iload 4, 2, .null, 0, 0, 0, 0), (45, .invokevirtual 28, 3, .null, 0, 50, 10078, 0),
  (48, .dup2, 1, .null, 0, 0, 0, 0), (49, .laload, 1, .null, 0, 0, 0, 0), (50, .lconst 1, 1, .null, 0, 0, 0, 0), (51, .iload_n 2, 1, .null, 0, 0, 0, 0),
  (52, .lshl, 1, .null, 0, 0, 0, 0), (53, .lor, 1, .null, 0, 0, 0, 0), (54, .lastore, 1, .null, 0, 0, 0, 0), (55, .iinc 4 1, 3, .null, 0, 0, 0, 0),
  (58, .goto (-45), 3, .null, 8, 0, 0, 0), (61, .iinc 3 1, 3, .null, 0, 0, 0, 0), (64, .goto (-62), 3, .null, 2, 0, 0, 0), (67, .return_, 1, .null, 0, 0, 0, 0)]
def ar_67 : List ai_R := [(0, .iconst 0, 1, .null, 0, 0, 0, 0), (1, .istore 5, 2, .null, 0, 0, 0, 0), (3, .iload 5, 2, .null, 0, 0, 0, 0), (5, .aload_n 1, 1, .null, 0, 0, 0, 0),
  (6, .getfield 60, 3, .null, 2, 1, 7079, 0), (9, .if_icmp .ge 60, 3, .null, 37, 0, 0, 0), (12, .aload_n 1, 1, .null, 0, 0, 0, 0), (13, .iload_n 2, 1, .null, 0, 0, 0, 0),
  (14, .iload 5, 2, .null, 0, 0, 0, 0), (16, .invokevirtual 63, 3, .null, 0, 27, 10094, 0), (19, .istore 6, 2, .null, 0, 0, 0, 0), (21, .aload_n 1, 1, .null, 0, 0, 0, 0),
  (22, .iload_n 3, 1, .null, 0, 0, 0, 0), (23, .iload 5, 2, .null, 0, 0, 0, 0), (25, .invokevirtual 63, 3, .null, 0, 27, 10094, 0), (28, .istore 7, 2, .null, 0, 0, 0, 0),
  (30, .iload 6, 2, .null, 0, 0, 0, 0), (32, .iload 7, 2, .null, 0, 0, 0, 0), (34, .if_icmp .eq 29, 3, .null, 35, 0, 0, 0), (37, .aload_n 0, 1, .null, 0, 0, 0, 0),
  (38, .getfield 24, 3, .null, 4, 4, 7225, 0), (41, .aload_n 0, 1, .null, 0, 0, 0, 0), (42, .iload 6, 2, .null, 0, 0, 0, 0), (44, .iload 7, 2, .null, 0, 0, 0, 0),
  (46, .invokevirtual 28, 3, .null, 0, 50, 10078, 0), (49, .laload, 1, .null, 0, 0, 0, 0), (50, .iload 4, 2, .null, 0, 0, 0, 0), (52, .lushr, 1, .null, 0, 0, 0, 0),
  (53, .lconst 1, 1, .null, 0, 0, 0, 0), (54, .land, 1, .null, 0, 0, 0, 0), (55, .lconst 0, 1, .null, 0, 0, 0, 0), (56, .lcmp, 1, .null, 0, 0, 0, 0),
  (57, .ifCond .eq 6, 3, .null, 35, 0, 0, 0), (60, .iload 5, 2, .null, 0, 0, 0, 0), (62, .ireturn, 1, .null, 0, 0, 0, 0), (63, .iinc 5 1, 3, .null, 0, 0, 0, 0),
  (66, .goto (-63), 3, .null, 2, 0, 0, 0), (69, .iconst (-1), 1, .null, 0, 0, 0, 0), (70, .ireturn, 1, .null, 0, 0, 0, 0)]
def ar_68 : List ai_R := [(0, .aload_n 0, 1, .null, 0, 0, 0, 0), (1, .invokespecial 3, 3, .null, 4, 0, 7034, 0), (4, .aload_n 0, 1, .null, 0, 0, 0, 0), (5, .iconst (-1), 1, .null, 0, 0, 0, 0),
  (6, .putfield 9, 3, .null, 5, 1, 7037, 0), (9, .return_, 1, .null, 0, 0, 0, 0)]
def ar_69 : List ai_R := [(0, .aload_n 0, 1, .null, 0, 0, 0, 0), (1, .iconst 0, 1, .null, 0, 0, 0, 0), (2, .putfield 15, 3, .null, 5, 0, 7035, 0), (5, .aload_n 0, 1, .null, 0, 0, 0, 0),
  (6, .iconst (-1), 1, .null, 0, 0, 0, 0), (7, .putfield 9, 3, .null, 5, 1, 7037, 0), (10, .aload_n 0, 1, .null, 0, 0, 0, 0), (11, .aload_n 1, 1, .null, 0, 0, 0, 0),
  (12, .putfield 18, 3, .null, 5, 2, 7039, 0), (15, .aload_n 0, 1, .null, 0, 0, 0, 0), (16, .iconst 0, 1, .null, 0, 0, 0, 0), (17, .iload_n 2, 1, .null, 0, 0, 0, 0),
  (18, .aload_n 1, 1, .null, 0, 0, 0, 0), (19, .arraylength, 1, .null, 0, 0, 0, 0), (20, .invokestatic 22, 3, .null, 9, 0, 8142, 0), (23, .invokestatic 28, 3, .null, 8, 0, 8145, 0),
  (26, .putfield 31, 3, .null, 5, 3, 7040, 0), (29, .aload_n 0, 1, .null, 0, 0, 0, 0), (30, .iconst 0, 1, .null, 0, 0, 0, 0), (31, .putfield 34, 3, .null, 5, 6, 7043, 0),
  (34, .aload_n 3, 1, .null, 0, 0, 0, 0), (35, .invokevirtual 37, 3, .null, 0, 21, 8148, 0), (38, .aload_n 0, 1, .null, 0, 0, 0, 0), (39, .invokevirtual 42, 3, .null, 0, 71, 8159, 0),
  (42, .iconst 0, 1, .null, 0, 0, 0, 0), (43, .istore 4, 2, .null, 0, 0, 0, 0), (45, .iload 4, 2, .null, 0, 0, 0, 0), (47, .aload_n 0, 1, .null, 0, 0, 0, 0),
  (48, .getfield 31, 3, .null, 5, 3, 7040, 0), (51, .if_icmp .gt 32, 3, .null, 43, 0, 0, 0), (54, .aload_n 0, 1, .null, 0, 0, 0, 0), (55, .getfield 15, 3, .null, 5, 0, 7035, 0),
  (58, .ifCond .ne 25, 3, .null, 43, 0, 0, 0), (61, .aload_n 0, 1, .null, 0, 0, 0, 0), (62, .getfield 45, 3, .null, 5, 4, 7041, 0), (65, .ifCond .eq 18, 3, .null, 43, 0, 0, 0),
  (68, .aload_n 0, 1, .null, 0, 0, 0, 0), (69, .aload_n 3, 1, .null, 0, 0, 0, 0), (70, .invokevirtual 48, 3, .null, 0, 75, 8171, 0), (73, .aload_n 0, 1, .null, 0, 0, 0, 0),
  (74, .invokevirtual 42, 3, .null, 0, 71, 8159, 0), (77, .iinc 4 1, 3, .null, 0, 0, 0, 0), (80, .goto (-35), 3, .null, 26, 0, 0, 0), (83, .aload_n 0, 1, .null, 0, 0, 0, 0),
  (84, .getfield 15, 3, .null, 5, 0, 7035, 0), (87, .ifCond .ne 26, 3, .null, 57, 0, 0, 0), (90, .aload_n 3, 1, .null, 0, 0, 0, 0), (91, .getfield 52, 3, .null, 2, 0, 7068, 0),
  (94, .ifCond .le 19, 3, .null, 57, 0, 0, 0), (97, .aload_n 3, 1, .null, 0, 0, 0, 0), (98, .getfield 55, 3, .null, 2, 1, 7076, 0), (101, .ifCond .ne 12, 3, .null, 57, 0, 0, 0),
  (104, .aload_n 0, 1, .null, 0, 0, 0, 0), (105, .iconst 2, 1, .null, 0, 0, 0, 0), (106, .aload_n 0, 1, .null, 0, 0, 0, 0), (107, .getfield 31, 3, .null, 5, 3, 7040, 0),
  (110, .invokevirtual 58, 3, .null, 0, 70, 8179, 0), (113, .aload_n 0, 1, .null, 0, 0, 0, 0), (114, .getfield 15, 3, .null, 5, 0, 7035, 0), (117, .ireturn, 1, .null, 0, 0, 0, 0)]
def ar_70 : List ai_R := [(0, .aload_n 0, 1, .null, 0, 0, 0, 0), (1, .getfield 15, 3, .null, 5, 0, 7035, 0), (4, .ifCond .ne 13, 3, .null, 9, 0, 0, 0), (7, .aload_n 0, 1, .null, 0, 0, 0, 0),
  (8, .iload_n 1, 1, .null, 0, 0, 0, 0), (9, .putfield 15, 3, .null, 5, 0, 7035, 0), (12, .aload_n 0, 1, .null, 0, 0, 0, 0), (13, .iload_n 2, 1, .null, 0, 0, 0, 0),
  (14, .putfield 9, 3, .null, 5, 1, 7037, 0), (17, .return_, 1, .null, 0, 0, 0, 0)]
def ar_71 : List ai_R := [(0, .aload_n 0, 1, .null, 0, 0, 0, 0), (1, .getfield 34, 3, .null, 5, 6, 7043, 0), (4, .istore_n 1, 1, .null, 0, 0, 0, 0), (5, .iload_n 1, 1, .null, 0, 0, 0, 0),
  (6, .aload_n 0, 1, .null, 0, 0, 0, 0), (7, .getfield 31, 3, .null, 5, 3, 7040, 0), (10, .if_icmp .ge 31, 3, .null, 21, 0, 0, 0), (13, .aload_n 0, 1, .null, 0, 0, 0, 0),
  (14, .getfield 18, 3, .null, 5, 2, 7039, 0), (17, .iload_n 1, 1, .null, 0, 0, 0, 0), (18, .iaload, 1, .null, 0, 0, 0, 0), (19, .bipush 10, 2, .null, 0, 0, 0, 0),
  (21, .if_icmp .eq 14, 3, .null, 19, 0, 0, 0), (24, .aload_n 0, 1, .null, 0, 0, 0, 0), (25, .getfield 18, 3, .null, 5, 2, 7039, 0), (28, .iload_n 1, 1, .null, 0, 0, 0, 0),
  (29, .iaload, 1, .null, 0, 0, 0, 0), (30, .bipush 32, 2, .null, 0, 0, 0, 0), (32, .if_icmp .ne 9, 3, .null, 21, 0, 0, 0), (35, .iinc 1 1, 3, .null, 0, 0, 0, 0),
  (38, .goto (-33), 3, .null, 3, 0, 0, 0), (41, .aload_n 0, 1, .null, 0, 0, 0, 0), (42, .iload_n 1, 1, .null, 0, 0, 0, 0), (43, .putfield 62, 3, .null, 5, 5, 7042, 0),
  (46, .iload_n 1, 1, .null, 0, 0, 0, 0), (47, .aload_n 0, 1, .null, 0, 0, 0, 0), (48, .getfield 31, 3, .null, 5, 3, 7040, 0), (51, .if_icmp .lt 11, 3, .null, 32, 0, 0, 0),
  (54, .aload_n 0, 1, .null, 0, 0, 0, 0), (55, .iconst 0, 1, .null, 0, 0, 0, 0), (56, .putfield 45, 3, .null, 5, 4, 7041, 0), (59, .goto 113, 3, .null, 87, 0, 0, 0),
  (62, .aload_n 0, 1, .null, 0, 0, 0, 0), (63, .iload_n 1, 1, .null, 0, 0, 0, 0), (64, .invokevirtual 65, 3, .null, 0, 72, 8163, 0), (67, .ifCond .eq 30, 3, .null, 49, 0, 0, 0),
  (70, .aload_n 0, 1, .null, 0, 0, 0, 0), (71, .iconst 1, 1, .null, 0, 0, 0, 0), (72, .putfield 45, 3, .null, 5, 4, 7041, 0), (75, .iload_n 1, 1, .null, 0, 0, 0, 0),
  (76, .aload_n 0, 1, .null, 0, 0, 0, 0), (77, .getfield 31, 3, .null, 5, 3, 7040, 0), (80, .if_icmp .ge 92, 3, .null, 87, 0, 0, 0), (83, .aload_n 0, 1, .null, 0, 0, 0, 0),
  (84, .iload_n 1, 1, .null, 0, 0, 0, 0), (85, .invokevirtual 65, 3, .null, 0, 72, 8163, 0), (88, .ifCond .eq 84, 3, .null, 87, 0, 0, 0), (91, .iinc 1 1, 3, .null, 0, 0, 0, 0),
  (94, .goto (-19), 3, .null, 39, 0, 0, 0), (97, .aload_n 0, 1, .null, 0, 0, 0, 0), (98, .iload_n 1, 1, .null, 0, 0, 0, 0), (99, .invokevirtual 69, 3, .null, 0, 73, 8167, 0),
  (102, .ifCond .eq 47, 3, .null, 75, 0, 0, 0), (105, .iload_n 1, 1, .null, 0, 0, 0, 0), (106, .aload_n 0, 1, .null, 0, 0, 0, 0), (107, .getfield 31, 3, .null, 5, 3, 7040, 0),
  (110, .if_icmp .ge 17, 3, .null, 63, 0, 0, 0), (113, .aload_n 0, 1, .null, 0, 0, 0, 0), (114, .iload_n 1, 1, .null, 0, 0, 0, 0), (115, .invokevirtual 69, 3, .null, 0, 73, 8167, 0),
  (118, .ifCond .eq 9, 3, .null, 63, 0, 0, 0), (121, .iinc 1 1, 3, .null, 0, 0, 0, 0), (124, .goto (-19), 3, .null, 53, 0, 0, 0), (127, .aload_n 0, 1, .null, 0, 0, 0, 0),
  (128, .iload_n 1, 1, .null, 0, 0, 0, 0), (129, .aload_n 0, 1, .null, 0, 0, 0, 0), (130, .getfield 62, 3, .null, 5, 5, 7042, 0), (133, .isub, 1, .null, 0, 0, 0, 0),
  (134, .iconst 3, 1, .null, 0, 0, 0, 0), (135, .if_icmp .le 7, 3, .null, 72, 0, 0, 0), (138, .iconst 4, 1, .null, 0, 0, 0, 0), (139, .goto 4, 3, .null, 73, 0, 0, 0),
  (142, .iconst 2, 1, .null, 0, 0, 0, 0), (143, .putfield 45, 3, .null, 5, 4, 7041, 0), (146, .goto 26, 3, .null, 87, 0, 0, 0), (149, .aload_n 0, 1, .null, 0, 0, 0, 0),
  (150, .aload_n 0, 1, .null, 0, 0, 0, 0), (151, .getfield 18, 3, .null, 5, 2, 7039, 0), (154, .iload_n 1, 1, .null, 0, 0, 0, 0), (155, .iaload, 1, .null, 0, 0, 0, 0),
  (156, .bipush 59, 2, .null, 0, 0, 0, 0), (158, .if_icmp .ne 7, 3, .null, 84, 0, 0, 0), (161, .iconst 3, 1, .null, 0, 0, 0, 0), (162, .goto 4, 3, .null, 85, 0, 0, 0),
  (165, .iconst 4, 1, .null, 0, 0, 0, 0), (166, .putfield 45, 3, .null, 5, 4, 7041, 0), (169, .iinc 1 1, 3, .null, 0, 0, 0, 0), (172, .aload_n 0, 1, .null, 0, 0, 0, 0),
  (173, .iload_n 1, 1, .null, 0, 0, 0, 0), (174, .putfield 34, 3, .null, 5, 6, 7043, 0), (177, .return_, 1, .null, 0, 0, 0, 0)]
def ar_72 : List ai_R := [(0, .aload_n 0, 1, .null, 0, 0, 0, 0), (1, .getfield 18, 3, .null, 5, 2, 7039, 0), (4, .iload_n 1, 1, .null, 0, 0, 0, 0), (5, .iaload, 1, .null, 0, 0, 0, 0),
  (6, .bipush 97, 2, .null, 0, 0, 0, 0), (8, .if_icmp .lt 18, 3, .null, 14, 0, 0, 0), (11, .aload_n 0, 1, .null, 0, 0, 0, 0), (12, .getfield 18, 3, .null, 5, 2, 7039, 0),
  (15, .iload_n 1, 1, .null, 0, 0, 0, 0), (16, .iaload, 1, .null, 0, 0, 0, 0), (17, .bipush 122, 2, .null, 0, 0, 0, 0), (19, .if_icmp .gt 7, 3, .null, 14, 0, 0, 0),
  (22, .iconst 1, 1, .null, 0, 0, 0, 0), (23, .goto 4, 3, .null, 15, 0, 0, 0), (26, .iconst 0, 1, .null, 0, 0, 0, 0), (27, .ireturn, 1, .null, 0, 0, 0, 0)]
def ar_73 : List ai_R := [(0, .aload_n 0, 1, .null, 0, 0, 0, 0), (1, .getfield 18, 3, .null, 5, 2, 7039, 0), (4, .iload_n 1, 1, .null, 0, 0, 0, 0), (5, .iaload, 1, .null, 0, 0, 0, 0),
  (6, .bipush 48, 2, .null, 0, 0, 0, 0), (8, .if_icmp .lt 18, 3, .null, 14, 0, 0, 0), (11, .aload_n 0, 1, .null, 0, 0, 0, 0), (12, .getfield 18, 3, .null, 5, 2, 7039, 0),
  (15, .iload_n 1, 1, .null, 0, 0, 0, 0), (16, .iaload, 1, .null, 0, 0, 0, 0), (17, .bipush 57, 2, .null, 0, 0, 0, 0), (19, .if_icmp .gt 7, 3, .null, 14, 0, 0, 0),
  (22, .iconst 1, 1, .null, 0, 0, 0, 0), (23, .goto 4, 3, .null, 15, 0, 0, 0), (26, .iconst 0, 1, .null, 0, 0, 0, 0), (27, .ireturn, 1, .null, 0, 0, 0, 0)]
def ar_74 : List ai_R := [(0, .aload_n 0, 1, .null, 0, 0, 0, 0), (1, .getfield 45, 3, .null, 5, 4, 7041, 0), (4, .iconst 4, 1, .null, 0, 0, 0, 0), (5, .if_icmp .ne 15, 3, .null, 10, 0, 0, 0),
  (8, .aload_n 0, 1, .null, 0, 0, 0, 0), (9, .iconst 1, 1, .null, 0, 0, 0, 0), (10, .aload_n 0, 1, .null, 0, 0, 0, 0), (11, .getfield 62, 3, .null, 5, 5, 7042, 0),
  (14, .invokevirtual 58, 3, .null, 0, 70, 8179, 0), (17, .goto 20, 3, .null, 19, 0, 0, 0), (20, .aload_n 0, 1, .null, 0, 0, 0, 0), (21, .getfield 45, 3, .null, 5, 4, 7041, 0),
  (24, .iload_n 1, 1, .null, 0, 0, 0, 0), (25, .if_icmp .eq 12, 3, .null, 19, 0, 0, 0), (28, .aload_n 0, 1, .null, 0, 0, 0, 0), (29, .iconst 2, 1, .null, 0, 0, 0, 0),
  (30, .aload_n 0, 1, .null, 0, 0, 0, 0), (31, .getfield 62, 3, .null, 5, 5, 7042, 0), (34, .invokevirtual 58, 3, .null, 0, 70, 8179, 0), (37, .aload_n 0, 1, .null, 0, 0, 0, 0),
  (38, .getfield 15, 3, .null, 5, 0, 7035, 0), (41, .ifCond .ne 7, 3, .null, 24, 0, 0, 0), (44, .iconst 1, 1, .null, 0, 0, 0, 0), (45, .goto 4, 3, .null, 25, 0, 0, 0),
  (48, .iconst 0, 1, .null, 0, 0, 0, 0), (49, .ireturn, 1, .null, 0, 0, 0, 0)]
def ar_75 : List ai_R := [(0, .aload_n 0, 1, .null, 0, 0, 0, 0), (1, .iconst 1, 1, .null, 0, 0, 0, 0), (2, .invokevirtual 72, 3, .null, 0, 74, 8175, 0), (5, .ifCond .ne 4, 3, .null, 5, 0, 0, 0),
  (8, .return_, 1, .null, 0, 0, 0, 0), (9, .aload_n 0, 1, .null, 0, 0, 0, 0), (10, .invokevirtual 75, 3, .null, 0, 77, 8183, 0), (13, .istore_n 2, 1, .null, 0, 0, 0, 0),
  (14, .aload_n 0, 1, .null, 0, 0, 0, 0), (15, .iload_n 2, 1, .null, 0, 0, 0, 0), (16, .aload_n 1, 1, .null, 0, 0, 0, 0), (17, .invokevirtual 79, 3, .null, 0, 76, 9009, 0),
  (20, .istore_n 3, 1, .null, 0, 0, 0, 0), (21, .iload_n 3, 1, .null, 0, 0, 0, 0), (22, .ifCond .eq 13, 3, .null, 21, 0, 0, 0), (25, .aload_n 0, 1, .null, 0, 0, 0, 0),
  (26, .iload_n 3, 1, .null, 0, 0, 0, 0), (27, .aload_n 0, 1, .null, 0, 0, 0, 0), (28, .getfield 62, 3, .null, 5, 5, 7042, 0), (31, .invokevirtual 58, 3, .null, 0, 70, 8179, 0),
  (34, .return_, 1, .null, 0, 0, 0, 0), (35, .aload_n 0, 1, .null, 0, 0, 0, 0), (36, .iload_n 2, 1, .null, 0, 0, 0, 0), (37, .aload_n 1, 1, .null, 0, 0, 0, 0),
  (38, .invokevirtual 83, 3, .null, 0, 79, 9013, 0), (41, .aload_n 0, 1, .null, 0, 0, 0, 0), (42, .getfield 15, 3, .null, 5, 0, 7035, 0), (45, .ifCond .ne 25, 3, .null, 40, 0, 0, 0),
  (48, .aload_n 0, 1, .null, 0, 0, 0, 0), (49, .invokevirtual 42, 3, .null, 0, 71, 8159, 0), (52, .aload_n 0, 1, .null, 0, 0, 0, 0), (53, .iconst 3, 1, .null, 0, 0, 0, 0),
  (54, .invokevirtual 72, 3, .null, 0, 74, 8175, 0), (57, .ifCond .eq 13, 3, .null, 40, 0, 0, 0), (60, .aload_n 1, 1, .null, 0, 0, 0, 0), (61, .dup, 1, .null, 0, 0, 0, 0),
  (62, .getfield 87, 3, .null, 2, 2, 7084, 0), (65, .iconst 1, 1, .null, 0, 0, 0, 0), (66, .iadd, 1, .null, 0, 0, 0, 0), (67, .putfield 87, 3, .null, 2, 2, 7084, 0),
  (70, .return_, 1, .null, 0, 0, 0, 0)]
def ar_76 : List ai_R := [(0, .iload_n 1, 1, .null, 0, 0, 0, 0), (1, .iconst (-1), 1, .null, 0, 0, 0, 0), (2, .if_icmp .ne 5, 3, .null, 5, 0, 0, 0), (5, .iconst 2, 1, .null, 0, 0, 0, 0),
  (6, .ireturn, 1, .null, 0, 0, 0, 0), (7, .iload_n 1, 1, .null, 0, 0, 0, 0), (8, .ifCond .ne 16, 3, .null, 14, 0, 0, 0), (11, .aload_n 2, 1, .null, 0, 0, 0, 0),
  (12, .getfield 52, 3, .null, 2, 0, 7068, 0), (15, .ifCond .le 7, 3, .null, 12, 0, 0, 0), (18, .iconst 4, 1, .null, 0, 0, 0, 0), (19, .goto 4, 3, .null, 13, 0, 0, 0),
  (22, .iconst 0, 1, .null, 0, 0, 0, 0), (23, .ireturn, 1, .null, 0, 0, 0, 0), (24, .iload_n 1, 1, .null, 0, 0, 0, 0), (25, .iconst 1, 1, .null, 0, 0, 0, 0),
  (26, .if_icmp .ne 23, 3, .null, 27, 0, 0, 0), (29, .aload_n 2, 1, .null, 0, 0, 0, 0), (30, .getfield 52, 3, .null, 2, 0, 7068, 0), (33, .ifCond .le 16, 3, .null, 27, 0, 0, 0),
  (36, .aload_n 2, 1, .null, 0, 0, 0, 0), (37, .getfield 55, 3, .null, 2, 1, 7076, 0), (40, .ifCond .le 7, 3, .null, 25, 0, 0, 0), (43, .iconst 4, 1, .null, 0, 0, 0, 0),
  (44, .goto 4, 3, .null, 26, 0, 0, 0), (47, .iconst 0, 1, .null, 0, 0, 0, 0), (48, .ireturn, 1, .null, 0, 0, 0, 0), (49, .aload_n 2, 1, .null, 0, 0, 0, 0),
  (50, .getfield 52, 3, .null, 2, 0, 7068, 0), (53, .ifCond .eq 10, 3, .null, 33, 0, 0, 0), (56, .aload_n 2, 1, .null, 0, 0, 0, 0), (57, .getfield 55, 3, .null, 2, 1, 7076, 0),
  (60, .ifCond .ne 5, 3, .null, 35, 0, 0, 0), (63, .iconst 2, 1, .null, 0, 0, 0, 0), (64, .ireturn, 1, .null, 0, 0, 0, 0), (65, .iload_n 1, 1, .null, 0, 0, 0, 0),
  (66, .bipush 9, 2, .null, 0, 0, 0, 0), (68, .if_icmp .ne 16, 3, .null, 44, 0, 0, 0), (71, .aload_n 2, 1, .null, 0, 0, 0, 0), (72, .getfield 90, 3, .null, 2, 4, 7095, 0),
  (75, .bipush 8, 2, .null, 0, 0, 0, 0), (77, .if_icmp .lt 7, 3, .null, 44, 0, 0, 0), (80, .iconst 4, 1, .null, 0, 0, 0, 0), (81, .goto 4, 3, .null, 45, 0, 0, 0),
  (84, .iconst 0, 1, .null, 0, 0, 0, 0), (85, .ireturn, 1, .null, 0, 0, 0, 0)]
def ar_77 : List ai_R := [(0, .aload_n 0, 1, .null, 0, 0, 0, 0), (1, .ldc 93, 2, .float (0), 0, 0, 537, 0), (3, .invokevirtual 94, 3, .null, 0, 78, 8188, 0), (6, .ifCond .eq 5, 3, .null, 6, 0, 0, 0),
  (9, .iconst 0, 1, .null, 0, 0, 0, 0), (10, .ireturn, 1, .null, 0, 0, 0, 0), (11, .aload_n 0, 1, .null, 0, 0, 0, 0), (12, .ldc 98, 2, .float (1), 0, 0, 590, 0),
  (14, .invokevirtual 94, 3, .null, 0, 78, 8188, 0), (17, .ifCond .eq 5, 3, .null, 12, 0, 0, 0), (20, .iconst 1, 1, .null, 0, 0, 0, 0), (21, .ireturn, 1, .null, 0, 0, 0, 0),
  (22, .aload_n 0, 1, .null, 0, 0, 0, 0), (23, .ldc 99, 2, .float (2), 0, 0, 591, 0), (25, .invokevirtual 94, 3, .null, 0, 78, 8188, 0), (28, .ifCond .eq 5, 3, .null, 18, 0, 0, 0),
  (31, .iconst 2, 1, .null, 0, 0, 0, 0), (32, .ireturn, 1, .null, 0, 0, 0, 0), (33, .aload_n 0, 1, .null, 0, 0, 0, 0), (34, .ldc 101, 2, .float (3), 0, 0, 592, 0),
  (36, .invokevirtual 94, 3, .null, 0, 78, 8188, 0), (39, .ifCond .eq 5, 3, .null, 24, 0, 0, 0), (42, .iconst 3, 1, .null, 0, 0, 0, 0), (43, .ireturn, 1, .null, 0, 0, 0, 0),
  (44, .aload_n 0, 1, .null, 0, 0, 0, 0), (45, .ldc 103, 2, .float (4), 0, 0, 593, 0), (47, .invokevirtual 94, 3, .null, 0, 78, 8188, 0), (50, .ifCond .eq 5, 3, .null, 30, 0, 0, 0),
  (53, .iconst 4, 1, .null, 0, 0, 0, 0), (54, .ireturn, 1, .null, 0, 0, 0, 0), (55, .aload_n 0, 1, .null, 0, 0, 0, 0), (56, .ldc 105, 2, .float (5), 0, 0, 594, 0),
  (58, .invokevirtual 94, 3, .null, 0, 78, 8188, 0), (61, .ifCond .eq 5, 3, .null, 36, 0, 0, 0), (64, .iconst 5, 1, .null, 0, 0, 0, 0), (65, .ireturn, 1, .null, 0, 0, 0, 0),
  (66, .aload_n 0, 1, .null, 0, 0, 0, 0), (67, .ldc 107, 2, .float (6), 0, 0, 595, 0), (69, .invokevirtual 94, 3, .null, 0, 78, 8188, 0), (72, .ifCond .eq 6, 3, .null, 42, 0, 0, 0),
  (75, .bipush 6, 2, .null, 0, 0, 0, 0), (77, .ireturn, 1, .null, 0, 0, 0, 0), (78, .aload_n 0, 1, .null, 0, 0, 0, 0), (79, .ldc 109, 2, .float (7), 0, 0, 596, 0),
  (81, .invokevirtual 94, 3, .null, 0, 78, 8188, 0), (84, .ifCond .eq 6, 3, .null, 48, 0, 0, 0), (87, .bipush 7, 2, .null, 0, 0, 0, 0), (89, .ireturn, 1, .null, 0, 0, 0, 0),
  (90, .aload_n 0, 1, .null, 0, 0, 0, 0), (91, .ldc 111, 2, .float (8), 0, 0, 597, 0), (93, .invokevirtual 94, 3, .null, 0, 78, 8188, 0), (96, .ifCond .eq 6, 3, .null, 54, 0, 0, 0),
  (99, .bipush 8, 2, .null, 0, 0, 0, 0), (101, .ireturn, 1, .null, 0, 0, 0, 0), (102, .aload_n 0, 1, .null, 0, 0, 0, 0), (103, .ldc 113, 2, .float (9), 0, 0, 598, 0),
  (105, .invokevirtual 94, 3, .null, 0, 78, 8188, 0), (108, .ifCond .eq 8, 3, .null, 60, 0, 0, 0), (111, .bipush 9, 2, .null, 0, 0, 0, 0), (113, .goto 4, 3, .null, 61, 0, 0, 0),
  (116, .iconst (-1), 1, .null, 0, 0, 0, 0), (117, .ireturn, 1, .null, 0, 0, 0, 0)]
def ar_78 : List ai_R := [(0, .aload_n 0, 1, .null, 0, 0, 0, 0), (1, .getfield 34, 3, .null, 5, 6, 7043, 0), (4, .aload_n 0, 1, .null, 0, 0, 0, 0), (5, .getfield 62, 3, .null, 5, 5, 7042, 0),
  (8, .isub, 1, .null, 0, 0, 0, 0), (9, .aload_n 1, 1, .null, 0, 0, 0, 0), (10, .invokevirtual 115, 3, .null, 6, 0, 8192, 0), (13, .if_icmp .eq 5, 3, .null, 10, 0, 0, 0),
  (16, .iconst 0, 1, .null, 0, 0, 0, 0), (17, .ireturn, 1, .null, 0, 0, 0, 0), (18, .iconst 0, 1, .null, 0, 0, 0, 0), (19, .istore_n 2, 1, .null, 0, 0, 0, 0),
  (20, .iload_n 2, 1, .null, 0, 0, 0, 0), (21, .aload_n 1, 1, .null, 0, 0, 0, 0), (22, .invokevirtual 115, 3, .null, 6, 0, 8192, 0), (25, .if_icmp .ge 30, 3, .null, 31, 0, 0, 0),
  (28, .aload_n 0, 1, .null, 0, 0, 0, 0), (29, .getfield 18, 3, .null, 5, 2, 7039, 0), (32, .aload_n 0, 1, .null, 0, 0, 0, 0), (33, .getfield 62, 3, .null, 5, 5, 7042, 0),
  (36, .iload_n 2, 1, .null, 0, 0, 0, 0), (37, .iadd, 1, .null, 0, 0, 0, 0), (38, .iaload, 1, .null, 0, 0, 0, 0), (39, .aload_n 1, 1, .null, 0, 0, 0, 0),
  (40, .iload_n 2, 1, .null, 0, 0, 0, 0), (41, .invokevirtual 119, 3, .null, 7, 0, 8202, 0), (44, .if_icmp .eq 5, 3, .null, 29, 0, 0, 0), (47, .iconst 0, 1, .null, 0, 0, 0, 0),
  (48, .ireturn, 1, .null, 0, 0, 0, 0), (49, .iinc 2 1, 3, .null, 0, 0, 0, 0), (52, .goto (-32), 3, .null, 12, 0, 0, 0), (55, .iconst 1, 1, .null, 0, 0, 0, 0),
  (56, .ireturn, 1, .null, 0, 0, 0, 0)]
def ar_79 : List ai_R := [(0, .iload_n 1, 1, .null, 0, 0, 0, 0), (1, .tableswitch 115 0 7 #[47, 65, 83, 91, 99, 115, 115, 107], 47, .null, 0, 0, 0, 0), (48, .aload_n 2, 1, .null, 0, 0, 0, 0), (49, .iconst 0, 1, .null, 0, 0, 0, 0),
  (50, .aload_n 0, 1, .null, 0, 0, 0, 0), (51, .iconst 2, 1, .null, 0, 0, 0, 0), (52, .bipush 14, 2, .null, 0, 0, 0, 0), (54, .invokevirtual 123, 3, .null, 0, 80, 9017, 0),
  (57, .invokestatic 28, 3, .null, 8, 0, 8145, 0), (60, .putfield 52, 3, .null, 2, 0, 7068, 0), (63, .goto 59, 3, .null, 40, 0, 0, 0), (66, .aload_n 2, 1, .null, 0, 0, 0, 0),
  (67, .iconst 0, 1, .null, 0, 0, 0, 0), (68, .aload_n 0, 1, .null, 0, 0, 0, 0), (69, .iconst 1, 1, .null, 0, 0, 0, 0), (70, .bipush 6, 2, .null, 0, 0, 0, 0),
  (72, .invokevirtual 123, 3, .null, 0, 80, 9017, 0), (75, .invokestatic 28, 3, .null, 8, 0, 8145, 0), (78, .putfield 55, 3, .null, 2, 1, 7076, 0), (81, .goto 41, 3, .null, 40, 0, 0, 0),
  (84, .aload_n 0, 1, .null, 0, 0, 0, 0), (85, .aload_n 2, 1, .null, 0, 0, 0, 0), (86, .invokevirtual 126, 3, .null, 0, 81, 9021, 0), (89, .goto 33, 3, .null, 40, 0, 0, 0),
  (92, .aload_n 0, 1, .null, 0, 0, 0, 0), (93, .aload_n 2, 1, .null, 0, 0, 0, 0), (94, .invokevirtual 129, 3, .null, 0, 82, 9026, 0), (97, .goto 25, 3, .null, 40, 0, 0, 0),
  (100, .aload_n 0, 1, .null, 0, 0, 0, 0), (101, .aload_n 2, 1, .null, 0, 0, 0, 0), (102, .invokevirtual 132, 3, .null, 0, 83, 9038, 0), (105, .goto 17, 3, .null, 40, 0, 0, 0),
  (108, .aload_n 0, 1, .null, 0, 0, 0, 0), (109, .aload_n 2, 1, .null, 0, 0, 0, 0), (110, .invokevirtual 135, 3, .null, 0, 84, 9042, 0), (113, .goto 9, 3, .null, 40, 0, 0, 0),
  (116, .aload_n 0, 1, .null, 0, 0, 0, 0), (117, .iload_n 1, 1, .null, 0, 0, 0, 0), (118, .aload_n 2, 1, .null, 0, 0, 0, 0), (119, .invokevirtual 138, 3, .null, 0, 85, 9050, 0),
  (122, .return_, 1, .null, 0, 0, 0, 0)]
def ar_80 : List ai_R := [(0, .aload_n 0, 1, .null, 0, 0, 0, 0), (1, .getfield 15, 3, .null, 5, 0, 7035, 0), (4, .ifCond .eq 5, 3, .null, 5, 0, 0, 0), (7, .iconst (-1), 1, .null, 0, 0, 0, 0),
  (8, .ireturn, 1, .null, 0, 0, 0, 0), (9, .aload_n 0, 1, .null, 0, 0, 0, 0), (10, .invokevirtual 42, 3, .null, 0, 71, 8159, 0), (13, .aload_n 0, 1, .null, 0, 0, 0, 0),
  (14, .iconst 2, 1, .null, 0, 0, 0, 0), (15, .invokevirtual 72, 3, .null, 0, 74, 8175, 0), (18, .ifCond .ne 5, 3, .null, 13, 0, 0, 0), (21, .iconst (-1), 1, .null, 0, 0, 0, 0),
  (22, .ireturn, 1, .null, 0, 0, 0, 0), (23, .iconst 0, 1, .null, 0, 0, 0, 0), (24, .istore_n 3, 1, .null, 0, 0, 0, 0), (25, .aload_n 0, 1, .null, 0, 0, 0, 0),
  (26, .getfield 62, 3, .null, 5, 5, 7042, 0), (29, .istore 4, 2, .null, 0, 0, 0, 0), (31, .iload 4, 2, .null, 0, 0, 0, 0), (33, .aload_n 0, 1, .null, 0, 0, 0, 0),
  (34, .getfield 34, 3, .null, 5, 6, 7043, 0), (37, .if_icmp .ge 25, 3, .null, 35, 0, 0, 0), (40, .iload_n 3, 1, .null, 0, 0, 0, 0), (41, .bipush 10, 2, .null, 0, 0, 0, 0),
  (43, .imul, 1, .null, 0, 0, 0, 0), (44, .aload_n 0, 1, .null, 0, 0, 0, 0), (45, .getfield 18, 3, .null, 5, 2, 7039, 0), (48, .iload 4, 2, .null, 0, 0, 0, 0),
  (50, .iaload, 1, .null, 0, 0, 0, 0), (51, .iadd, 1, .null, 0, 0, 0, 0), (52, .bipush 48, 2, .null, 0, 0, 0, 0), (54, .isub, 1, .null, 0, 0, 0, 0),
  (55, .istore_n 3, 1, .null, 0, 0, 0, 0), (56, .iinc 4 1, 3, .null, 0, 0, 0, 0), (59, .goto (-28), 3, .null, 18, 0, 0, 0), (62, .iload_n 3, 1, .null, 0, 0, 0, 0),
  (63, .iload_n 1, 1, .null, 0, 0, 0, 0), (64, .if_icmp .lt 8, 3, .null, 41, 0, 0, 0), (67, .iload_n 3, 1, .null, 0, 0, 0, 0), (68, .iload_n 2, 1, .null, 0, 0, 0, 0),
  (69, .if_icmp .le 14, 3, .null, 48, 0, 0, 0), (72, .aload_n 0, 1, .null, 0, 0, 0, 0), (73, .iconst 3, 1, .null, 0, 0, 0, 0), (74, .aload_n 0, 1, .null, 0, 0, 0, 0),
  (75, .getfield 62, 3, .null, 5, 5, 7042, 0), (78, .invokevirtual 58, 3, .null, 0, 70, 8179, 0), (81, .iconst (-1), 1, .null, 0, 0, 0, 0), (82, .ireturn, 1, .null, 0, 0, 0, 0),
  (83, .iload_n 3, 1, .null, 0, 0, 0, 0), (84, .ireturn, 1, .null, 0, 0, 0, 0)]
def ar_81 : List ai_R := [(0, .aload_n 0, 1, .null, 0, 0, 0, 0), (1, .iconst 0, 1, .null, 0, 0, 0, 0), (2, .aload_n 1, 1, .null, 0, 0, 0, 0), (3, .getfield 52, 3, .null, 2, 0, 7068, 0),
  (6, .iconst 1, 1, .null, 0, 0, 0, 0), (7, .isub, 1, .null, 0, 0, 0, 0), (8, .invokevirtual 123, 3, .null, 0, 80, 9017, 0), (11, .istore_n 2, 1, .null, 0, 0, 0, 0),
  (12, .iconst 0, 1, .null, 0, 0, 0, 0), (13, .istore_n 3, 1, .null, 0, 0, 0, 0), (14, .iload_n 3, 1, .null, 0, 0, 0, 0), (15, .aload_n 1, 1, .null, 0, 0, 0, 0),
  (16, .getfield 55, 3, .null, 2, 1, 7076, 0), (19, .if_icmp .ge 37, 3, .null, 32, 0, 0, 0), (22, .aload_n 0, 1, .null, 0, 0, 0, 0), (23, .iconst 0, 1, .null, 0, 0, 0, 0),
  (24, .aload_n 1, 1, .null, 0, 0, 0, 0), (25, .getfield 52, 3, .null, 2, 0, 7068, 0), (28, .iconst 1, 1, .null, 0, 0, 0, 0), (29, .isub, 1, .null, 0, 0, 0, 0),
  (30, .invokevirtual 123, 3, .null, 0, 80, 9017, 0), (33, .istore 4, 2, .null, 0, 0, 0, 0), (35, .aload_n 0, 1, .null, 0, 0, 0, 0), (36, .getfield 15, 3, .null, 5, 0, 7035, 0),
  (39, .ifCond .ne 11, 3, .null, 30, 0, 0, 0), (42, .aload_n 1, 1, .null, 0, 0, 0, 0), (43, .iload_n 2, 1, .null, 0, 0, 0, 0), (44, .iload_n 3, 1, .null, 0, 0, 0, 0),
  (45, .iload 4, 2, .null, 0, 0, 0, 0), (47, .invokevirtual 141, 3, .null, 0, 32, 9025, 0), (50, .iinc 3 1, 3, .null, 0, 0, 0, 0), (53, .goto (-39), 3, .null, 10, 0, 0, 0),
  (56, .return_, 1, .null, 0, 0, 0, 0)]
def ar_82 : List ai_R := [(0, .aload_n 0, 1, .null, 0, 0, 0, 0), (1, .iconst 0, 1, .null, 0, 0, 0, 0), (2, .aload_n 1, 1, .null, 0, 0, 0, 0), (3, .getfield 52, 3, .null, 2, 0, 7068, 0),
  (6, .iconst 1, 1, .null, 0, 0, 0, 0), (7, .isub, 1, .null, 0, 0, 0, 0), (8, .invokevirtual 123, 3, .null, 0, 80, 9017, 0), (11, .istore_n 2, 1, .null, 0, 0, 0, 0),
  (12, .aload_n 0, 1, .null, 0, 0, 0, 0), (13, .iconst 0, 1, .null, 0, 0, 0, 0), (14, .aload_n 1, 1, .null, 0, 0, 0, 0), (15, .getfield 55, 3, .null, 2, 1, 7076, 0),
  (18, .iconst 1, 1, .null, 0, 0, 0, 0), (19, .isub, 1, .null, 0, 0, 0, 0), (20, .invokevirtual 123, 3, .null, 0, 80, 9017, 0), (23, .istore_n 3, 1, .null, 0, 0, 0, 0),
  (24, .aload_n 0, 1, .null, 0, 0, 0, 0), (25, .iconst 0, 1, .null, 0, 0, 0, 0), (26, .aload_n 1, 1, .null, 0, 0, 0, 0), (27, .getfield 52, 3, .null, 2, 0, 7068, 0),
  (30, .iconst 1, 1, .null, 0, 0, 0, 0), (31, .isub, 1, .null, 0, 0, 0, 0), (32, .invokevirtual 123, 3, .null, 0, 80, 9017, 0), (35, .istore 4, 2, .null, 0, 0, 0, 0),
  (37, .aload_n 0, 1, .null, 0, 0, 0, 0), (38, .getfield 15, 3, .null, 5, 0, 7035, 0), (41, .ifCond .ne 23, 3, .null, 38, 0, 0, 0), (44, .aload_n 1, 1, .null, 0, 0, 0, 0),
  (45, .iload_n 2, 1, .null, 0, 0, 0, 0), (46, .iload_n 3, 1, .null, 0, 0, 0, 0), (47, .invokevirtual 145, 3, .null, 0, 27, 9030, 0), (50, .iload 4, 2, .null, 0, 0, 0, 0),
  (52, .if_icmp .ne 12, 3, .null, 38, 0, 0, 0), (55, .aload_n 0, 1, .null, 0, 0, 0, 0), (56, .iconst 3, 1, .null, 0, 0, 0, 0), (57, .aload_n 0, 1, .null, 0, 0, 0, 0),
  (58, .getfield 62, 3, .null, 5, 5, 7042, 0), (61, .invokevirtual 58, 3, .null, 0, 70, 8179, 0), (64, .aload_n 0, 1, .null, 0, 0, 0, 0), (65, .iconst 1, 1, .null, 0, 0, 0, 0),
  (66, .bipush 99, 2, .null, 0, 0, 0, 0), (68, .invokevirtual 123, 3, .null, 0, 80, 9017, 0), (71, .istore 5, 2, .null, 0, 0, 0, 0), (73, .aload_n 0, 1, .null, 0, 0, 0, 0),
  (74, .getfield 15, 3, .null, 5, 0, 7035, 0), (77, .ifCond .ne 13, 3, .null, 52, 0, 0, 0), (80, .aload_n 1, 1, .null, 0, 0, 0, 0), (81, .iload_n 2, 1, .null, 0, 0, 0, 0),
  (82, .iload_n 3, 1, .null, 0, 0, 0, 0), (83, .iload 4, 2, .null, 0, 0, 0, 0), (85, .iload 5, 2, .null, 0, 0, 0, 0), (87, .invokevirtual 148, 3, .null, 0, 33, 9034, 0),
  (90, .return_, 1, .null, 0, 0, 0, 0)]
def ar_83 : List ai_R := [(0, .aload_n 0, 1, .null, 0, 0, 0, 0), (1, .iconst 0, 1, .null, 0, 0, 0, 0), (2, .aload_n 1, 1, .null, 0, 0, 0, 0), (3, .getfield 52, 3, .null, 2, 0, 7068, 0),
  (6, .iconst 1, 1, .null, 0, 0, 0, 0), (7, .isub, 1, .null, 0, 0, 0, 0), (8, .invokevirtual 123, 3, .null, 0, 80, 9017, 0), (11, .istore_n 2, 1, .null, 0, 0, 0, 0),
  (12, .aload_n 0, 1, .null, 0, 0, 0, 0), (13, .iconst 0, 1, .null, 0, 0, 0, 0), (14, .aload_n 1, 1, .null, 0, 0, 0, 0), (15, .getfield 55, 3, .null, 2, 1, 7076, 0),
  (18, .iconst 1, 1, .null, 0, 0, 0, 0), (19, .isub, 1, .null, 0, 0, 0, 0), (20, .invokevirtual 123, 3, .null, 0, 80, 9017, 0), (23, .istore_n 3, 1, .null, 0, 0, 0, 0),
  (24, .aload_n 0, 1, .null, 0, 0, 0, 0), (25, .getfield 15, 3, .null, 5, 0, 7035, 0), (28, .ifCond .ne 10, 3, .null, 24, 0, 0, 0), (31, .aload_n 1, 1, .null, 0, 0, 0, 0),
  (32, .iload_n 2, 1, .null, 0, 0, 0, 0), (33, .iload_n 3, 1, .null, 0, 0, 0, 0), (34, .iload_n 2, 1, .null, 0, 0, 0, 0), (35, .invokevirtual 141, 3, .null, 0, 32, 9025, 0),
  (38, .return_, 1, .null, 0, 0, 0, 0)]
def ar_84 : List ai_R := [(0, .aload_n 0, 1, .null, 0, 0, 0, 0), (1, .iconst 0, 1, .null, 0, 0, 0, 0), (2, .aload_n 1, 1, .null, 0, 0, 0, 0), (3, .getfield 52, 3, .null, 2, 0, 7068, 0),
  (6, .iconst 1, 1, .null, 0, 0, 0, 0), (7, .isub, 1, .null, 0, 0, 0, 0), (8, .invokevirtual 123, 3, .null, 0, 80, 9017, 0), (11, .istore_n 2, 1, .null, 0, 0, 0, 0),
  (12, .aload_n 0, 1, .null, 0, 0, 0, 0), (13, .iconst 0, 1, .null, 0, 0, 0, 0), (14, .bipush 9, 2, .null, 0, 0, 0, 0), (16, .invokevirtual 123, 3, .null, 0, 80, 9017, 0),
  (19, .istore_n 3, 1, .null, 0, 0, 0, 0), (20, .aload_n 0, 1, .null, 0, 0, 0, 0), (21, .getfield 15, 3, .null, 5, 0, 7035, 0), (24, .ifCond .ne 9, 3, .null, 20, 0, 0, 0),
  (27, .aload_n 1, 1, .null, 0, 0, 0, 0), (28, .iload_n 2, 1, .null, 0, 0, 0, 0), (29, .iload_n 3, 1, .null, 0, 0, 0, 0), (30, .invokevirtual 152, 3, .null, 0, 34, 9046, 0),
  (33, .return_, 1, .null, 0, 0, 0, 0)]
def ar_85 : List ai_R := [(0, .aload_n 0, 1, .null, 0, 0, 0, 0), (1, .iconst 0, 1, .null, 0, 0, 0, 0), (2, .aload_n 2, 1, .null, 0, 0, 0, 0), (3, .getfield 52, 3, .null, 2, 0, 7068, 0),
  (6, .iconst 1, 1, .null, 0, 0, 0, 0), (7, .isub, 1, .null, 0, 0, 0, 0), (8, .invokevirtual 123, 3, .null, 0, 80, 9017, 0), (11, .istore_n 3, 1, .null, 0, 0, 0, 0),
  (12, .aload_n 0, 1, .null, 0, 0, 0, 0), (13, .getfield 15, 3, .null, 5, 0, 7035, 0), (16, .ifCond .eq 4, 3, .null, 12, 0, 0, 0), (19, .return_, 1, .null, 0, 0, 0, 0),
  (20, .iload_n 1, 1, .null, 0, 0, 0, 0), (21, .iconst 5, 1, .null, 0, 0, 0, 0), (22, .if_icmp .ne 18, 3, .null, 24, 0, 0, 0), (25, .aload_n 2, 1, .null, 0, 0, 0, 0),
  (26, .dup, 1, .null, 0, 0, 0, 0), (27, .getfield 155, 3, .null, 2, 5, 7100, 0), (30, .iconst 1, 1, .null, 0, 0, 0, 0), (31, .iload_n 3, 1, .null, 0, 0, 0, 0),
  (32, .ishl, 1, .null, 0, 0, 0, 0), (33, .ior, 1, .null, 0, 0, 0, 0), (34, .putfield 155, 3, .null, 2, 5, 7100, 0), (37, .goto 43, 3, .null, 46, 0, 0, 0),
  (40, .iload_n 1, 1, .null, 0, 0, 0, 0), (41, .bipush 6, 2, .null, 0, 0, 0, 0), (43, .if_icmp .ne 18, 3, .null, 36, 0, 0, 0), (46, .aload_n 2, 1, .null, 0, 0, 0, 0),
  (47, .dup, 1, .null, 0, 0, 0, 0), (48, .getfield 158, 3, .null, 2, 6, 7104, 0), (51, .iconst 1, 1, .null, 0, 0, 0, 0), (52, .iload_n 3, 1, .null, 0, 0, 0, 0),
  (53, .ishl, 1, .null, 0, 0, 0, 0), (54, .ior, 1, .null, 0, 0, 0, 0), (55, .putfield 158, 3, .null, 2, 6, 7104, 0), (58, .goto 22, 3, .null, 46, 0, 0, 0),
  (61, .iload_n 1, 1, .null, 0, 0, 0, 0), (62, .bipush 8, 2, .null, 0, 0, 0, 0), (64, .if_icmp .ne 11, 3, .null, 43, 0, 0, 0), (67, .aload_n 2, 1, .null, 0, 0, 0, 0),
  (68, .iload_n 3, 1, .null, 0, 0, 0, 0), (69, .putfield 161, 3, .null, 2, 3, 7090, 0), (72, .goto 8, 3, .null, 46, 0, 0, 0), (75, .aload_n 2, 1, .null, 0, 0, 0, 0),
  (76, .iload_n 3, 1, .null, 0, 0, 0, 0), (77, .invokevirtual 163, 3, .null, 0, 35, 9054, 0), (80, .return_, 1, .null, 0, 0, 0, 0)]
def ar_86 : List ai_R := [(0, .aload_n 0, 1, .null, 0, 0, 0, 0), (1, .invokespecial 3, 3, .null, 4, 0, 7140, 0), (4, .aload_n 0, 1, .null, 0, 0, 0, 0), (5, .iconst (-1), 1, .null, 0, 0, 0, 0),
  (6, .putfield 9, 3, .null, 6, 0, 7141, 0), (9, .aload_n 0, 1, .null, 0, 0, 0, 0), (10, .sipush 500, 3, .null, 0, 0, 0, 0), (13, .newarray .int, 2, .null, 0, 0, 0, 0),
  (15, .putfield 15, 3, .null, 6, 1, 7145, 0), (18, .return_, 1, .null, 0, 0, 0, 0)]
def ar_87 : List ai_R := [(0, .aload_n 0, 1, .null, 0, 0, 0, 0), (1, .iconst (-1), 1, .null, 0, 0, 0, 0), (2, .putfield 9, 3, .null, 6, 0, 7141, 0), (5, .return_, 1, .null, 0, 0, 0, 0)]
def ar_88 : List ai_R := [(0, .aload_n 0, 1, .null, 0, 0, 0, 0), (1, .iconst 0, 1, .null, 0, 0, 0, 0), (2, .putfield 9, 3, .null, 6, 0, 7141, 0), (5, .return_, 1, .null, 0, 0, 0, 0)]
def ar_89 : List ai_R := [(0, .aload_n 0, 1, .null, 0, 0, 0, 0), (1, .getfield 9, 3, .null, 6, 0, 7141, 0), (4, .ifCond .lt 23, 3, .null, 13, 0, 0, 0), (7, .aload_n 0, 1, .null, 0, 0, 0, 0),
  (8, .getfield 9, 3, .null, 6, 0, 7141, 0), (11, .sipush 500, 3, .null, 0, 0, 0, 0), (14, .if_icmp .ge 13, 3, .null, 13, 0, 0, 0), (17, .aload_n 0, 1, .null, 0, 0, 0, 0),
  (18, .getfield 15, 3, .null, 6, 1, 7145, 0), (21, .aload_n 0, 1, .null, 0, 0, 0, 0), (22, .getfield 9, 3, .null, 6, 0, 7141, 0), (25, .iload_n 1, 1, .null, 0, 0, 0, 0),
  (26, .iastore, 1, .null, 0, 0, 0, 0), (27, .aload_n 0, 1, .null, 0, 0, 0, 0), (28, .dup, 1, .null, 0, 0, 0, 0), (29, .getfield 9, 3, .null, 6, 0, 7141, 0),
  (32, .iconst 1, 1, .null, 0, 0, 0, 0), (33, .iadd, 1, .null, 0, 0, 0, 0), (34, .putfield 9, 3, .null, 6, 0, 7141, 0), (37, .return_, 1, .null, 0, 0, 0, 0)]
def ar_90 : List ai_R := [(0, .iload_n 1, 1, .null, 0, 0, 0, 0), (1, .ifCond .lt 19, 3, .null, 10, 0, 0, 0), (4, .iload_n 1, 1, .null, 0, 0, 0, 0), (5, .sipush 500, 3, .null, 0, 0, 0, 0),
  (8, .if_icmp .ge 12, 3, .null, 10, 0, 0, 0), (11, .aload_n 0, 1, .null, 0, 0, 0, 0), (12, .getfield 15, 3, .null, 6, 1, 7145, 0), (15, .iload_n 1, 1, .null, 0, 0, 0, 0),
  (16, .iaload, 1, .null, 0, 0, 0, 0), (17, .goto 4, 3, .null, 11, 0, 0, 0), (20, .iconst 0, 1, .null, 0, 0, 0, 0), (21, .ireturn, 1, .null, 0, 0, 0, 0)]
def ar_91 : List ai_R := [(0, .iload_n 1, 1, .null, 0, 0, 0, 0), (1, .ifCond .lt 17, 3, .null, 10, 0, 0, 0), (4, .iload_n 1, 1, .null, 0, 0, 0, 0), (5, .sipush 500, 3, .null, 0, 0, 0, 0),
  (8, .if_icmp .ge 10, 3, .null, 10, 0, 0, 0), (11, .aload_n 0, 1, .null, 0, 0, 0, 0), (12, .getfield 15, 3, .null, 6, 1, 7145, 0), (15, .iload_n 1, 1, .null, 0, 0, 0, 0),
  (16, .iload_n 2, 1, .null, 0, 0, 0, 0), (17, .iastore, 1, .null, 0, 0, 0, 0), (18, .return_, 1, .null, 0, 0, 0, 0)]
def ar_92 : List ai_R := [(0, .aload_n 1, 1, .null, 0, 0, 0, 0), (1, .getfield 9, 3, .null, 6, 0, 7141, 0), (4, .sipush 500, 3, .null, 0, 0, 0, 0), (7, .if_icmp .gt 32, 3, .null, 19, 0, 0, 0),
  (10, .aload_n 0, 1, .null, 0, 0, 0, 0), (11, .aload_n 1, 1, .null, 0, 0, 0, 0), (12, .getfield 9, 3, .null, 6, 0, 7141, 0), (15, .putfield 9, 3, .null, 6, 0, 7141, 0),
  (18, .aload_n 1, 1, .null, 0, 0, 0, 0), (19, .getfield 15, 3, .null, 6, 1, 7145, 0), (22, .iconst 0, 1, .null, 0, 0, 0, 0), (23, .aload_n 0, 1, .null, 0, 0, 0, 0),
  (24, .getfield 15, 3, .null, 6, 1, 7145, 0), (27, .iconst 0, 1, .null, 0, 0, 0, 0), (28, .iconst 0, 1, .null, 0, 0, 0, 0), (29, .aload_n 0, 1, .null, 0, 0, 0, 0),
  (30, .getfield 9, 3, .null, 6, 0, 7141, 0), (33, .invokestatic 19, 3, .null, 8, 0, 10126, 0), (36, .invokestatic 25, 3, .null, 5, 0, 10127, 0), (39, .return_, 1, .null, 0, 0, 0, 0)]
def ar_93 : List ai_R := [(0, .aload_n 0, 1, .null, 0, 0, 0, 0), (1, .invokevirtual 31, 3, .null, 0, 88, 10034, 0), (4, .iconst 0, 1, .null, 0, 0, 0, 0), (5, .istore_n 2, 1, .null, 0, 0, 0, 0),
  (6, .iload_n 2, 1, .null, 0, 0, 0, 0), (7, .iload_n 1, 1, .null, 0, 0, 0, 0), (8, .if_icmp .ge 21, 3, .null, 15, 0, 0, 0), (11, .iload_n 2, 1, .null, 0, 0, 0, 0),
  (12, .sipush 500, 3, .null, 0, 0, 0, 0), (15, .if_icmp .ge 14, 3, .null, 15, 0, 0, 0), (18, .aload_n 0, 1, .null, 0, 0, 0, 0), (19, .iconst 0, 1, .null, 0, 0, 0, 0),
  (20, .invokevirtual 34, 3, .null, 0, 89, 10035, 0), (23, .iinc 2 1, 3, .null, 0, 0, 0, 0), (26, .goto (-20), 3, .null, 4, 0, 0, 0), (29, .return_, 1, .null, 0, 0, 0, 0)]
def ar_94 : List ai_R := [(0, .aload_n 0, 1, .null, 0, 0, 0, 0), (1, .getfield 9, 3, .null, 6, 0, 7141, 0), (4, .iconst 1, 1, .null, 0, 0, 0, 0), (5, .isub, 1, .null, 0, 0, 0, 0),
  (6, .istore_n 2, 1, .null, 0, 0, 0, 0), (7, .iload_n 2, 1, .null, 0, 0, 0, 0), (8, .ifCond .lt 40, 3, .null, 32, 0, 0, 0), (11, .aload_n 0, 1, .null, 0, 0, 0, 0),
  (12, .getfield 15, 3, .null, 6, 1, 7145, 0), (15, .iload_n 2, 1, .null, 0, 0, 0, 0), (16, .iaload, 1, .null, 0, 0, 0, 0), (17, .iconst 1, 1, .null, 0, 0, 0, 0),
  (18, .iadd, 1, .null, 0, 0, 0, 0), (19, .iload_n 1, 1, .null, 0, 0, 0, 0), (20, .if_icmp .ge 15, 3, .null, 25, 0, 0, 0), (23, .aload_n 0, 1, .null, 0, 0, 0, 0),
  (24, .getfield 15, 3, .null, 6, 1, 7145, 0), (27, .iload_n 2, 1, .null, 0, 0, 0, 0), (28, .dup2, 1, .null, 0, 0, 0, 0), (29, .iaload, 1, .null, 0, 0, 0, 0),
  (30, .iconst 1, 1, .null, 0, 0, 0, 0), (31, .iadd, 1, .null, 0, 0, 0, 0), (32, .iastore, 1, .null, 0, 0, 0, 0), (33, .iload_n 2, 1, .null, 0, 0, 0, 0),
  (34, .ireturn, 1, .null, 0, 0, 0, 0), (35, .aload_n 0, 1, .null, 0, 0, 0, 0), (36, .getfield 15, 3, .null, 6, 1, 7145, 0), (39, .iload_n 2, 1, .null, 0, 0, 0, 0),
  (40, .iconst 0, 1, .null, 0, 0, 0, 0), (41, .iastore, 1, .null, 0, 0, 0, 0), (42, .iinc 2 (-1), 3, .null, 0, 0, 0, 0), (45, .goto (-38), 3, .null, 5, 0, 0, 0),
  (48, .iconst (-1), 1, .null, 0, 0, 0, 0), (49, .ireturn, 1, .null, 0, 0, 0, 0)]
def ar_95 : List ai_R := [(0, .aload_n 0, 1, .null, 0, 0, 0, 0), (1, .invokespecial 3, 3, .null, 4, 0, 7160, 0), (4, .aload_n 0, 1, .null, 0, 0, 0, 0), (5, .iload_n 1, 1, .null, 0, 0, 0, 0),
  (6, .putfield 9, 3, .null, 7, 0, 7161, 0), (9, .aload_n 0, 1, .null, 0, 0, 0, 0), (10, .iload_n 2, 1, .null, 0, 0, 0, 0), (11, .iconst 1, 1, .null, 0, 0, 0, 0),
  (12, .isub, 1, .null, 0, 0, 0, 0), (13, .putfield 15, 3, .null, 7, 1, 7162, 0), (16, .return_, 1, .null, 0, 0, 0, 0)]
def ar_96 : List ai_R := [(0, .aload_n 0, 1, .null, 0, 0, 0, 0), (1, .getfield 18, 3, .null, 7, 2, 7163, 0), (4, .ifnull 17, 3, .null, 9, 0, 0, 0), (7, .aload_n 0, 1, .null, 0, 0, 0, 0),
  (8, .getfield 22, 3, .null, 7, 3, 7164, 0), (11, .ifnull 10, 3, .null, 9, 0, 0, 0), (14, .aload_n 0, 1, .null, 0, 0, 0, 0), (15, .getfield 25, 3, .null, 7, 4, 7165, 0),
  (18, .ifnonnull 35, 3, .null, 26, 0, 0, 0), (21, .aload_n 0, 1, .null, 0, 0, 0, 0), (22, .aload_n 0, 1, .null, 0, 0, 0, 0), (23, .getfield 15, 3, .null, 7, 1, 7162, 0),
  (26, .iconst 1, 1, .null, 0, 0, 0, 0), (27, .iadd, 1, .null, 0, 0, 0, 0), (28, .newarray .int, 2, .null, 0, 0, 0, 0), (30, .putfield 18, 3, .null, 7, 2, 7163, 0),
  (33, .aload_n 0, 1, .null, 0, 0, 0, 0), (34, .aload_n 0, 1, .null, 0, 0, 0, 0), (35, .getfield 9, 3, .null, 7, 0, 7161, 0), (38, .newarray .int, 2, .null, 0, 0, 0, 0),
  (40, .putfield 22, 3, .null, 7, 3, 7164, 0), (43, .aload_n 0, 1, .null, 0, 0, 0, 0), (44, .aload_n 0, 1, .null, 0, 0, 0, 0), (45, .getfield 9, 3, .null, 7, 0, 7161, 0),
  (48, .newarray .int, 2, .null, 0, 0, 0, 0), (50, .putfield 25, 3, .null, 7, 4, 7165, 0), (53, .aload_n 0, 1, .null, 0, 0, 0, 0), (54, .dup, 1, .null, 0, 0, 0, 0),
  (55, .getfield 28, 3, .null, 7, 5, 7166, 0), (58, .aload_n 0, 1, .null, 0, 0, 0, 0), (59, .getfield 31, 3, .null, 7, 6, 7167, 0), (62, .iadd, 1, .null, 0, 0, 0, 0),
  (63, .putfield 28, 3, .null, 7, 5, 7166, 0), (66, .aload_n 0, 1, .null, 0, 0, 0, 0), (67, .iconst 0, 1, .null, 0, 0, 0, 0), (68, .putfield 31, 3, .null, 7, 6, 7167, 0),
  (71, .aload_n 0, 1, .null, 0, 0, 0, 0), (72, .getfield 28, 3, .null, 7, 5, 7166, 0), (75, .ldc 34, 2, .int (1000000000), 0, 0, 10005, 0), (77, .if_icmp .le 16, 3, .null, 47, 0, 0, 0),
  (80, .aload_n 0, 1, .null, 0, 0, 0, 0), (81, .getfield 18, 3, .null, 7, 2, 7163, 0), (84, .iconst 0, 1, .null, 0, 0, 0, 0), (85, .invokestatic 35, 3, .null, 1, 292, 10006, 0),
  (88, .aload_n 0, 1, .null, 0, 0, 0, 0), (89, .iconst 0, 1, .null, 0, 0, 0, 0), (90, .putfield 28, 3, .null, 7, 5, 7166, 0), (93, .return_, 1, .null, 0, 0, 0, 0)]
def ar_97 : List ai_R := [(0, .aload_n 0, 1, .null, 0, 0, 0, 0), (1, .getfield 31, 3, .null, 7, 6, 7167, 0), (4, .ireturn, 1, .null, 0, 0, 0, 0)]
def ar_98 : List ai_R := [(0, .aload_n 0, 1, .null, 0, 0, 0, 0), (1, .getfield 22, 3, .null, 7, 3, 7164, 0), (4, .iload_n 1, 1, .null, 0, 0, 0, 0), (5, .iaload, 1, .null, 0, 0, 0, 0),
  (6, .ireturn, 1, .null, 0, 0, 0, 0)]
def ar_99 : List ai_R := [(0, .iload_n 1, 1, .null, 0, 0, 0, 0), (1, .sipush 16384, 3, .null, 0, 0, 0, 0), (4, .if_icmp .ge 7, 3, .null, 5, 0, 0, 0), (7, .iload_n 1, 1, .null, 0, 0, 0, 0),
  (8, .goto 10, 3, .null, 10, 0, 0, 0), (11, .iload_n 1, 1, .null, 0, 0, 0, 0), (12, .ldc 41, 2, .int (-1640531535), 0, 0, 10015, 0), (14, .imul, 1, .null, 0, 0, 0, 0),
  (15, .bipush 16, 2, .null, 0, 0, 0, 0), (17, .iushr, 1, .null, 0, 0, 0, 0), (18, .aload_n 0, 1, .null, 0, 0, 0, 0), (19, .getfield 15, 3, .null, 7, 1, 7162, 0),
  (22, .iand, 1, .null, 0, 0, 0, 0), (23, .istore_n 2, 1, .null, 0, 0, 0, 0), (24, .iconst 0, 1, .null, 0, 0, 0, 0), (25, .istore_n 3, 1, .null, 0, 0, 0, 0),
  (26, .iload_n 3, 1, .null, 0, 0, 0, 0), (27, .aload_n 0, 1, .null, 0, 0, 0, 0), (28, .getfield 15, 3, .null, 7, 1, 7162, 0), (31, .if_icmp .gt 51, 3, .null, 49, 0, 0, 0),
  (34, .aload_n 0, 1, .null, 0, 0, 0, 0), (35, .getfield 18, 3, .null, 7, 2, 7163, 0), (38, .iload_n 2, 1, .null, 0, 0, 0, 0), (39, .iaload, 1, .null, 0, 0, 0, 0),
  (40, .aload_n 0, 1, .null, 0, 0, 0, 0), (41, .getfield 28, 3, .null, 7, 5, 7166, 0), (44, .isub, 1, .null, 0, 0, 0, 0), (45, .istore 4, 2, .null, 0, 0, 0, 0),
  (47, .iload 4, 2, .null, 0, 0, 0, 0), (49, .ifCond .le 16, 3, .null, 38, 0, 0, 0), (52, .aload_n 0, 1, .null, 0, 0, 0, 0), (53, .getfield 22, 3, .null, 7, 3, 7164, 0),
  (56, .iload 4, 2, .null, 0, 0, 0, 0), (58, .iconst 1, 1, .null, 0, 0, 0, 0), (59, .isub, 1, .null, 0, 0, 0, 0), (60, .iaload, 1, .null, 0, 0, 0, 0),
  (61, .iload_n 1, 1, .null, 0, 0, 0, 0), (62, .if_icmp .ne 5, 3, .null, 40, 0, 0, 0), (65, .iload_n 2, 1, .null, 0, 0, 0, 0), (66, .ireturn, 1, .null, 0, 0, 0, 0),
  (67, .iload_n 2, 1, .null, 0, 0, 0, 0), (68, .iconst 1, 1, .null, 0, 0, 0, 0), (69, .iadd, 1, .null, 0, 0, 0, 0), (70, .aload_n 0, 1, .null, 0, 0, 0, 0),
  (71, .getfield 15, 3, .null, 7, 1, 7162, 0), (74, .iand, 1, .null, 0, 0, 0, 0), (75, .istore_n 2, 1, .null, 0, 0, 0, 0), (76, .iinc 3 1, 3, .null, 0, 0, 0, 0),
  (79, .goto (-53), 3, .null, 16, 0, 0, 0), (82, .iconst (-1), 1, .null, 0, 0, 0, 0), (83, .ireturn, 1, .null, 0, 0, 0, 0)]
def ar_100 : List ai_R := [(0, .aload_n 0, 1, .null, 0, 0, 0, 0), (1, .iload_n 1, 1, .null, 0, 0, 0, 0), (2, .invokevirtual 42, 3, .null, 0, 99, 10011, 0), (5, .istore_n 2, 1, .null, 0, 0, 0, 0),
  (6, .iload_n 2, 1, .null, 0, 0, 0, 0), (7, .iconst (-1), 1, .null, 0, 0, 0, 0), (8, .if_icmp .eq 16, 3, .null, 14, 0, 0, 0), (11, .aload_n 0, 1, .null, 0, 0, 0, 0),
  (12, .getfield 18, 3, .null, 7, 2, 7163, 0), (15, .iload_n 2, 1, .null, 0, 0, 0, 0), (16, .iaload, 1, .null, 0, 0, 0, 0), (17, .aload_n 0, 1, .null, 0, 0, 0, 0),
  (18, .getfield 28, 3, .null, 7, 5, 7166, 0), (21, .if_icmp .gt 7, 3, .null, 16, 0, 0, 0), (24, .iconst (-1), 1, .null, 0, 0, 0, 0), (25, .goto 16, 3, .null, 25, 0, 0, 0),
  (28, .aload_n 0, 1, .null, 0, 0, 0, 0), (29, .getfield 18, 3, .null, 7, 2, 7163, 0), (32, .iload_n 2, 1, .null, 0, 0, 0, 0), (33, .iaload, 1, .null, 0, 0, 0, 0),
  (34, .aload_n 0, 1, .null, 0, 0, 0, 0), (35, .getfield 28, 3, .null, 7, 5, 7166, 0), (38, .isub, 1, .null, 0, 0, 0, 0), (39, .iconst 1, 1, .null, 0, 0, 0, 0),
  (40, .isub, 1, .null, 0, 0, 0, 0), (41, .ireturn, 1, .null, 0, 0, 0, 0)]
def ar_101 : List ai_R := [(0, .aload_n 0, 1, .null, 0, 0, 0, 0), (1, .iload_n 1, 1, .null, 0, 0, 0, 0), (2, .invokevirtual 42, 3, .null, 0, 99, 10011, 0), (5, .istore 4, 2, .null, 0, 0, 0, 0),
  (7, .iload 4, 2, .null, 0, 0, 0, 0), (9, .iconst (-1), 1, .null, 0, 0, 0, 0), (10, .if_icmp .eq 28, 3, .null, 19, 0, 0, 0), (13, .aload_n 0, 1, .null, 0, 0, 0, 0),
  (14, .getfield 18, 3, .null, 7, 2, 7163, 0), (17, .iload 4, 2, .null, 0, 0, 0, 0), (19, .iaload, 1, .null, 0, 0, 0, 0), (20, .aload_n 0, 1, .null, 0, 0, 0, 0),
  (21, .getfield 28, 3, .null, 7, 5, 7166, 0), (24, .if_icmp .gt 14, 3, .null, 19, 0, 0, 0), (27, .aload_n 0, 1, .null, 0, 0, 0, 0), (28, .getfield 31, 3, .null, 7, 6, 7167, 0),
  (31, .aload_n 0, 1, .null, 0, 0, 0, 0), (32, .getfield 9, 3, .null, 7, 0, 7161, 0), (35, .if_icmp .lt 5, 3, .null, 21, 0, 0, 0), (38, .iconst 0, 1, .null, 0, 0, 0, 0),
  (39, .ireturn, 1, .null, 0, 0, 0, 0), (40, .aload_n 0, 1, .null, 0, 0, 0, 0), (41, .getfield 22, 3, .null, 7, 3, 7164, 0), (44, .aload_n 0, 1, .null, 0, 0, 0, 0),
  (45, .getfield 31, 3, .null, 7, 6, 7167, 0), (48, .iload_n 1, 1, .null, 0, 0, 0, 0), (49, .iastore, 1, .null, 0, 0, 0, 0), (50, .aload_n 0, 1, .null, 0, 0, 0, 0),
  (51, .getfield 25, 3, .null, 7, 4, 7165, 0), (54, .aload_n 0, 1, .null, 0, 0, 0, 0), (55, .getfield 31, 3, .null, 7, 6, 7167, 0), (58, .iload_n 2, 1, .null, 0, 0, 0, 0),
  (59, .iconst (-1), 1, .null, 0, 0, 0, 0), (60, .if_icmp .ne 7, 3, .null, 36, 0, 0, 0), (63, .iconst (-1), 1, .null, 0, 0, 0, 0), (64, .goto 9, 3, .null, 41, 0, 0, 0),
  (67, .iload_n 2, 1, .null, 0, 0, 0, 0), (68, .bipush 8, 2, .null, 0, 0, 0, 0), (70, .imul, 1, .null, 0, 0, 0, 0), (71, .iload_n 3, 1, .null, 0, 0, 0, 0),
  (72, .iadd, 1, .null, 0, 0, 0, 0), (73, .iastore, 1, .null, 0, 0, 0, 0), (74, .aload_n 0, 1, .null, 0, 0, 0, 0), (75, .dup, 1, .null, 0, 0, 0, 0),
  (76, .getfield 31, 3, .null, 7, 6, 7167, 0), (79, .iconst 1, 1, .null, 0, 0, 0, 0), (80, .iadd, 1, .null, 0, 0, 0, 0), (81, .putfield 31, 3, .null, 7, 6, 7167, 0),
  (84, .aload_n 0, 1, .null, 0, 0, 0, 0), (85, .getfield 18, 3, .null, 7, 2, 7163, 0), (88, .iload 4, 2, .null, 0, 0, 0, 0), (90, .aload_n 0, 1, .null, 0, 0, 0, 0),
  (91, .getfield 28, 3, .null, 7, 5, 7166, 0), (94, .aload_n 0, 1, .null, 0, 0, 0, 0), (95, .getfield 31, 3, .null, 7, 6, 7167, 0), (98, .iadd, 1, .null, 0, 0, 0, 0),
  (99, .iastore, 1, .null, 0, 0, 0, 0), (100, .iconst 1, 1, .null, 0, 0, 0, 0), (101, .ireturn, 1, .null, 0, 0, 0, 0)]
def ar_102 : List ai_R := [(0, .iconst 0, 1, .null, 0, 0, 0, 0), (1, .istore_n 2, 1, .null, 0, 0, 0, 0), (2, .aload_n 0, 1, .null, 0, 0, 0, 0), (3, .getfield 31, 3, .null, 7, 6, 7167, 0),
  (6, .iconst 1, 1, .null, 0, 0, 0, 0), (7, .isub, 1, .null, 0, 0, 0, 0), (8, .istore_n 3, 1, .null, 0, 0, 0, 0), (9, .iload_n 2, 1, .null, 0, 0, 0, 0),
  (10, .aload_n 0, 1, .null, 0, 0, 0, 0), (11, .getfield 9, 3, .null, 7, 0, 7161, 0), (14, .if_icmp .ge 31, 3, .null, 27, 0, 0, 0), (17, .iload_n 3, 1, .null, 0, 0, 0, 0),
  (18, .ifCond .lt 27, 3, .null, 27, 0, 0, 0), (21, .aload_n 0, 1, .null, 0, 0, 0, 0), (22, .getfield 25, 3, .null, 7, 4, 7165, 0), (25, .iload_n 3, 1, .null, 0, 0, 0, 0),
  (26, .iaload, 1, .null, 0, 0, 0, 0), (27, .ifCond .lt 18, 3, .null, 27, 0, 0, 0), (30, .iinc 2 1, 3, .null, 0, 0, 0, 0), (33, .aload_n 0, 1, .null, 0, 0, 0, 0),
  (34, .getfield 25, 3, .null, 7, 4, 7165, 0), (37, .iload_n 3, 1, .null, 0, 0, 0, 0), (38, .iaload, 1, .null, 0, 0, 0, 0), (39, .iconst 3, 1, .null, 0, 0, 0, 0),
  (40, .ishr, 1, .null, 0, 0, 0, 0), (41, .istore_n 3, 1, .null, 0, 0, 0, 0), (42, .goto (-33), 3, .null, 7, 0, 0, 0), (45, .iload_n 2, 1, .null, 0, 0, 0, 0),
  (46, .sipush 500, 3, .null, 0, 0, 0, 0), (49, .if_icmp .le 5, 3, .null, 32, 0, 0, 0), (52, .iload_n 2, 1, .null, 0, 0, 0, 0), (53, .ireturn, 1, .null, 0, 0, 0, 0),
  (54, .aload_n 1, 1, .null, 0, 0, 0, 0), (55, .iload_n 2, 1, .null, 0, 0, 0, 0), (56, .invokevirtual 46, 3, .null, 0, 93, 10030, 0), (59, .aload_n 0, 1, .null, 0, 0, 0, 0),
  (60, .getfield 31, 3, .null, 7, 6, 7167, 0), (63, .iconst 1, 1, .null, 0, 0, 0, 0), (64, .isub, 1, .null, 0, 0, 0, 0), (65, .istore_n 3, 1, .null, 0, 0, 0, 0),
  (66, .iload_n 2, 1, .null, 0, 0, 0, 0), (67, .iconst 1, 1, .null, 0, 0, 0, 0), (68, .isub, 1, .null, 0, 0, 0, 0), (69, .istore 4, 2, .null, 0, 0, 0, 0),
  (71, .iload 4, 2, .null, 0, 0, 0, 0), (73, .ifCond .lt 33, 3, .null, 64, 0, 0, 0), (76, .aload_n 1, 1, .null, 0, 0, 0, 0), (77, .iload 4, 2, .null, 0, 0, 0, 0),
  (79, .aload_n 0, 1, .null, 0, 0, 0, 0), (80, .getfield 25, 3, .null, 7, 4, 7165, 0), (83, .iload_n 3, 1, .null, 0, 0, 0, 0), (84, .iaload, 1, .null, 0, 0, 0, 0),
  (85, .bipush 7, 2, .null, 0, 0, 0, 0), (87, .iand, 1, .null, 0, 0, 0, 0), (88, .invokevirtual 52, 3, .null, 0, 91, 10036, 0), (91, .aload_n 0, 1, .null, 0, 0, 0, 0),
  (92, .getfield 25, 3, .null, 7, 4, 7165, 0), (95, .iload_n 3, 1, .null, 0, 0, 0, 0), (96, .iaload, 1, .null, 0, 0, 0, 0), (97, .iconst 3, 1, .null, 0, 0, 0, 0),
  (98, .ishr, 1, .null, 0, 0, 0, 0), (99, .istore_n 3, 1, .null, 0, 0, 0, 0), (100, .iinc 4 (-1), 3, .null, 0, 0, 0, 0), (103, .goto (-32), 3, .null, 44, 0, 0, 0),
  (106, .iload_n 2, 1, .null, 0, 0, 0, 0), (107, .ireturn, 1, .null, 0, 0, 0, 0)]
def ar_103 : List ai_R := [(0, .aload_n 0, 1, .null, 0, 0, 0, 0), (1, .invokespecial 5, 3, .null, 4, 0, 7189, 0), (4, .aload_n 0, 1, .null, 0, 0, 0, 0), (5, .sipush 1536, 3, .null, 0, 0, 0, 0),
  (8, .newarray .int, 2, .null, 0, 0, 0, 0), (10, .putfield 11, 3, .null, 8, 2, 7192, 0), (13, .aload_n 0, 1, .null, 0, 0, 0, 0), (14, .bipush 10, 2, .null, 0, 0, 0, 0),
  (16, .newarray .int, 2, .null, 0, 0, 0, 0), (18, .putfield 15, 3, .null, 8, 3, 7193, 0), (21, .aload_n 0, 1, .null, 0, 0, 0, 0), (22, .aload_n 1, 1, .null, 0, 0, 0, 0),
  (23, .putfield 18, 3, .null, 8, 0, 7190, 0), (26, .aload_n 0, 1, .null, 0, 0, 0, 0), (27, .aload_n 2, 1, .null, 0, 0, 0, 0), (28, .putfield 22, 3, .null, 8, 1, 7191, 0),
  (31, .return_, 1, .null, 0, 0, 0, 0)]
def ar_104 : List ai_R := [(0, .iconst 0, 1, .null, 0, 0, 0, 0), (1, .istore_n 2, 1, .null, 0, 0, 0, 0), (2, .iload_n 2, 1, .null, 0, 0, 0, 0), (3, .aload_n 0, 1, .null, 0, 0, 0, 0),
  (4, .getfield 18, 3, .null, 8, 0, 7190, 0), (7, .getfield 26, 3, .null, 2, 1, 7075, 0), (10, .if_icmp .ge 130, 3, .null, 78, 0, 0, 0), (13, .iconst 0, 1, .null, 0, 0, 0, 0),
  (14, .istore_n 3, 1, .null, 0, 0, 0, 0), (15, .iload_n 3, 1, .null, 0, 0, 0, 0), (16, .bipush 14, 2, .null, 0, 0, 0, 0), (18, .if_icmp .ge 116, 3, .null, 76, 0, 0, 0),
  (21, .iconst 0, 1, .null, 0, 0, 0, 0), (22, .istore 4, 2, .null, 0, 0, 0, 0), (24, .iload_n 3, 1, .null, 0, 0, 0, 0), (25, .aload_n 0, 1, .null, 0, 0, 0, 0),
  (26, .getfield 18, 3, .null, 8, 0, 7190, 0), (29, .getfield 32, 3, .null, 2, 0, 7067, 0), (32, .if_icmp .ge 32, 3, .null, 35, 0, 0, 0), (35, .iload_n 1, 1, .null, 0, 0, 0, 0),
  (36, .ifCond .eq 15, 3, .null, 27, 0, 0, 0), (39, .aload_n 0, 1, .null, 0, 0, 0, 0), (40, .getfield 18, 3, .null, 8, 0, 7190, 0), (43, .iload_n 3, 1, .null, 0, 0, 0, 0),
  (44, .iload_n 2, 1, .null, 0, 0, 0, 0), (45, .invokevirtual 35, 3, .null, 0, 37, 9239, 0), (48, .goto 14, 3, .null, 34, 0, 0, 0), (51, .iconst 1, 1, .null, 0, 0, 0, 0),
  (52, .aload_n 0, 1, .null, 0, 0, 0, 0), (53, .getfield 18, 3, .null, 8, 0, 7190, 0), (56, .iload_n 3, 1, .null, 0, 0, 0, 0), (57, .iload_n 2, 1, .null, 0, 0, 0, 0),
  (58, .invokevirtual 39, 3, .null, 0, 27, 10000, 0), (61, .ishl, 1, .null, 0, 0, 0, 0), (62, .istore 4, 2, .null, 0, 0, 0, 0), (64, .iload_n 2, 1, .null, 0, 0, 0, 0),
  (65, .iconst 2, 1, .null, 0, 0, 0, 0), (66, .imul, 1, .null, 0, 0, 0, 0), (67, .iload_n 3, 1, .null, 0, 0, 0, 0), (68, .bipush 7, 2, .null, 0, 0, 0, 0),
  (70, .idiv, 1, .null, 0, 0, 0, 0), (71, .iadd, 1, .null, 0, 0, 0, 0), (72, .sipush 128, 3, .null, 0, 0, 0, 0), (75, .imul, 1, .null, 0, 0, 0, 0),
  (76, .istore 5, 2, .null, 0, 0, 0, 0), (78, .iconst 1, 1, .null, 0, 0, 0, 0), (79, .iload_n 3, 1, .null, 0, 0, 0, 0), (80, .bipush 7, 2, .null, 0, 0, 0, 0),
  (82, .irem, 1, .null, 0, 0, 0, 0), (83, .ishl, 1, .null, 0, 0, 0, 0), (84, .istore 6, 2, .null, 0, 0, 0, 0), (86, .iconst 0, 1, .null, 0, 0, 0, 0),
  (87, .istore 7, 2, .null, 0, 0, 0, 0), (89, .iload 7, 2, .null, 0, 0, 0, 0), (91, .iload 6, 2, .null, 0, 0, 0, 0), (93, .if_icmp .ge 35, 3, .null, 74, 0, 0, 0),
  (96, .aload_n 0, 1, .null, 0, 0, 0, 0), (97, .getfield 11, 3, .null, 8, 2, 7192, 0), (100, .iload 5, 2, .null, 0, 0, 0, 0), (102, .iload 6, 2, .null, 0, 0, 0, 0),
  (104, .iadd, 1, .null, 0, 0, 0, 0), (105, .iload 7, 2, .null, 0, 0, 0, 0), (107, .iadd, 1, .null, 0, 0, 0, 0), (108, .aload_n 0, 1, .null, 0, 0, 0, 0),
  (109, .getfield 11, 3, .null, 8, 2, 7192, 0), (112, .iload 5, 2, .null, 0, 0, 0, 0), (114, .iload 7, 2, .null, 0, 0, 0, 0), (116, .iadd, 1, .null, 0, 0, 0, 0),
  (117, .iaload, 1, .null, 0, 0, 0, 0), (118, .iload 4, 2, .null, 0, 0, 0, 0), (120, .ior, 1, .null, 0, 0, 0, 0), (121, .iastore, 1, .null, 0, 0, 0, 0),
  (122, .iinc 7 1, 3, .null, 0, 0, 0, 0), (125, .goto (-36), 3, .null, 53, 0, 0, 0), (128, .iinc 3 1, 3, .null, 0, 0, 0, 0), (131, .goto (-116), 3, .null, 9, 0, 0, 0),
  (134, .iinc 2 1, 3, .null, 0, 0, 0, 0), (137, .goto (-135), 3, .null, 2, 0, 0, 0), (140, .return_, 1, .null, 0, 0, 0, 0)]
def ar_105 : List ai_R := [(0, .iload_n 2, 1, .null, 0, 0, 0, 0), (1, .iconst 2, 1, .null, 0, 0, 0, 0), (2, .imul, 1, .null, 0, 0, 0, 0), (3, .sipush 128, 3, .null, 0, 0, 0, 0),
  (6, .imul, 1, .null, 0, 0, 0, 0), (7, .istore_n 3, 1, .null, 0, 0, 0, 0), (8, .aload_n 0, 1, .null, 0, 0, 0, 0), (9, .getfield 11, 3, .null, 8, 2, 7192, 0),
  (12, .iload_n 3, 1, .null, 0, 0, 0, 0), (13, .iload_n 1, 1, .null, 0, 0, 0, 0), (14, .bipush 127, 2, .null, 0, 0, 0, 0), (16, .iand, 1, .null, 0, 0, 0, 0),
  (17, .iadd, 1, .null, 0, 0, 0, 0), (18, .iaload, 1, .null, 0, 0, 0, 0), (19, .aload_n 0, 1, .null, 0, 0, 0, 0), (20, .getfield 11, 3, .null, 8, 2, 7192, 0),
  (23, .iload_n 3, 1, .null, 0, 0, 0, 0), (24, .sipush 128, 3, .null, 0, 0, 0, 0), (27, .iadd, 1, .null, 0, 0, 0, 0), (28, .iload_n 1, 1, .null, 0, 0, 0, 0),
  (29, .bipush 7, 2, .null, 0, 0, 0, 0), (31, .iushr, 1, .null, 0, 0, 0, 0), (32, .bipush 127, 2, .null, 0, 0, 0, 0), (34, .iand, 1, .null, 0, 0, 0, 0),
  (35, .iadd, 1, .null, 0, 0, 0, 0), (36, .iaload, 1, .null, 0, 0, 0, 0), (37, .ior, 1, .null, 0, 0, 0, 0), (38, .ireturn, 1, .null, 0, 0, 0, 0)]
def ar_106 : List ai_R := [(0, .iload_n 2, 1, .null, 0, 0, 0, 0), (1, .iconst (-1), 1, .null, 0, 0, 0, 0), (2, .if_icmp .ne 19, 3, .null, 11, 0, 0, 0), (5, .iload_n 1, 1, .null, 0, 0, 0, 0),
  (6, .invokestatic 42, 3, .null, 1, 290, 10020, 0), (9, .iconst 1, 1, .null, 0, 0, 0, 0), (10, .if_icmp .ne 7, 3, .null, 9, 0, 0, 0), (13, .iconst 1, 1, .null, 0, 0, 0, 0),
  (14, .goto 20, 3, .null, 20, 0, 0, 0), (17, .iconst 0, 1, .null, 0, 0, 0, 0), (18, .goto 16, 3, .null, 20, 0, 0, 0), (21, .iload_n 1, 1, .null, 0, 0, 0, 0),
  (22, .iload_n 2, 1, .null, 0, 0, 0, 0), (23, .iconst (-1), 1, .null, 0, 0, 0, 0), (24, .ixor, 1, .null, 0, 0, 0, 0), (25, .iand, 1, .null, 0, 0, 0, 0),
  (26, .ifCond .ne 7, 3, .null, 19, 0, 0, 0), (29, .iconst 1, 1, .null, 0, 0, 0, 0), (30, .goto 4, 3, .null, 20, 0, 0, 0), (33, .iconst 0, 1, .null, 0, 0, 0, 0),
  (34, .ireturn, 1, .null, 0, 0, 0, 0)]
def ar_107 : List ai_R := [(0, .aload_n 0, 1, .null, 0, 0, 0, 0), (1, .iconst 1, 1, .null, 0, 0, 0, 0), (2, .invokevirtual 48, 3, .null, 0, 104, 9235, 0), (5, .aload_n 0, 1, .null, 0, 0, 0, 0),
  (6, .getfield 22, 3, .null, 8, 1, 7191, 0), (9, .invokevirtual 52, 3, .null, 0, 96, 10001, 0), (12, .aload_n 0, 1, .null, 0, 0, 0, 0), (13, .getfield 22, 3, .null, 8, 1, 7191, 0),
  (16, .iload_n 1, 1, .null, 0, 0, 0, 0), (17, .iconst (-1), 1, .null, 0, 0, 0, 0), (18, .iconst 0, 1, .null, 0, 0, 0, 0), (19, .invokevirtual 57, 3, .null, 0, 101, 10007, 0),
  (22, .pop, 1, .null, 0, 0, 0, 0), (23, .aload_n 0, 1, .null, 0, 0, 0, 0), (24, .iload_n 1, 1, .null, 0, 0, 0, 0), (25, .iload_n 2, 1, .null, 0, 0, 0, 0),
  (26, .invokevirtual 61, 3, .null, 0, 106, 10016, 0), (29, .ifCond .eq 13, 3, .null, 23, 0, 0, 0), (32, .aload_n 0, 1, .null, 0, 0, 0, 0), (33, .getfield 22, 3, .null, 8, 1, 7191, 0),
  (36, .aload 4, 2, .null, 0, 0, 0, 0), (38, .invokevirtual 65, 3, .null, 0, 102, 10026, 0), (41, .ireturn, 1, .null, 0, 0, 0, 0), (42, .iconst 0, 1, .null, 0, 0, 0, 0),
  (43, .istore 5, 2, .null, 0, 0, 0, 0), (45, .iload 5, 2, .null, 0, 0, 0, 0), (47, .sipush 16384, 3, .null, 0, 0, 0, 0), (50, .if_icmp .ge 102, 3, .null, 73, 0, 0, 0),
  (53, .iload 5, 2, .null, 0, 0, 0, 0), (55, .aload_n 0, 1, .null, 0, 0, 0, 0), (56, .getfield 22, 3, .null, 8, 1, 7191, 0), (59, .invokevirtual 69, 3, .null, 0, 97, 10040, 0),
  (62, .if_icmp .ge 90, 3, .null, 73, 0, 0, 0), (65, .iconst 0, 1, .null, 0, 0, 0, 0), (66, .istore 6, 2, .null, 0, 0, 0, 0), (68, .iload 6, 2, .null, 0, 0, 0, 0),
  (70, .aload_n 0, 1, .null, 0, 0, 0, 0), (71, .getfield 18, 3, .null, 8, 0, 7190, 0), (74, .getfield 26, 3, .null, 2, 1, 7075, 0), (77, .if_icmp .ge 69, 3, .null, 71, 0, 0, 0),
  (80, .aload_n 0, 1, .null, 0, 0, 0, 0), (81, .aload_n 0, 1, .null, 0, 0, 0, 0), (82, .getfield 22, 3, .null, 8, 1, 7191, 0), (85, .iload 5, 2, .null, 0, 0, 0, 0),
  (87, .invokevirtual 73, 3, .null, 0, 98, 10044, 0), (90, .iload 6, 2, .null, 0, 0, 0, 0), (92, .invokevirtual 76, 3, .null, 0, 105, 10048, 0), (95, .istore 7, 2, .null, 0, 0, 0, 0),
  (97, .iload 7, 2, .null, 0, 0, 0, 0), (99, .iload_n 3, 1, .null, 0, 0, 0, 0), (100, .iand, 1, .null, 0, 0, 0, 0), (101, .ifCond .ne 39, 3, .null, 69, 0, 0, 0),
  (104, .aload_n 0, 1, .null, 0, 0, 0, 0), (105, .getfield 22, 3, .null, 8, 1, 7191, 0), (108, .iload 7, 2, .null, 0, 0, 0, 0), (110, .iload 5, 2, .null, 0, 0, 0, 0),
  (112, .iload 6, 2, .null, 0, 0, 0, 0), (114, .invokevirtual 57, 3, .null, 0, 101, 10007, 0), (117, .ifCond .eq 23, 3, .null, 69, 0, 0, 0), (120, .aload_n 0, 1, .null, 0, 0, 0, 0),
  (121, .iload 7, 2, .null, 0, 0, 0, 0), (123, .iload_n 2, 1, .null, 0, 0, 0, 0), (124, .invokevirtual 61, 3, .null, 0, 106, 10016, 0), (127, .ifCond .eq 13, 3, .null, 69, 0, 0, 0),
  (130, .aload_n 0, 1, .null, 0, 0, 0, 0), (131, .getfield 22, 3, .null, 8, 1, 7191, 0), (134, .aload 4, 2, .null, 0, 0, 0, 0), (136, .invokevirtual 65, 3, .null, 0, 102, 10026, 0),
  (139, .ireturn, 1, .null, 0, 0, 0, 0), (140, .iinc 6 1, 3, .null, 0, 0, 0, 0), (143, .goto (-75), 3, .null, 35, 0, 0, 0), (146, .iinc 5 1, 3, .null, 0, 0, 0, 0),
  (149, .goto (-104), 3, .null, 25, 0, 0, 0), (152, .iconst (-1), 1, .null, 0, 0, 0, 0), (153, .ireturn, 1, .null, 0, 0, 0, 0)]
def ar_108 : List ai_R := [(0, .iconst 1, 1, .null, 0, 0, 0, 0), (1, .aload_n 0, 1, .null, 0, 0, 0, 0), (2, .getfield 18, 3, .null, 8, 0, 7190, 0), (5, .getfield 79, 3, .null, 2, 3, 7087, 0),
  (8, .ishl, 1, .null, 0, 0, 0, 0), (9, .istore 4, 2, .null, 0, 0, 0, 0), (11, .aload_n 0, 1, .null, 0, 0, 0, 0), (12, .iconst 1, 1, .null, 0, 0, 0, 0),
  (13, .invokevirtual 48, 3, .null, 0, 104, 9235, 0), (16, .aload_n 2, 1, .null, 0, 0, 0, 0), (17, .invokevirtual 52, 3, .null, 0, 96, 10001, 0), (20, .aload_n 2, 1, .null, 0, 0, 0, 0),
  (21, .iload_n 1, 1, .null, 0, 0, 0, 0), (22, .iconst (-1), 1, .null, 0, 0, 0, 0), (23, .iconst 0, 1, .null, 0, 0, 0, 0), (24, .invokevirtual 57, 3, .null, 0, 101, 10007, 0),
  (27, .pop, 1, .null, 0, 0, 0, 0), (28, .iload_n 1, 1, .null, 0, 0, 0, 0), (29, .iload 4, 2, .null, 0, 0, 0, 0), (31, .if_icmp .ne 9, 3, .null, 24, 0, 0, 0),
  (34, .aload_n 2, 1, .null, 0, 0, 0, 0), (35, .aload_n 3, 1, .null, 0, 0, 0, 0), (36, .invokevirtual 65, 3, .null, 0, 102, 10026, 0), (39, .ireturn, 1, .null, 0, 0, 0, 0),
  (40, .iconst 0, 1, .null, 0, 0, 0, 0), (41, .istore 5, 2, .null, 0, 0, 0, 0), (43, .iload 5, 2, .null, 0, 0, 0, 0), (45, .sipush 30000, 3, .null, 0, 0, 0, 0),
  (48, .if_icmp .gt 133, 3, .null, 93, 0, 0, 0), (51, .iload 5, 2, .null, 0, 0, 0, 0), (53, .aload_n 2, 1, .null, 0, 0, 0, 0), (54, .invokevirtual 69, 3, .null, 0, 97, 10040, 0),
  (57, .if_icmp .ge 124, 3, .null, 93, 0, 0, 0), (60, .aload_n 2, 1, .null, 0, 0, 0, 0), (61, .iload 5, 2, .null, 0, 0, 0, 0), (63, .invokevirtual 73, 3, .null, 0, 98, 10044, 0),
  (66, .sipush 16383, 3, .null, 0, 0, 0, 0), (69, .iand, 1, .null, 0, 0, 0, 0), (70, .istore 6, 2, .null, 0, 0, 0, 0), (72, .aload_n 2, 1, .null, 0, 0, 0, 0),
  (73, .iload 5, 2, .null, 0, 0, 0, 0), (75, .invokevirtual 73, 3, .null, 0, 98, 10044, 0), (78, .bipush 14, 2, .null, 0, 0, 0, 0), (80, .iushr, 1, .null, 0, 0, 0, 0),
  (81, .istore 7, 2, .null, 0, 0, 0, 0), (83, .iconst 0, 1, .null, 0, 0, 0, 0), (84, .istore 8, 2, .null, 0, 0, 0, 0), (86, .iload 8, 2, .null, 0, 0, 0, 0),
  (88, .aload_n 0, 1, .null, 0, 0, 0, 0), (89, .getfield 18, 3, .null, 8, 0, 7190, 0), (92, .getfield 26, 3, .null, 2, 1, 7075, 0), (95, .if_icmp .ge 80, 3, .null, 91, 0, 0, 0),
  (98, .aload_n 0, 1, .null, 0, 0, 0, 0), (99, .iload 6, 2, .null, 0, 0, 0, 0), (101, .iload 8, 2, .null, 0, 0, 0, 0), (103, .invokevirtual 76, 3, .null, 0, 105, 10048, 0),
  (106, .istore 9, 2, .null, 0, 0, 0, 0), (108, .aload_n 0, 1, .null, 0, 0, 0, 0), (109, .iload 7, 2, .null, 0, 0, 0, 0), (111, .iload 8, 2, .null, 0, 0, 0, 0),
  (113, .invokevirtual 76, 3, .null, 0, 105, 10048, 0), (116, .iload 6, 2, .null, 0, 0, 0, 0), (118, .ior, 1, .null, 0, 0, 0, 0), (119, .istore 10, 2, .null, 0, 0, 0, 0),
  (121, .aload_n 2, 1, .null, 0, 0, 0, 0), (122, .iload 9, 2, .null, 0, 0, 0, 0), (124, .iload 10, 2, .null, 0, 0, 0, 0), (126, .bipush 14, 2, .null, 0, 0, 0, 0),
  (128, .ishl, 1, .null, 0, 0, 0, 0), (129, .ior, 1, .null, 0, 0, 0, 0), (130, .iload 5, 2, .null, 0, 0, 0, 0), (132, .iload 8, 2, .null, 0, 0, 0, 0),
  (134, .invokevirtual 57, 3, .null, 0, 101, 10007, 0), (137, .ifCond .eq 32, 3, .null, 89, 0, 0, 0), (140, .iload 9, 2, .null, 0, 0, 0, 0), (142, .iload 10, 2, .null, 0, 0, 0, 0),
  (144, .ior, 1, .null, 0, 0, 0, 0), (145, .iload 4, 2, .null, 0, 0, 0, 0), (147, .if_icmp .ne 9, 3, .null, 83, 0, 0, 0), (150, .aload_n 2, 1, .null, 0, 0, 0, 0),
  (151, .aload_n 3, 1, .null, 0, 0, 0, 0), (152, .invokevirtual 65, 3, .null, 0, 102, 10026, 0), (155, .ireturn, 1, .null, 0, 0, 0, 0), (156, .aload_n 2, 1, .null, 0, 0, 0, 0),
  (157, .invokevirtual 69, 3, .null, 0, 97, 10040, 0), (160, .sipush 30000, 3, .null, 0, 0, 0, 0), (163, .if_icmp .le 6, 3, .null, 89, 0, 0, 0), (166, .bipush (-4), 2, .null, 0, 0, 0, 0),
  (168, .ireturn, 1, .null, 0, 0, 0, 0), (169, .iinc 8 1, 3, .null, 0, 0, 0, 0), (172, .goto (-86), 3, .null, 47, 0, 0, 0), (175, .iinc 5 1, 3, .null, 0, 0, 0, 0),
  (178, .goto (-135), 3, .null, 26, 0, 0, 0), (181, .iconst (-1), 1, .null, 0, 0, 0, 0), (182, .ireturn, 1, .null, 0, 0, 0, 0)]
def ar_109 : List ai_R := [(0, .aload_n 0, 1, .null, 0, 0, 0, 0), (1, .iconst 1, 1, .null, 0, 0, 0, 0), (2, .invokevirtual 48, 3, .null, 0, 104, 9235, 0), (5, .aload_n 0, 1, .null, 0, 0, 0, 0),
  (6, .getfield 22, 3, .null, 8, 1, 7191, 0), (9, .invokevirtual 52, 3, .null, 0, 96, 10001, 0), (12, .aload_n 0, 1, .null, 0, 0, 0, 0), (13, .getfield 22, 3, .null, 8, 1, 7191, 0),
  (16, .iconst 1, 1, .null, 0, 0, 0, 0), (17, .aload_n 0, 1, .null, 0, 0, 0, 0), (18, .getfield 18, 3, .null, 8, 0, 7190, 0), (21, .getfield 32, 3, .null, 2, 0, 7067, 0),
  (24, .ishl, 1, .null, 0, 0, 0, 0), (25, .iconst 1, 1, .null, 0, 0, 0, 0), (26, .isub, 1, .null, 0, 0, 0, 0), (27, .iconst (-1), 1, .null, 0, 0, 0, 0),
  (28, .iconst 0, 1, .null, 0, 0, 0, 0), (29, .invokevirtual 57, 3, .null, 0, 101, 10007, 0), (32, .pop, 1, .null, 0, 0, 0, 0), (33, .iconst 0, 1, .null, 0, 0, 0, 0),
  (34, .istore_n 1, 1, .null, 0, 0, 0, 0), (35, .iload_n 1, 1, .null, 0, 0, 0, 0), (36, .sipush 16384, 3, .null, 0, 0, 0, 0), (39, .if_icmp .ge 62, 3, .null, 53, 0, 0, 0),
  (42, .iload_n 1, 1, .null, 0, 0, 0, 0), (43, .aload_n 0, 1, .null, 0, 0, 0, 0), (44, .getfield 22, 3, .null, 8, 1, 7191, 0), (47, .invokevirtual 69, 3, .null, 0, 97, 10040, 0),
  (50, .if_icmp .ge 51, 3, .null, 53, 0, 0, 0), (53, .iconst 0, 1, .null, 0, 0, 0, 0), (54, .istore_n 2, 1, .null, 0, 0, 0, 0), (55, .iload_n 2, 1, .null, 0, 0, 0, 0),
  (56, .aload_n 0, 1, .null, 0, 0, 0, 0), (57, .getfield 18, 3, .null, 8, 0, 7190, 0), (60, .getfield 26, 3, .null, 2, 1, 7075, 0), (63, .if_icmp .ge 32, 3, .null, 51, 0, 0, 0),
  (66, .aload_n 0, 1, .null, 0, 0, 0, 0), (67, .getfield 22, 3, .null, 8, 1, 7191, 0), (70, .aload_n 0, 1, .null, 0, 0, 0, 0), (71, .aload_n 0, 1, .null, 0, 0, 0, 0),
  (72, .getfield 22, 3, .null, 8, 1, 7191, 0), (75, .iload_n 1, 1, .null, 0, 0, 0, 0), (76, .invokevirtual 73, 3, .null, 0, 98, 10044, 0), (79, .iload_n 2, 1, .null, 0, 0, 0, 0),
  (80, .invokevirtual 76, 3, .null, 0, 105, 10048, 0), (83, .iload_n 1, 1, .null, 0, 0, 0, 0), (84, .iload_n 2, 1, .null, 0, 0, 0, 0), (85, .invokevirtual 57, 3, .null, 0, 101, 10007, 0),
  (88, .pop, 1, .null, 0, 0, 0, 0), (89, .iinc 2 1, 3, .null, 0, 0, 0, 0), (92, .goto (-37), 3, .null, 31, 0, 0, 0), (95, .iinc 1 1, 3, .null, 0, 0, 0, 0),
  (98, .goto (-63), 3, .null, 21, 0, 0, 0), (101, .return_, 1, .null, 0, 0, 0, 0)]
def ar_110 : List ai_R := [(0, .aload_n 0, 1, .null, 0, 0, 0, 0), (1, .invokevirtual 82, 3, .null, 0, 109, 10064, 0), (4, .bipush 14, 2, .null, 0, 0, 0, 0), (6, .istore_n 1, 1, .null, 0, 0, 0, 0),
  (7, .iconst 0, 1, .null, 0, 0, 0, 0), (8, .istore_n 2, 1, .null, 0, 0, 0, 0), (9, .iload_n 2, 1, .null, 0, 0, 0, 0), (10, .aload_n 0, 1, .null, 0, 0, 0, 0),
  (11, .getfield 22, 3, .null, 8, 1, 7191, 0), (14, .invokevirtual 69, 3, .null, 0, 97, 10040, 0), (17, .if_icmp .ge 25, 3, .null, 21, 0, 0, 0), (20, .iload_n 1, 1, .null, 0, 0, 0, 0),
  (21, .aload_n 0, 1, .null, 0, 0, 0, 0), (22, .getfield 22, 3, .null, 8, 1, 7191, 0), (25, .iload_n 2, 1, .null, 0, 0, 0, 0), (26, .invokevirtual 73, 3, .null, 0, 98, 10044, 0),
  (29, .invokestatic 42, 3, .null, 1, 290, 10020, 0), (32, .invokestatic 85, 3, .null, 9, 0, 10068, 0), (35, .istore_n 1, 1, .null, 0, 0, 0, 0), (36, .iinc 2 1, 3, .null, 0, 0, 0, 0),
  (39, .goto (-30), 3, .null, 6, 0, 0, 0), (42, .iload_n 1, 1, .null, 0, 0, 0, 0), (43, .ireturn, 1, .null, 0, 0, 0, 0)]
def ar_111 : List ai_R := [(0, .aload_n 0, 1, .null, 0, 0, 0, 0), (1, .getfield 90, 3, .null, 8, 6, 7196, 0), (4, .ifnull 10, 3, .null, 6, 0, 0, 0), (7, .aload_n 0, 1, .null, 0, 0, 0, 0),
  (8, .getfield 93, 3, .null, 8, 7, 7197, 0), (11, .ifnonnull 21, 3, .null, 14, 0, 0, 0), (14, .aload_n 0, 1, .null, 0, 0, 0, 0), (15, .sipush 16384, 3, .null, 0, 0, 0, 0),
  (18, .newarray .int, 2, .null, 0, 0, 0, 0), (20, .putfield 90, 3, .null, 8, 6, 7196, 0), (23, .aload_n 0, 1, .null, 0, 0, 0, 0), (24, .sipush 16384, 3, .null, 0, 0, 0, 0),
  (27, .newarray .int, 2, .null, 0, 0, 0, 0), (29, .putfield 93, 3, .null, 8, 7, 7197, 0), (32, .return_, 1, .null, 0, 0, 0, 0)]
def ar_112 : List ai_R := [(0, .aload_n 0, 1, .null, 0, 0, 0, 0), (1, .invokevirtual 82, 3, .null, 0, 109, 10064, 0), (4, .aload_n 0, 1, .null, 0, 0, 0, 0), (5, .invokevirtual 96, 3, .null, 0, 111, 10170, 0),
  (8, .aload_n 0, 1, .null, 0, 0, 0, 0), (9, .getfield 90, 3, .null, 8, 6, 7196, 0), (12, .iconst 0, 1, .null, 0, 0, 0, 0), (13, .invokestatic 99, 3, .null, 1, 292, 10174, 0),
  (16, .aload_n 0, 1, .null, 0, 0, 0, 0), (17, .getfield 90, 3, .null, 8, 6, 7196, 0), (20, .iconst 0, 1, .null, 0, 0, 0, 0), (21, .iconst 1, 1, .null, 0, 0, 0, 0),
  (22, .iastore, 1, .null, 0, 0, 0, 0), (23, .iconst 0, 1, .null, 0, 0, 0, 0), (24, .istore_n 2, 1, .null, 0, 0, 0, 0), (25, .iload_n 2, 1, .null, 0, 0, 0, 0),
  (26, .iload_n 1, 1, .null, 0, 0, 0, 0), (27, .if_icmp .ge 13, 3, .null, 22, 0, 0, 0), (30, .aload_n 0, 1, .null, 0, 0, 0, 0), (31, .invokevirtual 105, 3, .null, 0, 113, 10175, 0),
  (34, .iinc 2 1, 3, .null, 0, 0, 0, 0), (37, .goto (-12), 3, .null, 15, 0, 0, 0), (40, .iconst 0, 1, .null, 0, 0, 0, 0), (41, .istore_n 2, 1, .null, 0, 0, 0, 0),
  (42, .iconst 0, 1, .null, 0, 0, 0, 0), (43, .istore_n 3, 1, .null, 0, 0, 0, 0), (44, .iload_n 3, 1, .null, 0, 0, 0, 0), (45, .aload_n 0, 1, .null, 0, 0, 0, 0),
  (46, .getfield 22, 3, .null, 8, 1, 7191, 0), (49, .invokevirtual 69, 3, .null, 0, 97, 10040, 0), (52, .if_icmp .ge 36, 3, .null, 49, 0, 0, 0), (55, .aload_n 0, 1, .null, 0, 0, 0, 0),
  (56, .getfield 22, 3, .null, 8, 1, 7191, 0), (59, .iload_n 3, 1, .null, 0, 0, 0, 0), (60, .invokevirtual 73, 3, .null, 0, 98, 10044, 0), (63, .invokestatic 42, 3, .null, 1, 290, 10020, 0),
  (66, .iconst 1, 1, .null, 0, 0, 0, 0), (67, .if_icmp .ne 15, 3, .null, 47, 0, 0, 0), (70, .iload_n 2, 1, .null, 0, 0, 0, 0), (71, .aload_n 0, 1, .null, 0, 0, 0, 0),
  (72, .getfield 90, 3, .null, 8, 6, 7196, 0), (75, .iload_n 3, 1, .null, 0, 0, 0, 0), (76, .iaload, 1, .null, 0, 0, 0, 0), (77, .iadd, 1, .null, 0, 0, 0, 0),
  (78, .ldc 108, 2, .int (1000000007), 0, 0, 10183, 0), (80, .irem, 1, .null, 0, 0, 0, 0), (81, .istore_n 2, 1, .null, 0, 0, 0, 0), (82, .iinc 3 1, 3, .null, 0, 0, 0, 0),
  (85, .goto (-41), 3, .null, 26, 0, 0, 0), (88, .iload_n 2, 1, .null, 0, 0, 0, 0), (89, .ireturn, 1, .null, 0, 0, 0, 0)]
def ar_113 : List ai_R := [(0, .aload_n 0, 1, .null, 0, 0, 0, 0), (1, .getfield 93, 3, .null, 8, 7, 7197, 0), (4, .iconst 0, 1, .null, 0, 0, 0, 0), (5, .invokestatic 99, 3, .null, 1, 292, 10174, 0),
  (8, .iconst 0, 1, .null, 0, 0, 0, 0), (9, .istore_n 1, 1, .null, 0, 0, 0, 0), (10, .iload_n 1, 1, .null, 0, 0, 0, 0), (11, .aload_n 0, 1, .null, 0, 0, 0, 0),
  (12, .getfield 22, 3, .null, 8, 1, 7191, 0), (15, .invokevirtual 69, 3, .null, 0, 97, 10040, 0), (18, .if_icmp .ge 85, 3, .null, 56, 0, 0, 0), (21, .iconst 0, 1, .null, 0, 0, 0, 0),
  (22, .istore_n 2, 1, .null, 0, 0, 0, 0), (23, .iload_n 2, 1, .null, 0, 0, 0, 0), (24, .aload_n 0, 1, .null, 0, 0, 0, 0), (25, .getfield 18, 3, .null, 8, 0, 7190, 0),
  (28, .getfield 26, 3, .null, 2, 1, 7075, 0), (31, .if_icmp .ge 66, 3, .null, 54, 0, 0, 0), (34, .aload_n 0, 1, .null, 0, 0, 0, 0), (35, .getfield 90, 3, .null, 8, 6, 7196, 0),
  (38, .iload_n 1, 1, .null, 0, 0, 0, 0), (39, .iaload, 1, .null, 0, 0, 0, 0), (40, .ifCond .eq 57, 3, .null, 54, 0, 0, 0), (43, .aload_n 0, 1, .null, 0, 0, 0, 0),
  (44, .getfield 22, 3, .null, 8, 1, 7191, 0), (47, .aload_n 0, 1, .null, 0, 0, 0, 0), (48, .aload_n 0, 1, .null, 0, 0, 0, 0), (49, .getfield 22, 3, .null, 8, 1, 7191, 0),
  (52, .iload_n 1, 1, .null, 0, 0, 0, 0), (53, .invokevirtual 73, 3, .null, 0, 98, 10044, 0), (56, .iload_n 2, 1, .null, 0, 0, 0, 0), (57, .invokevirtual 76, 3, .null, 0, 105, 10048, 0),
  (60, .invokevirtual 109, 3, .null, 0, 100, 10179, 0), (63, .istore_n 3, 1, .null, 0, 0, 0, 0), (64, .iload_n 3, 1, .null, 0, 0, 0, 0), (65, .iconst (-1), 1, .null, 0, 0, 0, 0),
  (66, .if_icmp .eq 25, 3, .null, 52, 0, 0, 0), (69, .aload_n 0, 1, .null, 0, 0, 0, 0), (70, .getfield 93, 3, .null, 8, 7, 7197, 0), (73, .iload_n 3, 1, .null, 0, 0, 0, 0),
  (74, .aload_n 0, 1, .null, 0, 0, 0, 0), (75, .getfield 93, 3, .null, 8, 7, 7197, 0), (78, .iload_n 3, 1, .null, 0, 0, 0, 0), (79, .iaload, 1, .null, 0, 0, 0, 0),
  (80, .aload_n 0, 1, .null, 0, 0, 0, 0), (81, .getfield 90, 3, .null, 8, 6, 7196, 0), (84, .iload_n 1, 1, .null, 0, 0, 0, 0), (85, .iaload, 1, .null, 0, 0, 0, 0),
  (86, .iadd, 1, .null, 0, 0, 0, 0), (87, .ldc 108, 2, .int (1000000007), 0, 0, 10183, 0), (89, .irem, 1, .null, 0, 0, 0, 0), (90, .iastore, 1, .null, 0, 0, 0, 0),
  (91, .iinc 2 1, 3, .null, 0, 0, 0, 0), (94, .goto (-71), 3, .null, 13, 0, 0, 0), (97, .iinc 1 1, 3, .null, 0, 0, 0, 0), (100, .goto (-90), 3, .null, 6, 0, 0, 0),
  (103, .aload_n 0, 1, .null, 0, 0, 0, 0), (104, .getfield 93, 3, .null, 8, 7, 7197, 0), (107, .iconst 0, 1, .null, 0, 0, 0, 0), (108, .aload_n 0, 1, .null, 0, 0, 0, 0),
  (109, .getfield 90, 3, .null, 8, 6, 7196, 0), (112, .iconst 0, 1, .null, 0, 0, 0, 0), (113, .aload_n 0, 1, .null, 0, 0, 0, 0), (114, .getfield 22, 3, .null, 8, 1, 7191, 0),
  (117, .invokevirtual 69, 3, .null, 0, 97, 10040, 0), (120, .invokestatic 112, 3, .null, 5, 0, 10184, 0), (123, .return_, 1, .null, 0, 0, 0, 0)]
def ar_114 : List ai_R := [(0, .aload_n 0, 1, .null, 0, 0, 0, 0), (1, .iconst 0, 1, .null, 0, 0, 0, 0), (2, .invokevirtual 48, 3, .null, 0, 104, 9235, 0), (5, .aload_n 0, 1, .null, 0, 0, 0, 0),
  (6, .invokevirtual 118, 3, .null, 0, 116, 10235, 0), (9, .aload_n 0, 1, .null, 0, 0, 0, 0), (10, .getfield 22, 3, .null, 8, 1, 7191, 0), (13, .invokevirtual 52, 3, .null, 0, 96, 10001, 0),
  (16, .aload_n 0, 1, .null, 0, 0, 0, 0), (17, .iload_n 1, 1, .null, 0, 0, 0, 0), (18, .iconst (-1), 1, .null, 0, 0, 0, 0), (19, .iconst 0, 1, .null, 0, 0, 0, 0),
  (20, .invokevirtual 121, 3, .null, 0, 117, 11000, 0), (23, .aload_n 0, 1, .null, 0, 0, 0, 0), (24, .getfield 22, 3, .null, 8, 1, 7191, 0), (27, .invokevirtual 69, 3, .null, 0, 97, 10040, 0),
  (30, .istore_n 2, 1, .null, 0, 0, 0, 0), (31, .iconst 0, 1, .null, 0, 0, 0, 0), (32, .istore_n 3, 1, .null, 0, 0, 0, 0), (33, .iload_n 3, 1, .null, 0, 0, 0, 0),
  (34, .sipush 16384, 3, .null, 0, 0, 0, 0), (37, .if_icmp .ge 62, 3, .null, 49, 0, 0, 0), (40, .iload_n 3, 1, .null, 0, 0, 0, 0), (41, .aload_n 0, 1, .null, 0, 0, 0, 0),
  (42, .getfield 22, 3, .null, 8, 1, 7191, 0), (45, .invokevirtual 69, 3, .null, 0, 97, 10040, 0), (48, .if_icmp .ge 51, 3, .null, 49, 0, 0, 0), (51, .iconst 0, 1, .null, 0, 0, 0, 0),
  (52, .istore 4, 2, .null, 0, 0, 0, 0), (54, .iload 4, 2, .null, 0, 0, 0, 0), (56, .aload_n 0, 1, .null, 0, 0, 0, 0), (57, .getfield 18, 3, .null, 8, 0, 7190, 0),
  (60, .getfield 26, 3, .null, 2, 1, 7075, 0), (63, .if_icmp .ge 30, 3, .null, 47, 0, 0, 0), (66, .aload_n 0, 1, .null, 0, 0, 0, 0), (67, .aload_n 0, 1, .null, 0, 0, 0, 0),
  (68, .aload_n 0, 1, .null, 0, 0, 0, 0), (69, .getfield 22, 3, .null, 8, 1, 7191, 0), (72, .iload_n 3, 1, .null, 0, 0, 0, 0), (73, .invokevirtual 73, 3, .null, 0, 98, 10044, 0),
  (76, .iload 4, 2, .null, 0, 0, 0, 0), (78, .invokevirtual 76, 3, .null, 0, 105, 10048, 0), (81, .iload_n 3, 1, .null, 0, 0, 0, 0), (82, .iload 4, 2, .null, 0, 0, 0, 0),
  (84, .invokevirtual 121, 3, .null, 0, 117, 11000, 0), (87, .iinc 4 1, 3, .null, 0, 0, 0, 0), (90, .goto (-36), 3, .null, 29, 0, 0, 0), (93, .iinc 3 1, 3, .null, 0, 0, 0, 0),
  (96, .goto (-63), 3, .null, 19, 0, 0, 0), (99, .aload_n 0, 1, .null, 0, 0, 0, 0), (100, .invokevirtual 125, 3, .null, 0, 115, 11004, 0), (103, .iload_n 2, 1, .null, 0, 0, 0, 0),
  (104, .ifCond .ne 7, 3, .null, 55, 0, 0, 0), (107, .iconst 0, 1, .null, 0, 0, 0, 0), (108, .goto 4, 3, .null, 56, 0, 0, 0), (111, .iconst (-1), 1, .null, 0, 0, 0, 0),
  (112, .istore_n 3, 1, .null, 0, 0, 0, 0), (113, .iconst 1, 1, .null, 0, 0, 0, 0), (114, .istore 4, 2, .null, 0, 0, 0, 0), (116, .iload 4, 2, .null, 0, 0, 0, 0),
  (118, .bipush 40, 2, .null, 0, 0, 0, 0), (120, .if_icmp .gt 40, 3, .null, 81, 0, 0, 0), (123, .iload_n 3, 1, .null, 0, 0, 0, 0), (124, .iconst (-1), 1, .null, 0, 0, 0, 0),
  (125, .if_icmp .ne 35, 3, .null, 81, 0, 0, 0), (128, .aload_n 0, 1, .null, 0, 0, 0, 0), (129, .iload 4, 2, .null, 0, 0, 0, 0), (131, .invokevirtual 128, 3, .null, 0, 118, 11008, 0),
  (134, .ifCond .ne 5, 3, .null, 71, 0, 0, 0), (137, .iconst (-1), 1, .null, 0, 0, 0, 0), (138, .ireturn, 1, .null, 0, 0, 0, 0), (139, .aload_n 0, 1, .null, 0, 0, 0, 0),
  (140, .iload_n 2, 1, .null, 0, 0, 0, 0), (141, .invokevirtual 132, 3, .null, 0, 120, 11016, 0), (144, .ifCond .eq 8, 3, .null, 77, 0, 0, 0), (147, .iload 4, 2, .null, 0, 0, 0, 0),
  (149, .goto 4, 3, .null, 78, 0, 0, 0), (152, .iconst (-1), 1, .null, 0, 0, 0, 0), (153, .istore_n 3, 1, .null, 0, 0, 0, 0), (154, .iinc 4 1, 3, .null, 0, 0, 0, 0),
  (157, .goto (-41), 3, .null, 59, 0, 0, 0), (160, .iload_n 3, 1, .null, 0, 0, 0, 0), (161, .ireturn, 1, .null, 0, 0, 0, 0)]
def ar_115 : List ai_R := [(0, .aload_n 0, 1, .null, 0, 0, 0, 0), (1, .invokevirtual 96, 3, .null, 0, 111, 10170, 0), (4, .aload_n 0, 1, .null, 0, 0, 0, 0), (5, .getfield 90, 3, .null, 8, 6, 7196, 0),
  (8, .iconst (-1), 1, .null, 0, 0, 0, 0), (9, .invokestatic 99, 3, .null, 1, 292, 10174, 0), (12, .aload_n 0, 1, .null, 0, 0, 0, 0), (13, .getfield 90, 3, .null, 8, 6, 7196, 0),
  (16, .iconst 0, 1, .null, 0, 0, 0, 0), (17, .iconst 0, 1, .null, 0, 0, 0, 0), (18, .iastore, 1, .null, 0, 0, 0, 0), (19, .iconst 0, 1, .null, 0, 0, 0, 0),
  (20, .istore_n 1, 1, .null, 0, 0, 0, 0), (21, .iload_n 1, 1, .null, 0, 0, 0, 0), (22, .bipush 14, 2, .null, 0, 0, 0, 0), (24, .if_icmp .ge 18, 3, .null, 25, 0, 0, 0),
  (27, .aload_n 0, 1, .null, 0, 0, 0, 0), (28, .getfield 90, 3, .null, 8, 6, 7196, 0), (31, .iconst 1, 1, .null, 0, 0, 0, 0), (32, .iload_n 1, 1, .null, 0, 0, 0, 0),
  (33, .ishl, 1, .null, 0, 0, 0, 0), (34, .iconst 0, 1, .null, 0, 0, 0, 0), (35, .iastore, 1, .null, 0, 0, 0, 0), (36, .iinc 1 1, 3, .null, 0, 0, 0, 0),
  (39, .goto (-18), 3, .null, 13, 0, 0, 0), (42, .aload_n 0, 1, .null, 0, 0, 0, 0), (43, .aload_n 0, 1, .null, 0, 0, 0, 0), (44, .getfield 22, 3, .null, 8, 1, 7191, 0),
  (47, .invokevirtual 69, 3, .null, 0, 97, 10040, 0), (50, .putfield 135, 3, .null, 8, 5, 7195, 0), (53, .iconst 0, 1, .null, 0, 0, 0, 0), (54, .istore_n 1, 1, .null, 0, 0, 0, 0),
  (55, .iload_n 1, 1, .null, 0, 0, 0, 0), (56, .aload_n 0, 1, .null, 0, 0, 0, 0), (57, .getfield 135, 3, .null, 8, 5, 7195, 0), (60, .if_icmp .ge 23, 3, .null, 46, 0, 0, 0),
  (63, .aload_n 0, 1, .null, 0, 0, 0, 0), (64, .getfield 93, 3, .null, 8, 7, 7197, 0), (67, .iload_n 1, 1, .null, 0, 0, 0, 0), (68, .aload_n 0, 1, .null, 0, 0, 0, 0),
  (69, .getfield 22, 3, .null, 8, 1, 7191, 0), (72, .iload_n 1, 1, .null, 0, 0, 0, 0), (73, .invokevirtual 73, 3, .null, 0, 98, 10044, 0), (76, .iastore, 1, .null, 0, 0, 0, 0),
  (77, .iinc 1 1, 3, .null, 0, 0, 0, 0), (80, .goto (-25), 3, .null, 32, 0, 0, 0), (83, .return_, 1, .null, 0, 0, 0, 0)]
def ar_116 : List ai_R := [(0, .aload_n 0, 1, .null, 0, 0, 0, 0), (1, .iconst 0, 1, .null, 0, 0, 0, 0), (2, .putfield 138, 3, .null, 8, 4, 7194, 0), (5, .iconst 0, 1, .null, 0, 0, 0, 0),
  (6, .istore_n 1, 1, .null, 0, 0, 0, 0), (7, .iload_n 1, 1, .null, 0, 0, 0, 0), (8, .bipush 10, 2, .null, 0, 0, 0, 0), (10, .if_icmp .ge 76, 3, .null, 49, 0, 0, 0),
  (13, .iconst 0, 1, .null, 0, 0, 0, 0), (14, .istore_n 2, 1, .null, 0, 0, 0, 0), (15, .iconst 0, 1, .null, 0, 0, 0, 0), (16, .istore_n 3, 1, .null, 0, 0, 0, 0),
  (17, .iload_n 3, 1, .null, 0, 0, 0, 0), (18, .aload_n 0, 1, .null, 0, 0, 0, 0), (19, .getfield 18, 3, .null, 8, 0, 7190, 0), (22, .getfield 32, 3, .null, 2, 0, 7067, 0),
  (25, .if_icmp .ge 31, 3, .null, 33, 0, 0, 0), (28, .iload_n 2, 1, .null, 0, 0, 0, 0), (29, .aload_n 0, 1, .null, 0, 0, 0, 0), (30, .getfield 18, 3, .null, 8, 0, 7190, 0),
  (33, .iload_n 3, 1, .null, 0, 0, 0, 0), (34, .invokevirtual 141, 3, .null, 0, 30, 10239, 0), (37, .iload_n 1, 1, .null, 0, 0, 0, 0), (38, .if_icmp .ne 9, 3, .null, 28, 0, 0, 0),
  (41, .iconst 1, 1, .null, 0, 0, 0, 0), (42, .iload_n 3, 1, .null, 0, 0, 0, 0), (43, .ishl, 1, .null, 0, 0, 0, 0), (44, .goto 4, 3, .null, 29, 0, 0, 0),
  (47, .iconst 0, 1, .null, 0, 0, 0, 0), (48, .ior, 1, .null, 0, 0, 0, 0), (49, .istore_n 2, 1, .null, 0, 0, 0, 0), (50, .iinc 3 1, 3, .null, 0, 0, 0, 0),
  (53, .goto (-36), 3, .null, 12, 0, 0, 0), (56, .iload_n 2, 1, .null, 0, 0, 0, 0), (57, .ifCond .eq 23, 3, .null, 47, 0, 0, 0), (60, .aload_n 0, 1, .null, 0, 0, 0, 0),
  (61, .getfield 15, 3, .null, 8, 3, 7193, 0), (64, .aload_n 0, 1, .null, 0, 0, 0, 0), (65, .getfield 138, 3, .null, 8, 4, 7194, 0), (68, .iload_n 2, 1, .null, 0, 0, 0, 0),
  (69, .iastore, 1, .null, 0, 0, 0, 0), (70, .aload_n 0, 1, .null, 0, 0, 0, 0), (71, .dup, 1, .null, 0, 0, 0, 0), (72, .getfield 138, 3, .null, 8, 4, 7194, 0),
  (75, .iconst 1, 1, .null, 0, 0, 0, 0), (76, .iadd, 1, .null, 0, 0, 0, 0), (77, .putfield 138, 3, .null, 8, 4, 7194, 0), (80, .iinc 1 1, 3, .null, 0, 0, 0, 0),
  (83, .goto (-76), 3, .null, 5, 0, 0, 0), (86, .return_, 1, .null, 0, 0, 0, 0)]
def ar_117 : List ai_R := [(0, .iconst 0, 1, .null, 0, 0, 0, 0), (1, .istore 4, 2, .null, 0, 0, 0, 0), (3, .iload 4, 2, .null, 0, 0, 0, 0), (5, .aload_n 0, 1, .null, 0, 0, 0, 0),
  (6, .getfield 138, 3, .null, 8, 4, 7194, 0), (9, .if_icmp .ge 41, 3, .null, 26, 0, 0, 0), (12, .iload_n 1, 1, .null, 0, 0, 0, 0), (13, .aload_n 0, 1, .null, 0, 0, 0, 0),
  (14, .getfield 15, 3, .null, 8, 3, 7193, 0), (17, .iload 4, 2, .null, 0, 0, 0, 0), (19, .iaload, 1, .null, 0, 0, 0, 0), (20, .iand, 1, .null, 0, 0, 0, 0),
  (21, .istore 5, 2, .null, 0, 0, 0, 0), (23, .iload 5, 2, .null, 0, 0, 0, 0), (25, .invokestatic 42, 3, .null, 1, 290, 10020, 0), (28, .iconst 1, 1, .null, 0, 0, 0, 0),
  (29, .if_icmp .le 15, 3, .null, 24, 0, 0, 0), (32, .aload_n 0, 1, .null, 0, 0, 0, 0), (33, .getfield 22, 3, .null, 8, 1, 7191, 0), (36, .iload 5, 2, .null, 0, 0, 0, 0),
  (38, .iload_n 2, 1, .null, 0, 0, 0, 0), (39, .iload_n 3, 1, .null, 0, 0, 0, 0), (40, .invokevirtual 57, 3, .null, 0, 101, 10007, 0), (43, .pop, 1, .null, 0, 0, 0, 0),
  (44, .iinc 4 1, 3, .null, 0, 0, 0, 0), (47, .goto (-44), 3, .null, 2, 0, 0, 0), (50, .return_, 1, .null, 0, 0, 0, 0)]
def ar_118 : List ai_R := [(0, .iconst 0, 1, .null, 0, 0, 0, 0), (1, .istore_n 2, 1, .null, 0, 0, 0, 0), (2, .iconst 0, 1, .null, 0, 0, 0, 0), (3, .istore_n 3, 1, .null, 0, 0, 0, 0),
  (4, .iload_n 3, 1, .null, 0, 0, 0, 0), (5, .aload_n 0, 1, .null, 0, 0, 0, 0), (6, .getfield 135, 3, .null, 8, 5, 7195, 0), (9, .if_icmp .ge 95, 3, .null, 55, 0, 0, 0),
  (12, .aload_n 0, 1, .null, 0, 0, 0, 0), (13, .getfield 93, 3, .null, 8, 7, 7197, 0), (16, .iload_n 3, 1, .null, 0, 0, 0, 0), (17, .iaload, 1, .null, 0, 0, 0, 0),
  (18, .istore 4, 2, .null, 0, 0, 0, 0), (20, .iconst 0, 1, .null, 0, 0, 0, 0), (21, .istore 5, 2, .null, 0, 0, 0, 0), (23, .iload 5, 2, .null, 0, 0, 0, 0),
  (25, .aload_n 0, 1, .null, 0, 0, 0, 0), (26, .getfield 18, 3, .null, 8, 0, 7190, 0), (29, .getfield 26, 3, .null, 2, 1, 7075, 0), (32, .if_icmp .ge 44, 3, .null, 41, 0, 0, 0),
  (35, .aload_n 0, 1, .null, 0, 0, 0, 0), (36, .getfield 90, 3, .null, 8, 6, 7196, 0), (39, .iload 4, 2, .null, 0, 0, 0, 0), (41, .iaload, 1, .null, 0, 0, 0, 0),
  (42, .iconst (-1), 1, .null, 0, 0, 0, 0), (43, .if_icmp .ne 33, 3, .null, 41, 0, 0, 0), (46, .aload_n 0, 1, .null, 0, 0, 0, 0), (47, .aload_n 0, 1, .null, 0, 0, 0, 0),
  (48, .iload 4, 2, .null, 0, 0, 0, 0), (50, .iload 5, 2, .null, 0, 0, 0, 0), (52, .invokevirtual 76, 3, .null, 0, 105, 10048, 0), (55, .iload_n 1, 1, .null, 0, 0, 0, 0),
  (56, .invokevirtual 144, 3, .null, 0, 119, 11012, 0), (59, .ifCond .eq 11, 3, .null, 39, 0, 0, 0), (62, .aload_n 0, 1, .null, 0, 0, 0, 0), (63, .getfield 90, 3, .null, 8, 6, 7196, 0),
  (66, .iload 4, 2, .null, 0, 0, 0, 0), (68, .iload_n 1, 1, .null, 0, 0, 0, 0), (69, .iastore, 1, .null, 0, 0, 0, 0), (70, .iinc 5 1, 3, .null, 0, 0, 0, 0),
  (73, .goto (-50), 3, .null, 15, 0, 0, 0), (76, .aload_n 0, 1, .null, 0, 0, 0, 0), (77, .getfield 90, 3, .null, 8, 6, 7196, 0), (80, .iload 4, 2, .null, 0, 0, 0, 0),
  (82, .iaload, 1, .null, 0, 0, 0, 0), (83, .iconst (-1), 1, .null, 0, 0, 0, 0), (84, .if_icmp .ne 14, 3, .null, 53, 0, 0, 0), (87, .aload_n 0, 1, .null, 0, 0, 0, 0),
  (88, .getfield 93, 3, .null, 8, 7, 7197, 0), (91, .iload_n 2, 1, .null, 0, 0, 0, 0), (92, .iload 4, 2, .null, 0, 0, 0, 0), (94, .iastore, 1, .null, 0, 0, 0, 0),
  (95, .iinc 2 1, 3, .null, 0, 0, 0, 0), (98, .iinc 3 1, 3, .null, 0, 0, 0, 0), (101, .goto (-97), 3, .null, 4, 0, 0, 0), (104, .iload_n 2, 1, .null, 0, 0, 0, 0),
  (105, .aload_n 0, 1, .null, 0, 0, 0, 0), (106, .getfield 135, 3, .null, 8, 5, 7195, 0), (109, .if_icmp .ge 7, 3, .null, 61, 0, 0, 0), (112, .iconst 1, 1, .null, 0, 0, 0, 0),
  (113, .goto 4, 3, .null, 62, 0, 0, 0), (116, .iconst 0, 1, .null, 0, 0, 0, 0), (117, .istore_n 3, 1, .null, 0, 0, 0, 0), (118, .aload_n 0, 1, .null, 0, 0, 0, 0),
  (119, .iload_n 2, 1, .null, 0, 0, 0, 0), (120, .putfield 135, 3, .null, 8, 5, 7195, 0), (123, .iload_n 3, 1, .null, 0, 0, 0, 0), (124, .ireturn, 1, .null, 0, 0, 0, 0)]
def ar_119 : List ai_R := [(0, .iconst 0, 1, .null, 0, 0, 0, 0), (1, .istore_n 3, 1, .null, 0, 0, 0, 0), (2, .iload_n 3, 1, .null, 0, 0, 0, 0), (3, .aload_n 0, 1, .null, 0, 0, 0, 0),
  (4, .getfield 138, 3, .null, 8, 4, 7194, 0), (7, .if_icmp .ge 38, 3, .null, 26, 0, 0, 0), (10, .aload_n 0, 1, .null, 0, 0, 0, 0), (11, .getfield 90, 3, .null, 8, 6, 7196, 0),
  (14, .iload_n 1, 1, .null, 0, 0, 0, 0), (15, .aload_n 0, 1, .null, 0, 0, 0, 0), (16, .getfield 15, 3, .null, 8, 3, 7193, 0), (19, .iload_n 3, 1, .null, 0, 0, 0, 0),
  (20, .iaload, 1, .null, 0, 0, 0, 0), (21, .iand, 1, .null, 0, 0, 0, 0), (22, .iaload, 1, .null, 0, 0, 0, 0), (23, .istore 4, 2, .null, 0, 0, 0, 0),
  (25, .iload 4, 2, .null, 0, 0, 0, 0), (27, .iconst (-1), 1, .null, 0, 0, 0, 0), (28, .if_icmp .eq 9, 3, .null, 22, 0, 0, 0), (31, .iload 4, 2, .null, 0, 0, 0, 0),
  (33, .iload_n 2, 1, .null, 0, 0, 0, 0), (34, .if_icmp .lt 5, 3, .null, 24, 0, 0, 0), (37, .iconst 0, 1, .null, 0, 0, 0, 0), (38, .ireturn, 1, .null, 0, 0, 0, 0),
  (39, .iinc 3 1, 3, .null, 0, 0, 0, 0), (42, .goto (-40), 3, .null, 2, 0, 0, 0), (45, .iconst 1, 1, .null, 0, 0, 0, 0), (46, .ireturn, 1, .null, 0, 0, 0, 0)]
def ar_120 : List ai_R := [(0, .iconst 0, 1, .null, 0, 0, 0, 0), (1, .istore_n 2, 1, .null, 0, 0, 0, 0), (2, .iload_n 2, 1, .null, 0, 0, 0, 0), (3, .iload_n 1, 1, .null, 0, 0, 0, 0),
  (4, .if_icmp .ge 28, 3, .null, 18, 0, 0, 0), (7, .aload_n 0, 1, .null, 0, 0, 0, 0), (8, .getfield 90, 3, .null, 8, 6, 7196, 0), (11, .aload_n 0, 1, .null, 0, 0, 0, 0),
  (12, .getfield 22, 3, .null, 8, 1, 7191, 0), (15, .iload_n 2, 1, .null, 0, 0, 0, 0), (16, .invokevirtual 73, 3, .null, 0, 98, 10044, 0), (19, .iaload, 1, .null, 0, 0, 0, 0),
  (20, .iconst (-1), 1, .null, 0, 0, 0, 0), (21, .if_icmp .ne 5, 3, .null, 16, 0, 0, 0), (24, .iconst 0, 1, .null, 0, 0, 0, 0), (25, .ireturn, 1, .null, 0, 0, 0, 0),
  (26, .iinc 2 1, 3, .null, 0, 0, 0, 0), (29, .goto (-27), 3, .null, 2, 0, 0, 0), (32, .iconst 1, 1, .null, 0, 0, 0, 0), (33, .ireturn, 1, .null, 0, 0, 0, 0)]
def ar_121 : List ai_R := [(0, .aload_n 0, 1, .null, 0, 0, 0, 0), (1, .invokespecial 3, 3, .null, 4, 0, 8025, 0), (4, .aload_n 0, 1, .null, 0, 0, 0, 0), (5, .bipush 84, 2, .null, 0, 0, 0, 0),
  (7, .newarray .int, 2, .null, 0, 0, 0, 0), (9, .putfield 9, 3, .null, 9, 1, 8027, 0), (12, .aload_n 0, 1, .null, 0, 0, 0, 0), (13, .bipush 84, 2, .null, 0, 0, 0, 0),
  (15, .newarray .int, 2, .null, 0, 0, 0, 0), (17, .putfield 15, 3, .null, 9, 2, 8028, 0), (20, .aload_n 0, 1, .null, 0, 0, 0, 0), (21, .bipush 10, 2, .null, 0, 0, 0, 0),
  (23, .newarray .int, 2, .null, 0, 0, 0, 0), (25, .putfield 18, 3, .null, 9, 3, 8029, 0), (28, .aload_n 0, 1, .null, 0, 0, 0, 0), (29, .bipush 14, 2, .null, 0, 0, 0, 0),
  (31, .newarray .int, 2, .null, 0, 0, 0, 0), (33, .putfield 21, 3, .null, 9, 4, 8030, 0), (36, .aload_n 0, 1, .null, 0, 0, 0, 0), (37, .aload_n 1, 1, .null, 0, 0, 0, 0),
  (38, .putfield 24, 3, .null, 9, 0, 8026, 0), (41, .return_, 1, .null, 0, 0, 0, 0)]
def ar_122 : List ai_R := [(0, .aload_n 0, 1, .null, 0, 0, 0, 0), (1, .iload_n 2, 1, .null, 0, 0, 0, 0), (2, .invokevirtual 28, 3, .null, 0, 123, 10193, 0), (5, .iconst 0, 1, .null, 0, 0, 0, 0),
  (6, .istore 4, 2, .null, 0, 0, 0, 0), (8, .iload 4, 2, .null, 0, 0, 0, 0), (10, .aload_n 1, 1, .null, 0, 0, 0, 0), (11, .getfield 32, 3, .null, 6, 0, 7142, 0),
  (14, .if_icmp .ge 21, 3, .null, 18, 0, 0, 0), (17, .aload_n 0, 1, .null, 0, 0, 0, 0), (18, .iconst 0, 1, .null, 0, 0, 0, 0), (19, .iconst 0, 1, .null, 0, 0, 0, 0),
  (20, .aload_n 1, 1, .null, 0, 0, 0, 0), (21, .iload 4, 2, .null, 0, 0, 0, 0), (23, .invokevirtual 38, 3, .null, 0, 90, 10203, 0), (26, .invokevirtual 42, 3, .null, 0, 124, 10204, 0),
  (29, .iinc 4 1, 3, .null, 0, 0, 0, 0), (32, .goto (-24), 3, .null, 5, 0, 0, 0), (35, .aload_n 0, 1, .null, 0, 0, 0, 0), (36, .iconst 0, 1, .null, 0, 0, 0, 0),
  (37, .iload_n 2, 1, .null, 0, 0, 0, 0), (38, .iload_n 3, 1, .null, 0, 0, 0, 0), (39, .invokevirtual 46, 3, .null, 0, 126, 10209, 0), (42, .ireturn, 1, .null, 0, 0, 0, 0)]
def ar_123 : List ai_R := [(0, .iconst 0, 1, .null, 0, 0, 0, 0), (1, .istore_n 2, 1, .null, 0, 0, 0, 0), (2, .iload_n 2, 1, .null, 0, 0, 0, 0), (3, .aload_n 0, 1, .null, 0, 0, 0, 0),
  (4, .getfield 24, 3, .null, 9, 0, 8026, 0), (7, .getfield 50, 3, .null, 2, 0, 7069, 0), (10, .if_icmp .ge 23, 3, .null, 19, 0, 0, 0), (13, .aload_n 0, 1, .null, 0, 0, 0, 0),
  (14, .getfield 9, 3, .null, 9, 1, 8027, 0), (17, .iload_n 2, 1, .null, 0, 0, 0, 0), (18, .iload_n 2, 1, .null, 0, 0, 0, 0), (19, .iastore, 1, .null, 0, 0, 0, 0),
  (20, .aload_n 0, 1, .null, 0, 0, 0, 0), (21, .getfield 15, 3, .null, 9, 2, 8028, 0), (24, .iload_n 2, 1, .null, 0, 0, 0, 0), (25, .iload_n 1, 1, .null, 0, 0, 0, 0),
  (26, .iastore, 1, .null, 0, 0, 0, 0), (27, .iinc 2 1, 3, .null, 0, 0, 0, 0), (30, .goto (-28), 3, .null, 2, 0, 0, 0), (33, .aload_n 0, 1, .null, 0, 0, 0, 0),
  (34, .iconst 0, 1, .null, 0, 0, 0, 0), (35, .invokevirtual 55, 3, .null, 0, 125, 10197, 0), (38, .return_, 1, .null, 0, 0, 0, 0)]
def ar_124 : List ai_R := [(0, .iconst 0, 1, .null, 0, 0, 0, 0), (1, .istore 4, 2, .null, 0, 0, 0, 0), (3, .iload 4, 2, .null, 0, 0, 0, 0), (5, .aload_n 0, 1, .null, 0, 0, 0, 0),
  (6, .getfield 24, 3, .null, 9, 0, 8026, 0), (9, .getfield 50, 3, .null, 2, 0, 7069, 0), (12, .if_icmp .ge 65, 3, .null, 45, 0, 0, 0), (15, .aload_n 0, 1, .null, 0, 0, 0, 0),
  (16, .getfield 9, 3, .null, 9, 1, 8027, 0), (19, .iload_n 2, 1, .null, 0, 0, 0, 0), (20, .bipush 14, 2, .null, 0, 0, 0, 0), (22, .imul, 1, .null, 0, 0, 0, 0),
  (23, .iload 4, 2, .null, 0, 0, 0, 0), (25, .iadd, 1, .null, 0, 0, 0, 0), (26, .aload_n 0, 1, .null, 0, 0, 0, 0), (27, .getfield 24, 3, .null, 9, 0, 8026, 0),
  (30, .aload_n 0, 1, .null, 0, 0, 0, 0), (31, .getfield 9, 3, .null, 9, 1, 8027, 0), (34, .iload_n 1, 1, .null, 0, 0, 0, 0), (35, .bipush 14, 2, .null, 0, 0, 0, 0),
  (37, .imul, 1, .null, 0, 0, 0, 0), (38, .iload 4, 2, .null, 0, 0, 0, 0), (40, .iadd, 1, .null, 0, 0, 0, 0), (41, .iaload, 1, .null, 0, 0, 0, 0),
  (42, .iload_n 3, 1, .null, 0, 0, 0, 0), (43, .invokevirtual 58, 3, .null, 0, 27, 10208, 0), (46, .iastore, 1, .null, 0, 0, 0, 0), (47, .aload_n 0, 1, .null, 0, 0, 0, 0),
  (48, .getfield 15, 3, .null, 9, 2, 8028, 0), (51, .iload_n 2, 1, .null, 0, 0, 0, 0), (52, .bipush 14, 2, .null, 0, 0, 0, 0), (54, .imul, 1, .null, 0, 0, 0, 0),
  (55, .iload 4, 2, .null, 0, 0, 0, 0), (57, .iadd, 1, .null, 0, 0, 0, 0), (58, .aload_n 0, 1, .null, 0, 0, 0, 0), (59, .getfield 15, 3, .null, 9, 2, 8028, 0),
  (62, .iload_n 1, 1, .null, 0, 0, 0, 0), (63, .bipush 14, 2, .null, 0, 0, 0, 0), (65, .imul, 1, .null, 0, 0, 0, 0), (66, .iload 4, 2, .null, 0, 0, 0, 0),
  (68, .iadd, 1, .null, 0, 0, 0, 0), (69, .iaload, 1, .null, 0, 0, 0, 0), (70, .iastore, 1, .null, 0, 0, 0, 0), (71, .iinc 4 1, 3, .null, 0, 0, 0, 0),
  (74, .goto (-71), 3, .null, 2, 0, 0, 0), (77, .aload_n 0, 1, .null, 0, 0, 0, 0), (78, .iload_n 2, 1, .null, 0, 0, 0, 0), (79, .invokevirtual 55, 3, .null, 0, 125, 10197, 0),
  (82, .return_, 1, .null, 0, 0, 0, 0)]
def ar_125 : List ai_R := [(0, .aload_n 0, 1, .null, 0, 0, 0, 0), (1, .getfield 18, 3, .null, 9, 3, 8029, 0), (4, .iconst 0, 1, .null, 0, 0, 0, 0), (5, .invokestatic 62, 3, .null, 1, 292, 10201, 0),
  (8, .iconst 0, 1, .null, 0, 0, 0, 0), (9, .istore_n 2, 1, .null, 0, 0, 0, 0), (10, .iload_n 2, 1, .null, 0, 0, 0, 0), (11, .aload_n 0, 1, .null, 0, 0, 0, 0),
  (12, .getfield 24, 3, .null, 9, 0, 8026, 0), (15, .getfield 50, 3, .null, 2, 0, 7069, 0), (18, .if_icmp .ge 38, 3, .null, 33, 0, 0, 0), (21, .aload_n 0, 1, .null, 0, 0, 0, 0),
  (22, .getfield 18, 3, .null, 9, 3, 8029, 0), (25, .aload_n 0, 1, .null, 0, 0, 0, 0), (26, .getfield 24, 3, .null, 9, 0, 8026, 0), (29, .aload_n 0, 1, .null, 0, 0, 0, 0),
  (30, .getfield 9, 3, .null, 9, 1, 8027, 0), (33, .iload_n 1, 1, .null, 0, 0, 0, 0), (34, .bipush 14, 2, .null, 0, 0, 0, 0), (36, .imul, 1, .null, 0, 0, 0, 0),
  (37, .iload_n 2, 1, .null, 0, 0, 0, 0), (38, .iadd, 1, .null, 0, 0, 0, 0), (39, .iaload, 1, .null, 0, 0, 0, 0), (40, .invokevirtual 68, 3, .null, 0, 30, 10202, 0),
  (43, .dup2, 1, .null, 0, 0, 0, 0), (44, .iaload, 1, .null, 0, 0, 0, 0), (45, .iconst 1, 1, .null, 0, 0, 0, 0), (46, .iload_n 2, 1, .null, 0, 0, 0, 0),
  (47, .ishl, 1, .null, 0, 0, 0, 0), (48, .ior, 1, .null, 0, 0, 0, 0), (49, .iastore, 1, .null, 0, 0, 0, 0), (50, .iinc 2 1, 3, .null, 0, 0, 0, 0),
  (53, .goto (-43), 3, .null, 6, 0, 0, 0), (56, .iconst 0, 1, .null, 0, 0, 0, 0), (57, .istore_n 2, 1, .null, 0, 0, 0, 0), (58, .iload_n 2, 1, .null, 0, 0, 0, 0),
  (59, .aload_n 0, 1, .null, 0, 0, 0, 0), (60, .getfield 24, 3, .null, 9, 0, 8026, 0), (63, .getfield 50, 3, .null, 2, 0, 7069, 0), (66, .if_icmp .ge 46, 3, .null, 67, 0, 0, 0),
  (69, .aload_n 0, 1, .null, 0, 0, 0, 0), (70, .getfield 15, 3, .null, 9, 2, 8028, 0), (73, .iload_n 1, 1, .null, 0, 0, 0, 0), (74, .bipush 14, 2, .null, 0, 0, 0, 0),
  (76, .imul, 1, .null, 0, 0, 0, 0), (77, .iload_n 2, 1, .null, 0, 0, 0, 0), (78, .iadd, 1, .null, 0, 0, 0, 0), (79, .dup2, 1, .null, 0, 0, 0, 0),
  (80, .iaload, 1, .null, 0, 0, 0, 0), (81, .aload_n 0, 1, .null, 0, 0, 0, 0), (82, .getfield 18, 3, .null, 9, 3, 8029, 0), (85, .aload_n 0, 1, .null, 0, 0, 0, 0),
  (86, .getfield 24, 3, .null, 9, 0, 8026, 0), (89, .aload_n 0, 1, .null, 0, 0, 0, 0), (90, .getfield 9, 3, .null, 9, 1, 8027, 0), (93, .iload_n 1, 1, .null, 0, 0, 0, 0),
  (94, .bipush 14, 2, .null, 0, 0, 0, 0), (96, .imul, 1, .null, 0, 0, 0, 0), (97, .iload_n 2, 1, .null, 0, 0, 0, 0), (98, .iadd, 1, .null, 0, 0, 0, 0),
  (99, .iaload, 1, .null, 0, 0, 0, 0), (100, .invokevirtual 68, 3, .null, 0, 30, 10202, 0), (103, .iaload, 1, .null, 0, 0, 0, 0), (104, .iand, 1, .null, 0, 0, 0, 0),
  (105, .iastore, 1, .null, 0, 0, 0, 0), (106, .iinc 2 1, 3, .null, 0, 0, 0, 0), (109, .goto (-51), 3, .null, 35, 0, 0, 0), (112, .return_, 1, .null, 0, 0, 0, 0)]
def ar_126 : List ai_R := [(0, .aload_n 0, 1, .null, 0, 0, 0, 0), (1, .getfield 21, 3, .null, 9, 4, 8030, 0), (4, .iconst 0, 1, .null, 0, 0, 0, 0), (5, .invokestatic 62, 3, .null, 1, 292, 10201, 0),
  (8, .iconst 0, 1, .null, 0, 0, 0, 0), (9, .istore 4, 2, .null, 0, 0, 0, 0), (11, .iload 4, 2, .null, 0, 0, 0, 0), (13, .aload_n 0, 1, .null, 0, 0, 0, 0),
  (14, .getfield 24, 3, .null, 9, 0, 8026, 0), (17, .getfield 50, 3, .null, 2, 0, 7069, 0), (20, .if_icmp .ge 37, 3, .null, 32, 0, 0, 0), (23, .iload_n 3, 1, .null, 0, 0, 0, 0),
  (24, .ifCond .eq 33, 3, .null, 32, 0, 0, 0), (27, .aload_n 0, 1, .null, 0, 0, 0, 0), (28, .getfield 21, 3, .null, 9, 4, 8030, 0), (31, .aload_n 0, 1, .null, 0, 0, 0, 0),
  (32, .getfield 9, 3, .null, 9, 1, 8027, 0), (35, .iload_n 1, 1, .null, 0, 0, 0, 0), (36, .bipush 14, 2, .null, 0, 0, 0, 0), (38, .imul, 1, .null, 0, 0, 0, 0),
  (39, .iload 4, 2, .null, 0, 0, 0, 0), (41, .iadd, 1, .null, 0, 0, 0, 0), (42, .iaload, 1, .null, 0, 0, 0, 0), (43, .dup2, 1, .null, 0, 0, 0, 0),
  (44, .iaload, 1, .null, 0, 0, 0, 0), (45, .iconst 1, 1, .null, 0, 0, 0, 0), (46, .iload 4, 2, .null, 0, 0, 0, 0), (48, .ishl, 1, .null, 0, 0, 0, 0),
  (49, .ior, 1, .null, 0, 0, 0, 0), (50, .iastore, 1, .null, 0, 0, 0, 0), (51, .iinc 4 1, 3, .null, 0, 0, 0, 0), (54, .goto (-43), 3, .null, 6, 0, 0, 0),
  (57, .iconst 0, 1, .null, 0, 0, 0, 0), (58, .istore 4, 2, .null, 0, 0, 0, 0), (60, .iconst 0, 1, .null, 0, 0, 0, 0), (61, .istore 5, 2, .null, 0, 0, 0, 0),
  (63, .iload 5, 2, .null, 0, 0, 0, 0), (65, .aload_n 0, 1, .null, 0, 0, 0, 0), (66, .getfield 24, 3, .null, 9, 0, 8026, 0), (69, .getfield 50, 3, .null, 2, 0, 7069, 0),
  (72, .if_icmp .ge 71, 3, .null, 83, 0, 0, 0), (75, .aload_n 0, 1, .null, 0, 0, 0, 0), (76, .getfield 15, 3, .null, 9, 2, 8028, 0), (79, .iload_n 1, 1, .null, 0, 0, 0, 0),
  (80, .bipush 14, 2, .null, 0, 0, 0, 0), (82, .imul, 1, .null, 0, 0, 0, 0), (83, .iload 5, 2, .null, 0, 0, 0, 0), (85, .iadd, 1, .null, 0, 0, 0, 0),
  (86, .iaload, 1, .null, 0, 0, 0, 0), (87, .iconst 1, 1, .null, 0, 0, 0, 0), (88, .iload 5, 2, .null, 0, 0, 0, 0), (90, .ishl, 1, .null, 0, 0, 0, 0),
  (91, .iconst (-1), 1, .null, 0, 0, 0, 0), (92, .ixor, 1, .null, 0, 0, 0, 0), (93, .iand, 1, .null, 0, 0, 0, 0), (94, .istore 6, 2, .null, 0, 0, 0, 0),
  (96, .iload 6, 2, .null, 0, 0, 0, 0), (98, .aload_n 0, 1, .null, 0, 0, 0, 0), (99, .getfield 21, 3, .null, 9, 4, 8030, 0), (102, .aload_n 0, 1, .null, 0, 0, 0, 0),
  (103, .getfield 9, 3, .null, 9, 1, 8027, 0), (106, .iload_n 1, 1, .null, 0, 0, 0, 0), (107, .bipush 14, 2, .null, 0, 0, 0, 0), (109, .imul, 1, .null, 0, 0, 0, 0),
  (110, .iload 5, 2, .null, 0, 0, 0, 0), (112, .iadd, 1, .null, 0, 0, 0, 0), (113, .iaload, 1, .null, 0, 0, 0, 0), (114, .iaload, 1, .null, 0, 0, 0, 0),
  (115, .iconst (-1), 1, .null, 0, 0, 0, 0), (116, .ixor, 1, .null, 0, 0, 0, 0), (117, .iand, 1, .null, 0, 0, 0, 0), (118, .istore 6, 2, .null, 0, 0, 0, 0),
  (120, .iload_n 2, 1, .null, 0, 0, 0, 0), (121, .iload 5, 2, .null, 0, 0, 0, 0), (123, .iushr, 1, .null, 0, 0, 0, 0), (124, .iconst 1, 1, .null, 0, 0, 0, 0),
  (125, .iand, 1, .null, 0, 0, 0, 0), (126, .ifCond .eq 11, 3, .null, 81, 0, 0, 0), (129, .iload 6, 2, .null, 0, 0, 0, 0), (131, .ifCond .eq 6, 3, .null, 81, 0, 0, 0),
  (134, .iinc 4 1, 3, .null, 0, 0, 0, 0), (137, .iinc 5 1, 3, .null, 0, 0, 0, 0), (140, .goto (-77), 3, .null, 36, 0, 0, 0), (143, .iload 4, 2, .null, 0, 0, 0, 0),
  (145, .ireturn, 1, .null, 0, 0, 0, 0)]
def ar_127 : List ai_R := [(0, .aload_n 0, 1, .null, 0, 0, 0, 0), (1, .iload_n 1, 1, .null, 0, 0, 0, 0), (2, .invokevirtual 28, 3, .null, 0, 123, 10193, 0), (5, .bipush 15, 2, .null, 0, 0, 0, 0),
  (7, .istore 5, 2, .null, 0, 0, 0, 0), (9, .iconst 0, 1, .null, 0, 0, 0, 0), (10, .istore 6, 2, .null, 0, 0, 0, 0), (12, .iload 6, 2, .null, 0, 0, 0, 0),
  (14, .iconst 5, 1, .null, 0, 0, 0, 0), (15, .if_icmp .gt 124, 3, .null, 67, 0, 0, 0), (18, .iload 5, 2, .null, 0, 0, 0, 0), (20, .ifCond .le 119, 3, .null, 67, 0, 0, 0),
  (23, .aload_n 3, 1, .null, 0, 0, 0, 0), (24, .iload 6, 2, .null, 0, 0, 0, 0), (26, .invokevirtual 71, 3, .null, 0, 93, 10221, 0), (29, .iconst 0, 1, .null, 0, 0, 0, 0),
  (30, .istore 7, 2, .null, 0, 0, 0, 0), (32, .iconst 0, 1, .null, 0, 0, 0, 0), (33, .istore 8, 2, .null, 0, 0, 0, 0), (35, .iload 8, 2, .null, 0, 0, 0, 0),
  (37, .sipush 10000, 3, .null, 0, 0, 0, 0), (40, .if_icmp .ge 93, 3, .null, 65, 0, 0, 0), (43, .iload 7, 2, .null, 0, 0, 0, 0), (45, .iconst (-1), 1, .null, 0, 0, 0, 0),
  (46, .if_icmp .eq 87, 3, .null, 65, 0, 0, 0), (49, .iload 5, 2, .null, 0, 0, 0, 0), (51, .ifCond .le 82, 3, .null, 65, 0, 0, 0), (54, .iload 7, 2, .null, 0, 0, 0, 0),
  (56, .istore 9, 2, .null, 0, 0, 0, 0), (58, .iload 9, 2, .null, 0, 0, 0, 0), (60, .iload 6, 2, .null, 0, 0, 0, 0), (62, .if_icmp .ge 25, 3, .null, 43, 0, 0, 0),
  (65, .aload_n 0, 1, .null, 0, 0, 0, 0), (66, .iload 9, 2, .null, 0, 0, 0, 0), (68, .iload 9, 2, .null, 0, 0, 0, 0), (70, .iconst 1, 1, .null, 0, 0, 0, 0),
  (71, .iadd, 1, .null, 0, 0, 0, 0), (72, .aload_n 3, 1, .null, 0, 0, 0, 0), (73, .iload 9, 2, .null, 0, 0, 0, 0), (75, .invokevirtual 38, 3, .null, 0, 90, 10203, 0),
  (78, .invokevirtual 42, 3, .null, 0, 124, 10204, 0), (81, .iinc 9 1, 3, .null, 0, 0, 0, 0), (84, .goto (-26), 3, .null, 29, 0, 0, 0), (87, .aload_n 0, 1, .null, 0, 0, 0, 0),
  (88, .iload 6, 2, .null, 0, 0, 0, 0), (90, .iload_n 1, 1, .null, 0, 0, 0, 0), (91, .iload_n 2, 1, .null, 0, 0, 0, 0), (92, .invokevirtual 46, 3, .null, 0, 126, 10209, 0),
  (95, .istore 9, 2, .null, 0, 0, 0, 0), (97, .iload 9, 2, .null, 0, 0, 0, 0), (99, .iload 5, 2, .null, 0, 0, 0, 0), (101, .if_icmp .ge 13, 3, .null, 57, 0, 0, 0),
  (104, .iload 9, 2, .null, 0, 0, 0, 0), (106, .istore 5, 2, .null, 0, 0, 0, 0), (108, .aload 4, 2, .null, 0, 0, 0, 0), (110, .aload_n 3, 1, .null, 0, 0, 0, 0),
  (111, .invokevirtual 74, 3, .null, 0, 92, 10222, 0), (114, .aload_n 3, 1, .null, 0, 0, 0, 0), (115, .aload_n 0, 1, .null, 0, 0, 0, 0), (116, .getfield 24, 3, .null, 9, 0, 8026, 0),
  (119, .getfield 78, 3, .null, 2, 1, 7078, 0), (122, .invokevirtual 81, 3, .null, 0, 94, 10223, 0), (125, .istore 7, 2, .null, 0, 0, 0, 0), (127, .iinc 8 1, 3, .null, 0, 0, 0, 0),
  (130, .goto (-95), 3, .null, 19, 0, 0, 0), (133, .iinc 6 1, 3, .null, 0, 0, 0, 0), (136, .goto (-124), 3, .null, 7, 0, 0, 0), (139, .iload 5, 2, .null, 0, 0, 0, 0),
  (141, .ireturn, 1, .null, 0, 0, 0, 0)]
def ar_128 : List ai_R := [(0, .aload_n 0, 1, .null, 0, 0, 0, 0), (1, .invokespecial 3, 3, .null, 4, 0, 7026, 0), (4, .aload_n 0, 1, .null, 0, 0, 0, 0), (5, .sipush 600, 3, .null, 0, 0, 0, 0),
  (8, .newarray .int, 2, .null, 0, 0, 0, 0), (10, .putfield 9, 3, .null, 10, 0, 8074, 0), (13, .aload_n 0, 1, .null, 0, 0, 0, 0), (14, .new 13, 3, .null, 5, 0, 7029, 0),
  (17, .dup, 1, .null, 0, 0, 0, 0), (18, .invokespecial 15, 3, .null, 3, 68, 141, 0), (21, .putfield 16, 3, .null, 10, 2, 8076, 0), (24, .aload_n 0, 1, .null, 0, 0, 0, 0),
  (25, .new 20, 3, .null, 2, 0, 7060, 0), (28, .dup, 1, .null, 0, 0, 0, 0), (29, .invokespecial 22, 3, .null, 3, 20, 172, 0), (32, .putfield 23, 3, .null, 10, 3, 8077, 0),
  (35, .aload_n 0, 1, .null, 0, 0, 0, 0), (36, .new 20, 3, .null, 2, 0, 7060, 0), (39, .dup, 1, .null, 0, 0, 0, 0), (40, .invokespecial 22, 3, .null, 3, 20, 172, 0),
  (43, .putfield 27, 3, .null, 10, 4, 8078, 0), (46, .aload_n 0, 1, .null, 0, 0, 0, 0), (47, .new 30, 3, .null, 6, 0, 7135, 0), (50, .dup, 1, .null, 0, 0, 0, 0),
  (51, .invokespecial 32, 3, .null, 3, 86, 247, 0), (54, .putfield 33, 3, .null, 10, 5, 8079, 0), (57, .aload_n 0, 1, .null, 0, 0, 0, 0), (58, .new 30, 3, .null, 6, 0, 7135, 0),
  (61, .dup, 1, .null, 0, 0, 0, 0), (62, .invokespecial 32, 3, .null, 3, 86, 247, 0), (65, .putfield 37, 3, .null, 10, 6, 8080, 0), (68, .aload_n 0, 1, .null, 0, 0, 0, 0),
  (69, .iconst 4, 1, .null, 0, 0, 0, 0), (70, .anewarray 40, 3, .null, 3, 0, 7151, 0), (73, .putfield 42, 3, .null, 10, 7, 8081, 0), (76, .aload_n 0, 1, .null, 0, 0, 0, 0),
  (77, .iconst 2, 1, .null, 0, 0, 0, 0), (78, .anewarray 20, 3, .null, 4, 0, 7060, 0), (81, .putfield 46, 3, .null, 10, 8, 8082, 0), (84, .aload_n 0, 1, .null, 0, 0, 0, 0),
  (85, .iconst 2, 1, .null, 0, 0, 0, 0), (86, .anewarray 30, 3, .null, 5, 0, 7135, 0), (89, .putfield 50, 3, .null, 10, 9, 8083, 0), (92, .aload_n 0, 1, .null, 0, 0, 0, 0),
  (93, .new 54, 3, .null, 7, 0, 7155, 0), (96, .dup, 1, .null, 0, 0, 0, 0), (97, .sipush 16384, 3, .null, 0, 0, 0, 0), (100, .sipush 16384, 3, .null, 0, 0, 0, 0),
  (103, .invokespecial 56, 3, .null, 2, 95, 7157, 0), (106, .putfield 59, 3, .null, 10, 10, 8084, 0), (109, .aload_n 0, 1, .null, 0, 0, 0, 0), (110, .new 54, 3, .null, 7, 0, 7155, 0),
  (113, .dup, 1, .null, 0, 0, 0, 0), (114, .sipush 30001, 3, .null, 0, 0, 0, 0), (117, .ldc 63, 2, .int (65536), 0, 0, 7183, 0), (119, .invokespecial 56, 3, .null, 2, 95, 7157, 0),
  (122, .putfield 64, 3, .null, 10, 11, 8085, 0), (125, .aload_n 0, 1, .null, 0, 0, 0, 0), (126, .new 67, 3, .null, 8, 0, 7184, 0), (129, .dup, 1, .null, 0, 0, 0, 0),
  (130, .aload_n 0, 1, .null, 0, 0, 0, 0), (131, .getfield 23, 3, .null, 10, 3, 8077, 0), (134, .aload_n 0, 1, .null, 0, 0, 0, 0), (135, .getfield 59, 3, .null, 10, 10, 8084, 0),
  (138, .invokespecial 69, 3, .null, 2, 103, 7186, 0), (141, .putfield 72, 3, .null, 10, 12, 8086, 0), (144, .aload_n 0, 1, .null, 0, 0, 0, 0), (145, .new 76, 3, .null, 4, 0, 7215, 0),
  (148, .dup, 1, .null, 0, 0, 0, 0), (149, .invokespecial 78, 3, .null, 3, 49, 327, 0), (152, .putfield 79, 3, .null, 10, 13, 8087, 0), (155, .aload_n 0, 1, .null, 0, 0, 0, 0),
  (156, .new 83, 3, .null, 1, 0, 7238, 0), (159, .dup, 1, .null, 0, 0, 0, 0), (160, .aload_n 0, 1, .null, 0, 0, 0, 0), (161, .getfield 23, 3, .null, 10, 3, 8077, 0),
  (164, .aload_n 0, 1, .null, 0, 0, 0, 0), (165, .getfield 59, 3, .null, 10, 10, 8084, 0), (168, .invokespecial 85, 3, .null, 2, 5, 8000, 0), (171, .putfield 86, 3, .null, 10, 14, 8088, 0),
  (174, .aload_n 0, 1, .null, 0, 0, 0, 0), (175, .new 90, 3, .null, 9, 0, 8020, 0), (178, .dup, 1, .null, 0, 0, 0, 0), (179, .aload_n 0, 1, .null, 0, 0, 0, 0),
  (180, .getfield 23, 3, .null, 10, 3, 8077, 0), (183, .invokespecial 92, 3, .null, 2, 121, 8022, 0), (186, .putfield 95, 3, .null, 10, 15, 8089, 0), (189, .aload_n 0, 1, .null, 0, 0, 0, 0),
  (190, .new 99, 3, .null, 0, 0, 8042, 0), (193, .dup, 1, .null, 0, 0, 0, 0), (194, .aload_n 0, 1, .null, 0, 0, 0, 0), (195, .getfield 23, 3, .null, 10, 3, 8077, 0),
  (198, .invokespecial 101, 3, .null, 2, 0, 8044, 0), (201, .putfield 102, 3, .null, 10, 16, 8090, 0), (204, .iconst 0, 1, .null, 0, 0, 0, 0), (205, .istore_n 1, 1, .null, 0, 0, 0, 0),
  (206, .iload_n 1, 1, .null, 0, 0, 0, 0), (207, .iconst 4, 1, .null, 0, 0, 0, 0), (208, .if_icmp .ge 22, 3, .null, 108, 0, 0, 0), (211, .aload_n 0, 1, .null, 0, 0, 0, 0),
  (212, .getfield 42, 3, .null, 10, 7, 8081, 0), (215, .iload_n 1, 1, .null, 0, 0, 0, 0), (216, .new 40, 3, .null, 3, 0, 7151, 0), (219, .dup, 1, .null, 0, 0, 0, 0),
  (220, .invokespecial 106, 3, .null, 3, 42, 409, 0), (223, .aastore, 1, .null, 0, 0, 0, 0), (224, .iinc 1 1, 3, .null, 0, 0, 0, 0), (227, .goto (-21), 3, .null, 96, 0, 0, 0),
  (230, .return_, 1, .null, 0, 0, 0, 0)]
def ar_129 : List ai_R := [(0, .aload_n 0, 1, .null, 0, 0, 0, 0), (1, .getfield 107, 3, .null, 10, 1, 8075, 0), (4, .bipush 20, 2, .null, 0, 0, 0, 0), (6, .iadd, 1, .null, 0, 0, 0, 0),
  (7, .sipush 600, 3, .null, 0, 0, 0, 0), (10, .if_icmp .le 6, 3, .null, 8, 0, 0, 0), (13, .bipush (-5), 2, .null, 0, 0, 0, 0), (15, .ireturn, 1, .null, 0, 0, 0, 0),
  (16, .aload_n 0, 1, .null, 0, 0, 0, 0), (17, .iload_n 1, 1, .null, 0, 0, 0, 0), (18, .invokevirtual 111, 3, .null, 0, 130, 8130, 0), (21, .aload_n 0, 1, .null, 0, 0, 0, 0),
  (22, .iload_n 2, 1, .null, 0, 0, 0, 0), (23, .invokevirtual 111, 3, .null, 0, 130, 8130, 0), (26, .aload_n 0, 1, .null, 0, 0, 0, 0), (27, .iload_n 3, 1, .null, 0, 0, 0, 0),
  (28, .invokevirtual 111, 3, .null, 0, 130, 8130, 0), (31, .aload_n 0, 1, .null, 0, 0, 0, 0), (32, .iload 4, 2, .null, 0, 0, 0, 0), (34, .invokevirtual 111, 3, .null, 0, 130, 8130, 0),
  (37, .aload_n 0, 1, .null, 0, 0, 0, 0), (38, .iload 5, 2, .null, 0, 0, 0, 0), (40, .invokevirtual 111, 3, .null, 0, 130, 8130, 0), (43, .aload_n 0, 1, .null, 0, 0, 0, 0),
  (44, .getfield 107, 3, .null, 10, 1, 8075, 0), (47, .ireturn, 1, .null, 0, 0, 0, 0)]
def ar_130 : List ai_R := [(0, .bipush 24, 2, .null, 0, 0, 0, 0), (2, .istore_n 2, 1, .null, 0, 0, 0, 0), (3, .iload_n 2, 1, .null, 0, 0, 0, 0), (4, .ifCond .lt 45, 3, .null, 26, 0, 0, 0),
  (7, .aload_n 0, 1, .null, 0, 0, 0, 0), (8, .getfield 107, 3, .null, 10, 1, 8075, 0), (11, .sipush 600, 3, .null, 0, 0, 0, 0), (14, .if_icmp .ge 35, 3, .null, 26, 0, 0, 0),
  (17, .aload_n 0, 1, .null, 0, 0, 0, 0), (18, .getfield 9, 3, .null, 10, 0, 8074, 0), (21, .aload_n 0, 1, .null, 0, 0, 0, 0), (22, .getfield 107, 3, .null, 10, 1, 8075, 0),
  (25, .iload_n 1, 1, .null, 0, 0, 0, 0), (26, .iload_n 2, 1, .null, 0, 0, 0, 0), (27, .iushr, 1, .null, 0, 0, 0, 0), (28, .sipush 255, 3, .null, 0, 0, 0, 0),
  (31, .iand, 1, .null, 0, 0, 0, 0), (32, .iastore, 1, .null, 0, 0, 0, 0), (33, .aload_n 0, 1, .null, 0, 0, 0, 0), (34, .dup, 1, .null, 0, 0, 0, 0),
  (35, .getfield 107, 3, .null, 10, 1, 8075, 0), (38, .iconst 1, 1, .null, 0, 0, 0, 0), (39, .iadd, 1, .null, 0, 0, 0, 0), (40, .putfield 107, 3, .null, 10, 1, 8075, 0),
  (43, .iinc 2 (-8), 3, .null, 0, 0, 0, 0), (46, .goto (-43), 3, .null, 2, 0, 0, 0), (49, .return_, 1, .null, 0, 0, 0, 0)]
def ar_131 : List ai_R := [(0, .iload_n 1, 1, .null, 0, 0, 0, 0), (1, .ifCond .lt 11, 3, .null, 6, 0, 0, 0), (4, .iload_n 1, 1, .null, 0, 0, 0, 0), (5, .aload_n 0, 1, .null, 0, 0, 0, 0),
  (6, .getfield 107, 3, .null, 10, 1, 8075, 0), (9, .if_icmp .le 6, 3, .null, 8, 0, 0, 0), (12, .bipush (-3), 2, .null, 0, 0, 0, 0), (14, .ireturn, 1, .null, 0, 0, 0, 0),
  (15, .aload_n 0, 1, .null, 0, 0, 0, 0), (16, .iconst 0, 1, .null, 0, 0, 0, 0), (17, .putfield 107, 3, .null, 10, 1, 8075, 0), (20, .aload_n 0, 1, .null, 0, 0, 0, 0),
  (21, .getfield 16, 3, .null, 10, 2, 8076, 0), (24, .aload_n 0, 1, .null, 0, 0, 0, 0), (25, .getfield 9, 3, .null, 10, 0, 8074, 0), (28, .iload_n 1, 1, .null, 0, 0, 0, 0),
  (29, .aload_n 0, 1, .null, 0, 0, 0, 0), (30, .getfield 27, 3, .null, 10, 4, 8078, 0), (33, .invokevirtual 115, 3, .null, 0, 69, 8138, 0), (36, .istore_n 2, 1, .null, 0, 0, 0, 0),
  (37, .iload_n 2, 1, .null, 0, 0, 0, 0), (38, .ifCond .eq 8, 3, .null, 26, 0, 0, 0), (41, .bipush (-30), 2, .null, 0, 0, 0, 0), (43, .iload_n 2, 1, .null, 0, 0, 0, 0),
  (44, .isub, 1, .null, 0, 0, 0, 0), (45, .ireturn, 1, .null, 0, 0, 0, 0), (46, .aload_n 0, 1, .null, 0, 0, 0, 0), (47, .getfield 23, 3, .null, 10, 3, 8077, 0),
  (50, .aload_n 0, 1, .null, 0, 0, 0, 0), (51, .getfield 27, 3, .null, 10, 4, 8078, 0), (54, .invokevirtual 119, 3, .null, 0, 22, 9058, 0), (57, .aload_n 0, 1, .null, 0, 0, 0, 0),
  (58, .getfield 33, 3, .null, 10, 5, 8079, 0), (61, .invokevirtual 122, 3, .null, 0, 87, 9065, 0), (64, .aload_n 0, 1, .null, 0, 0, 0, 0), (65, .getfield 23, 3, .null, 10, 3, 8077, 0),
  (68, .getfield 125, 3, .null, 2, 2, 7083, 0), (71, .ireturn, 1, .null, 0, 0, 0, 0)]
def ar_132 : List ai_R := [(0, .iload_n 1, 1, .null, 0, 0, 0, 0), (1, .ifCond .ne 11, 3, .null, 6, 0, 0, 0), (4, .aload_n 0, 1, .null, 0, 0, 0, 0), (5, .getfield 16, 3, .null, 10, 2, 8076, 0),
  (8, .getfield 128, 3, .null, 5, 0, 7036, 0), (11, .ireturn, 1, .null, 0, 0, 0, 0), (12, .iload_n 1, 1, .null, 0, 0, 0, 0), (13, .iconst 1, 1, .null, 0, 0, 0, 0),
  (14, .if_icmp .ne 13, 3, .null, 13, 0, 0, 0), (17, .aload_n 0, 1, .null, 0, 0, 0, 0), (18, .getfield 16, 3, .null, 10, 2, 8076, 0), (21, .getfield 131, 3, .null, 5, 1, 7038, 0),
  (24, .goto 4, 3, .null, 14, 0, 0, 0), (27, .iconst (-1), 1, .null, 0, 0, 0, 0), (28, .ireturn, 1, .null, 0, 0, 0, 0)]
def ar_133 : List ai_R := [(0, .aload_n 0, 1, .null, 0, 0, 0, 0), (1, .getfield 23, 3, .null, 10, 3, 8077, 0), (4, .iload_n 1, 1, .null, 0, 0, 0, 0), (5, .invokevirtual 134, 3, .null, 0, 23, 9078, 0),
  (8, .ifCond .eq 14, 3, .null, 10, 0, 0, 0), (11, .aload_n 0, 1, .null, 0, 0, 0, 0), (12, .getfield 23, 3, .null, 10, 3, 8077, 0), (15, .iload_n 2, 1, .null, 0, 0, 0, 0),
  (16, .invokevirtual 138, 3, .null, 0, 24, 9082, 0), (19, .ifCond .ne 6, 3, .null, 12, 0, 0, 0), (22, .bipush (-2), 2, .null, 0, 0, 0, 0), (24, .ireturn, 1, .null, 0, 0, 0, 0),
  (25, .iload_n 3, 1, .null, 0, 0, 0, 0), (26, .tableswitch 56 0 2 #[26, 36, 46], 26, .null, 0, 0, 0, 0), (52, .aload_n 0, 1, .null, 0, 0, 0, 0), (53, .getfield 23, 3, .null, 10, 3, 8077, 0),
  (56, .iload_n 1, 1, .null, 0, 0, 0, 0), (57, .iload_n 2, 1, .null, 0, 0, 0, 0), (58, .invokevirtual 141, 3, .null, 0, 27, 9086, 0), (61, .ireturn, 1, .null, 0, 0, 0, 0),
  (62, .aload_n 0, 1, .null, 0, 0, 0, 0), (63, .getfield 23, 3, .null, 10, 3, 8077, 0), (66, .iload_n 1, 1, .null, 0, 0, 0, 0), (67, .iload_n 2, 1, .null, 0, 0, 0, 0),
  (68, .invokevirtual 145, 3, .null, 0, 28, 9087, 0), (71, .ireturn, 1, .null, 0, 0, 0, 0), (72, .aload_n 0, 1, .null, 0, 0, 0, 0), (73, .getfield 23, 3, .null, 10, 3, 8077, 0),
  (76, .iload_n 1, 1, .null, 0, 0, 0, 0), (77, .iload_n 2, 1, .null, 0, 0, 0, 0), (78, .invokevirtual 148, 3, .null, 0, 29, 9091, 0), (81, .ireturn, 1, .null, 0, 0, 0, 0),
  (82, .bipush (-2), 2, .null, 0, 0, 0, 0), (84, .ireturn, 1, .null, 0, 0, 0, 0)]
def ar_134 : List ai_R := [(0, .aload_n 0, 1, .null, 0, 0, 0, 0), (1, .getfield 23, 3, .null, 10, 3, 8077, 0), (4, .iload_n 1, 1, .null, 0, 0, 0, 0), (5, .invokevirtual 134, 3, .null, 0, 23, 9078, 0),
  (8, .ifCond .ne 6, 3, .null, 7, 0, 0, 0), (11, .bipush (-2), 2, .null, 0, 0, 0, 0), (13, .ireturn, 1, .null, 0, 0, 0, 0), (14, .iload_n 2, 1, .null, 0, 0, 0, 0),
  (15, .tableswitch 58 0 2 #[25, 34, 46], 25, .null, 0, 0, 0, 0), (40, .aload_n 0, 1, .null, 0, 0, 0, 0), (41, .getfield 23, 3, .null, 10, 3, 8077, 0), (44, .iload_n 1, 1, .null, 0, 0, 0, 0),
  (45, .invokevirtual 151, 3, .null, 0, 30, 9099, 0), (48, .ireturn, 1, .null, 0, 0, 0, 0), (49, .aload_n 0, 1, .null, 0, 0, 0, 0), (50, .getfield 23, 3, .null, 10, 3, 8077, 0),
  (53, .getfield 155, 3, .null, 2, 5, 7098, 0), (56, .iload_n 1, 1, .null, 0, 0, 0, 0), (57, .iushr, 1, .null, 0, 0, 0, 0), (58, .iconst 1, 1, .null, 0, 0, 0, 0),
  (59, .iand, 1, .null, 0, 0, 0, 0), (60, .ireturn, 1, .null, 0, 0, 0, 0), (61, .aload_n 0, 1, .null, 0, 0, 0, 0), (62, .getfield 23, 3, .null, 10, 3, 8077, 0),
  (65, .getfield 158, 3, .null, 2, 6, 7103, 0), (68, .iload_n 1, 1, .null, 0, 0, 0, 0), (69, .iushr, 1, .null, 0, 0, 0, 0), (70, .iconst 1, 1, .null, 0, 0, 0, 0),
  (71, .iand, 1, .null, 0, 0, 0, 0), (72, .ireturn, 1, .null, 0, 0, 0, 0), (73, .bipush (-2), 2, .null, 0, 0, 0, 0), (75, .ireturn, 1, .null, 0, 0, 0, 0)]
def ar_135 : List ai_R := [(0, .aload_n 0, 1, .null, 0, 0, 0, 0), (1, .getfield 23, 3, .null, 10, 3, 8077, 0), (4, .iload_n 1, 1, .null, 0, 0, 0, 0), (5, .invokevirtual 161, 3, .null, 0, 25, 9107, 0),
  (8, .ifCond .eq 14, 3, .null, 10, 0, 0, 0), (11, .aload_n 0, 1, .null, 0, 0, 0, 0), (12, .getfield 23, 3, .null, 10, 3, 8077, 0), (15, .iload_n 1, 1, .null, 0, 0, 0, 0),
  (16, .invokevirtual 164, 3, .null, 0, 31, 9111, 0), (19, .goto 5, 3, .null, 11, 0, 0, 0), (22, .bipush (-2), 2, .null, 0, 0, 0, 0), (24, .ireturn, 1, .null, 0, 0, 0, 0)]
def ar_136 : List ai_R := [(0, .aload_n 0, 1, .null, 0, 0, 0, 0), (1, .getfield 23, 3, .null, 10, 3, 8077, 0), (4, .iload_n 1, 1, .null, 0, 0, 0, 0), (5, .invokevirtual 134, 3, .null, 0, 23, 9078, 0),
  (8, .ifCond .eq 14, 3, .null, 10, 0, 0, 0), (11, .aload_n 0, 1, .null, 0, 0, 0, 0), (12, .getfield 23, 3, .null, 10, 3, 8077, 0), (15, .iload_n 1, 1, .null, 0, 0, 0, 0),
  (16, .invokevirtual 167, 3, .null, 0, 40, 9119, 0), (19, .goto 5, 3, .null, 11, 0, 0, 0), (22, .bipush (-2), 2, .null, 0, 0, 0, 0), (24, .ireturn, 1, .null, 0, 0, 0, 0)]
def ar_137 : List ai_R := [(0, .aload_n 0, 1, .null, 0, 0, 0, 0), (1, .iload_n 1, 1, .null, 0, 0, 0, 0), (2, .invokevirtual 170, 3, .null, 0, 179, 9138, 0), (5, .ifCond .ne 6, 3, .null, 6, 0, 0, 0),
  (8, .bipush (-2), 2, .null, 0, 0, 0, 0), (10, .ireturn, 1, .null, 0, 0, 0, 0), (11, .aload_n 0, 1, .null, 0, 0, 0, 0), (12, .getfield 23, 3, .null, 10, 3, 8077, 0),
  (15, .getfield 173, 3, .null, 2, 1, 7081, 0), (18, .ifCond .ne 6, 3, .null, 12, 0, 0, 0), (21, .bipush (-5), 2, .null, 0, 0, 0, 0), (23, .ireturn, 1, .null, 0, 0, 0, 0),
  (24, .aload_n 0, 1, .null, 0, 0, 0, 0), (25, .getfield 42, 3, .null, 10, 7, 8081, 0), (28, .iload_n 1, 1, .null, 0, 0, 0, 0), (29, .aaload, 1, .null, 0, 0, 0, 0),
  (30, .invokevirtual 176, 3, .null, 0, 43, 9142, 0), (33, .ifCond .eq 6, 3, .null, 20, 0, 0, 0), (36, .bipush (-6), 2, .null, 0, 0, 0, 0), (38, .ireturn, 1, .null, 0, 0, 0, 0),
  (39, .aload_n 0, 1, .null, 0, 0, 0, 0), (40, .getfield 42, 3, .null, 10, 7, 8081, 0), (43, .iload_n 1, 1, .null, 0, 0, 0, 0), (44, .aaload, 1, .null, 0, 0, 0, 0),
  (45, .aload_n 0, 1, .null, 0, 0, 0, 0), (46, .getfield 23, 3, .null, 10, 3, 8077, 0), (49, .getfield 173, 3, .null, 2, 1, 7081, 0), (52, .invokevirtual 180, 3, .null, 0, 48, 9146, 0),
  (55, .ireturn, 1, .null, 0, 0, 0, 0)]
def ar_138 : List ai_R := [(0, .aload_n 0, 1, .null, 0, 0, 0, 0), (1, .iload_n 1, 1, .null, 0, 0, 0, 0), (2, .invokevirtual 170, 3, .null, 0, 179, 9138, 0), (5, .ifCond .eq 14, 3, .null, 9, 0, 0, 0),
  (8, .aload_n 0, 1, .null, 0, 0, 0, 0), (9, .getfield 23, 3, .null, 10, 3, 8077, 0), (12, .iload_n 2, 1, .null, 0, 0, 0, 0), (13, .invokevirtual 161, 3, .null, 0, 25, 9107, 0),
  (16, .ifCond .ne 6, 3, .null, 11, 0, 0, 0), (19, .bipush (-2), 2, .null, 0, 0, 0, 0), (21, .ireturn, 1, .null, 0, 0, 0, 0), (22, .aload_n 0, 1, .null, 0, 0, 0, 0),
  (23, .iload_n 1, 1, .null, 0, 0, 0, 0), (24, .invokevirtual 183, 3, .null, 0, 180, 9154, 0), (27, .istore 4, 2, .null, 0, 0, 0, 0), (29, .iload 4, 2, .null, 0, 0, 0, 0),
  (31, .ifCond .eq 6, 3, .null, 19, 0, 0, 0), (34, .iload 4, 2, .null, 0, 0, 0, 0), (36, .ireturn, 1, .null, 0, 0, 0, 0), (37, .iload_n 3, 1, .null, 0, 0, 0, 0),
  (38, .ifCond .lt 14, 3, .null, 26, 0, 0, 0), (41, .iload_n 3, 1, .null, 0, 0, 0, 0), (42, .aload_n 0, 1, .null, 0, 0, 0, 0), (43, .getfield 37, 3, .null, 10, 6, 8080, 0),
  (46, .getfield 186, 3, .null, 6, 0, 7144, 0), (49, .if_icmp .le 6, 3, .null, 28, 0, 0, 0), (52, .bipush (-3), 2, .null, 0, 0, 0, 0), (54, .ireturn, 1, .null, 0, 0, 0, 0),
  (55, .aload_n 0, 1, .null, 0, 0, 0, 0), (56, .getfield 23, 3, .null, 10, 3, 8077, 0), (59, .aload_n 0, 1, .null, 0, 0, 0, 0), (60, .getfield 37, 3, .null, 10, 6, 8080, 0),
  (63, .iload_n 3, 1, .null, 0, 0, 0, 0), (64, .aload_n 0, 1, .null, 0, 0, 0, 0), (65, .getfield 23, 3, .null, 10, 3, 8077, 0), (68, .iload_n 2, 1, .null, 0, 0, 0, 0),
  (69, .invokevirtual 164, 3, .null, 0, 31, 9111, 0), (72, .invokevirtual 189, 3, .null, 0, 41, 9170, 0), (75, .ireturn, 1, .null, 0, 0, 0, 0)]
def ar_139 : List ai_R := [(0, .aload_n 0, 1, .null, 0, 0, 0, 0), (1, .iload_n 1, 1, .null, 0, 0, 0, 0), (2, .invokevirtual 170, 3, .null, 0, 179, 9138, 0), (5, .ifCond .eq 12, 3, .null, 9, 0, 0, 0),
  (8, .iload_n 2, 1, .null, 0, 0, 0, 0), (9, .ifCond .lt 8, 3, .null, 9, 0, 0, 0), (12, .iload_n 2, 1, .null, 0, 0, 0, 0), (13, .iconst 1, 1, .null, 0, 0, 0, 0),
  (14, .if_icmp .le 6, 3, .null, 11, 0, 0, 0), (17, .bipush (-2), 2, .null, 0, 0, 0, 0), (19, .ireturn, 1, .null, 0, 0, 0, 0), (20, .aload_n 0, 1, .null, 0, 0, 0, 0),
  (21, .iload_n 1, 1, .null, 0, 0, 0, 0), (22, .invokevirtual 183, 3, .null, 0, 180, 9154, 0), (25, .istore_n 3, 1, .null, 0, 0, 0, 0), (26, .iload_n 3, 1, .null, 0, 0, 0, 0),
  (27, .ifCond .eq 5, 3, .null, 19, 0, 0, 0), (30, .iload_n 3, 1, .null, 0, 0, 0, 0), (31, .ireturn, 1, .null, 0, 0, 0, 0), (32, .aload_n 0, 1, .null, 0, 0, 0, 0),
  (33, .getfield 86, 3, .null, 10, 14, 8088, 0), (36, .invokevirtual 193, 3, .null, 0, 6, 9182, 0), (39, .iconst 0, 1, .null, 0, 0, 0, 0), (40, .istore 4, 2, .null, 0, 0, 0, 0),
  (42, .iload 4, 2, .null, 0, 0, 0, 0), (44, .aload_n 0, 1, .null, 0, 0, 0, 0), (45, .getfield 37, 3, .null, 10, 6, 8080, 0), (48, .getfield 186, 3, .null, 6, 0, 7144, 0),
  (51, .if_icmp .ge 54, 3, .null, 53, 0, 0, 0), (54, .aload_n 0, 1, .null, 0, 0, 0, 0), (55, .getfield 86, 3, .null, 10, 14, 8088, 0), (58, .aload_n 0, 1, .null, 0, 0, 0, 0),
  (59, .getfield 37, 3, .null, 10, 6, 8080, 0), (62, .iload 4, 2, .null, 0, 0, 0, 0), (64, .invokevirtual 196, 3, .null, 0, 90, 9187, 0), (67, .invokevirtual 199, 3, .null, 0, 8, 9188, 0),
  (70, .aload_n 0, 1, .null, 0, 0, 0, 0), (71, .getfield 86, 3, .null, 10, 14, 8088, 0), (74, .invokevirtual 202, 3, .null, 0, 10, 9193, 0), (77, .istore 5, 2, .null, 0, 0, 0, 0),
  (79, .iload 5, 2, .null, 0, 0, 0, 0), (81, .iconst (-1), 1, .null, 0, 0, 0, 0), (82, .if_icmp .eq 17, 3, .null, 51, 0, 0, 0), (85, .iload_n 2, 1, .null, 0, 0, 0, 0),
  (86, .ifCond .ne 10, 3, .null, 49, 0, 0, 0), (89, .iload 4, 2, .null, 0, 0, 0, 0), (91, .iconst 1, 1, .null, 0, 0, 0, 0), (92, .iadd, 1, .null, 0, 0, 0, 0),
  (93, .goto 5, 3, .null, 50, 0, 0, 0), (96, .iload 5, 2, .null, 0, 0, 0, 0), (98, .ireturn, 1, .null, 0, 0, 0, 0), (99, .iinc 4 1, 3, .null, 0, 0, 0, 0),
  (102, .goto (-60), 3, .null, 24, 0, 0, 0), (105, .iconst (-1), 1, .null, 0, 0, 0, 0), (106, .ireturn, 1, .null, 0, 0, 0, 0)]
def ar_140 : List ai_R := [(0, .aload_n 0, 1, .null, 0, 0, 0, 0), (1, .iload_n 1, 1, .null, 0, 0, 0, 0), (2, .invokevirtual 170, 3, .null, 0, 179, 9138, 0), (5, .ifCond .eq 12, 3, .null, 9, 0, 0, 0),
  (8, .iload_n 2, 1, .null, 0, 0, 0, 0), (9, .ifCond .lt 8, 3, .null, 9, 0, 0, 0), (12, .iload_n 2, 1, .null, 0, 0, 0, 0), (13, .iconst 1, 1, .null, 0, 0, 0, 0),
  (14, .if_icmp .le 6, 3, .null, 11, 0, 0, 0), (17, .bipush (-2), 2, .null, 0, 0, 0, 0), (19, .ireturn, 1, .null, 0, 0, 0, 0), (20, .aload_n 0, 1, .null, 0, 0, 0, 0),
  (21, .iload_n 1, 1, .null, 0, 0, 0, 0), (22, .invokevirtual 183, 3, .null, 0, 180, 9154, 0), (25, .istore_n 3, 1, .null, 0, 0, 0, 0), (26, .iload_n 3, 1, .null, 0, 0, 0, 0),
  (27, .ifCond .eq 5, 3, .null, 19, 0, 0, 0), (30, .iload_n 3, 1, .null, 0, 0, 0, 0), (31, .ireturn, 1, .null, 0, 0, 0, 0), (32, .aload_n 0, 1, .null, 0, 0, 0, 0),
  (33, .getfield 86, 3, .null, 10, 14, 8088, 0), (36, .invokevirtual 193, 3, .null, 0, 6, 9182, 0), (39, .iconst 0, 1, .null, 0, 0, 0, 0), (40, .istore 4, 2, .null, 0, 0, 0, 0),
  (42, .iload 4, 2, .null, 0, 0, 0, 0), (44, .aload_n 0, 1, .null, 0, 0, 0, 0), (45, .getfield 37, 3, .null, 10, 6, 8080, 0), (48, .getfield 186, 3, .null, 6, 0, 7144, 0),
  (51, .if_icmp .gt 59, 3, .null, 55, 0, 0, 0), (54, .iload 4, 2, .null, 0, 0, 0, 0), (56, .ifCond .le 21, 3, .null, 40, 0, 0, 0), (59, .aload_n 0, 1, .null, 0, 0, 0, 0),
  (60, .getfield 86, 3, .null, 10, 14, 8088, 0), (63, .aload_n 0, 1, .null, 0, 0, 0, 0), (64, .getfield 37, 3, .null, 10, 6, 8080, 0), (67, .iload 4, 2, .null, 0, 0, 0, 0),
  (69, .iconst 1, 1, .null, 0, 0, 0, 0), (70, .isub, 1, .null, 0, 0, 0, 0), (71, .invokevirtual 196, 3, .null, 0, 90, 9187, 0), (74, .invokevirtual 199, 3, .null, 0, 8, 9188, 0),
  (77, .aload_n 0, 1, .null, 0, 0, 0, 0), (78, .getfield 86, 3, .null, 10, 14, 8088, 0), (81, .invokevirtual 206, 3, .null, 0, 12, 9201, 0), (84, .istore 5, 2, .null, 0, 0, 0, 0),
  (86, .iload 5, 2, .null, 0, 0, 0, 0), (88, .iconst (-1), 1, .null, 0, 0, 0, 0), (89, .if_icmp .eq 15, 3, .null, 53, 0, 0, 0), (92, .iload_n 2, 1, .null, 0, 0, 0, 0),
  (93, .ifCond .ne 8, 3, .null, 51, 0, 0, 0), (96, .iload 4, 2, .null, 0, 0, 0, 0), (98, .goto 5, 3, .null, 52, 0, 0, 0), (101, .iload 5, 2, .null, 0, 0, 0, 0),
  (103, .ireturn, 1, .null, 0, 0, 0, 0), (104, .iinc 4 1, 3, .null, 0, 0, 0, 0), (107, .goto (-65), 3, .null, 24, 0, 0, 0), (110, .iconst (-1), 1, .null, 0, 0, 0, 0),
  (111, .ireturn, 1, .null, 0, 0, 0, 0)]
def ar_141 : List ai_R := [(0, .aload_n 0, 1, .null, 0, 0, 0, 0), (1, .iload_n 1, 1, .null, 0, 0, 0, 0), (2, .iload_n 2, 1, .null, 0, 0, 0, 0), (3, .iload_n 3, 1, .null, 0, 0, 0, 0),
  (4, .invokevirtual 209, 3, .null, 0, 138, 9213, 0), (7, .istore 4, 2, .null, 0, 0, 0, 0), (9, .iload 4, 2, .null, 0, 0, 0, 0), (11, .ifCond .ge 8, 3, .null, 10, 0, 0, 0),
  (14, .iload 4, 2, .null, 0, 0, 0, 0), (16, .goto 12, 3, .null, 14, 0, 0, 0), (19, .aload_n 0, 1, .null, 0, 0, 0, 0), (20, .getfield 23, 3, .null, 10, 3, 8077, 0),
  (23, .iload 4, 2, .null, 0, 0, 0, 0), (25, .invokevirtual 151, 3, .null, 0, 30, 9099, 0), (28, .ireturn, 1, .null, 0, 0, 0, 0)]
def ar_142 : List ai_R := [(0, .aload_n 0, 1, .null, 0, 0, 0, 0), (1, .iload_n 1, 1, .null, 0, 0, 0, 0), (2, .invokevirtual 170, 3, .null, 0, 179, 9138, 0), (5, .ifCond .ne 6, 3, .null, 6, 0, 0, 0),
  (8, .bipush (-2), 2, .null, 0, 0, 0, 0), (10, .ireturn, 1, .null, 0, 0, 0, 0), (11, .aload_n 0, 1, .null, 0, 0, 0, 0), (12, .iload_n 1, 1, .null, 0, 0, 0, 0),
  (13, .invokevirtual 183, 3, .null, 0, 180, 9154, 0), (16, .istore_n 3, 1, .null, 0, 0, 0, 0), (17, .iload_n 3, 1, .null, 0, 0, 0, 0), (18, .ifCond .eq 5, 3, .null, 14, 0, 0, 0),
  (21, .iload_n 3, 1, .null, 0, 0, 0, 0), (22, .ireturn, 1, .null, 0, 0, 0, 0), (23, .aload_n 0, 1, .null, 0, 0, 0, 0), (24, .getfield 23, 3, .null, 10, 3, 8077, 0),
  (27, .iload_n 2, 1, .null, 0, 0, 0, 0), (28, .invokevirtual 213, 3, .null, 0, 26, 9218, 0), (31, .ifCond .ne 6, 3, .null, 21, 0, 0, 0), (34, .bipush (-3), 2, .null, 0, 0, 0, 0),
  (36, .ireturn, 1, .null, 0, 0, 0, 0), (37, .iload_n 2, 1, .null, 0, 0, 0, 0), (38, .istore 4, 2, .null, 0, 0, 0, 0), (40, .iconst 0, 1, .null, 0, 0, 0, 0),
  (41, .istore 5, 2, .null, 0, 0, 0, 0), (43, .iload 5, 2, .null, 0, 0, 0, 0), (45, .aload_n 0, 1, .null, 0, 0, 0, 0), (46, .getfield 37, 3, .null, 10, 6, 8080, 0),
  (49, .getfield 186, 3, .null, 6, 0, 7144, 0), (52, .if_icmp .ge 29, 3, .null, 41, 0, 0, 0), (55, .aload_n 0, 1, .null, 0, 0, 0, 0), (56, .getfield 23, 3, .null, 10, 3, 8077, 0),
  (59, .iload 4, 2, .null, 0, 0, 0, 0), (61, .aload_n 0, 1, .null, 0, 0, 0, 0), (62, .getfield 37, 3, .null, 10, 6, 8080, 0), (65, .iload 5, 2, .null, 0, 0, 0, 0),
  (67, .invokevirtual 196, 3, .null, 0, 90, 9187, 0), (70, .invokevirtual 216, 3, .null, 0, 38, 9222, 0), (73, .istore 4, 2, .null, 0, 0, 0, 0), (75, .iinc 5 1, 3, .null, 0, 0, 0, 0),
  (78, .goto (-35), 3, .null, 25, 0, 0, 0), (81, .iload 4, 2, .null, 0, 0, 0, 0), (83, .ireturn, 1, .null, 0, 0, 0, 0)]
def ar_143 : List ai_R := [(0, .aload_n 0, 1, .null, 0, 0, 0, 0), (1, .iload_n 1, 1, .null, 0, 0, 0, 0), (2, .iload_n 2, 1, .null, 0, 0, 0, 0), (3, .iconst 0, 1, .null, 0, 0, 0, 0),
  (4, .invokevirtual 219, 3, .null, 0, 145, 9227, 0), (7, .ireturn, 1, .null, 0, 0, 0, 0)]
def ar_144 : List ai_R := [(0, .aload_n 0, 1, .null, 0, 0, 0, 0), (1, .iload_n 1, 1, .null, 0, 0, 0, 0), (2, .iload_n 2, 1, .null, 0, 0, 0, 0), (3, .aload_n 0, 1, .null, 0, 0, 0, 0),
  (4, .getfield 23, 3, .null, 10, 3, 8077, 0), (7, .getfield 155, 3, .null, 2, 5, 7098, 0), (10, .invokevirtual 219, 3, .null, 0, 145, 9227, 0), (13, .ireturn, 1, .null, 0, 0, 0, 0)]
def ar_145 : List ai_R := [(0, .aload_n 0, 1, .null, 0, 0, 0, 0), (1, .getfield 23, 3, .null, 10, 3, 8077, 0), (4, .iload_n 1, 1, .null, 0, 0, 0, 0), (5, .invokevirtual 213, 3, .null, 0, 26, 9218, 0),
  (8, .ifCond .eq 19, 3, .null, 13, 0, 0, 0), (11, .iload_n 2, 1, .null, 0, 0, 0, 0), (12, .iconst (-1), 1, .null, 0, 0, 0, 0), (13, .if_icmp .eq 17, 3, .null, 15, 0, 0, 0),
  (16, .aload_n 0, 1, .null, 0, 0, 0, 0), (17, .getfield 23, 3, .null, 10, 3, 8077, 0), (20, .iload_n 2, 1, .null, 0, 0, 0, 0), (21, .invokevirtual 213, 3, .null, 0, 26, 9218, 0),
  (24, .ifCond .ne 6, 3, .null, 15, 0, 0, 0), (27, .bipush (-3), 2, .null, 0, 0, 0, 0), (29, .ireturn, 1, .null, 0, 0, 0, 0), (30, .aload_n 0, 1, .null, 0, 0, 0, 0),
  (31, .getfield 72, 3, .null, 10, 12, 8086, 0), (34, .iload_n 1, 1, .null, 0, 0, 0, 0), (35, .iload_n 2, 1, .null, 0, 0, 0, 0), (36, .iload_n 3, 1, .null, 0, 0, 0, 0),
  (37, .aload_n 0, 1, .null, 0, 0, 0, 0), (38, .getfield 33, 3, .null, 10, 5, 8079, 0), (41, .invokevirtual 222, 3, .null, 0, 107, 9231, 0), (44, .ireturn, 1, .null, 0, 0, 0, 0)]
def ar_146 : List ai_R := [(0, .aload_n 0, 1, .null, 0, 0, 0, 0), (1, .getfield 23, 3, .null, 10, 3, 8077, 0), (4, .getfield 226, 3, .null, 2, 0, 7073, 0), (7, .ifCond .ne 8, 3, .null, 6, 0, 0, 0),
  (10, .bipush (-5), 2, .null, 0, 0, 0, 0), (12, .goto 10, 3, .null, 9, 0, 0, 0), (15, .aload_n 0, 1, .null, 0, 0, 0, 0), (16, .getfield 72, 3, .null, 10, 12, 8086, 0),
  (19, .invokevirtual 229, 3, .null, 0, 110, 10060, 0), (22, .ireturn, 1, .null, 0, 0, 0, 0)]
def ar_147 : List ai_R := [(0, .aload_n 0, 1, .null, 0, 0, 0, 0), (1, .getfield 23, 3, .null, 10, 3, 8077, 0), (4, .iload_n 1, 1, .null, 0, 0, 0, 0), (5, .invokevirtual 134, 3, .null, 0, 23, 9078, 0),
  (8, .ifCond .eq 14, 3, .null, 10, 0, 0, 0), (11, .aload_n 0, 1, .null, 0, 0, 0, 0), (12, .getfield 23, 3, .null, 10, 3, 8077, 0), (15, .iload_n 2, 1, .null, 0, 0, 0, 0),
  (16, .invokevirtual 134, 3, .null, 0, 23, 9078, 0), (19, .ifCond .ne 6, 3, .null, 12, 0, 0, 0), (22, .bipush (-2), 2, .null, 0, 0, 0, 0), (24, .ireturn, 1, .null, 0, 0, 0, 0),
  (25, .aload_n 0, 1, .null, 0, 0, 0, 0), (26, .getfield 79, 3, .null, 10, 13, 8087, 0), (29, .aload_n 0, 1, .null, 0, 0, 0, 0), (30, .getfield 23, 3, .null, 10, 3, 8077, 0),
  (33, .invokevirtual 232, 3, .null, 0, 52, 10073, 0), (36, .aload_n 0, 1, .null, 0, 0, 0, 0), (37, .getfield 79, 3, .null, 10, 13, 8087, 0), (40, .iload_n 1, 1, .null, 0, 0, 0, 0),
  (41, .iload_n 2, 1, .null, 0, 0, 0, 0), (42, .invokevirtual 235, 3, .null, 0, 51, 10095, 0), (45, .ireturn, 1, .null, 0, 0, 0, 0)]
def ar_148 : List ai_R := [(0, .aload_n 0, 1, .null, 0, 0, 0, 0), (1, .getfield 79, 3, .null, 10, 13, 8087, 0), (4, .aload_n 0, 1, .null, 0, 0, 0, 0), (5, .getfield 23, 3, .null, 10, 3, 8077, 0),
  (8, .invokevirtual 232, 3, .null, 0, 52, 10073, 0), (11, .iconst 0, 1, .null, 0, 0, 0, 0), (12, .istore_n 1, 1, .null, 0, 0, 0, 0), (13, .iload_n 1, 1, .null, 0, 0, 0, 0),
  (14, .aload_n 0, 1, .null, 0, 0, 0, 0), (15, .getfield 23, 3, .null, 10, 3, 8077, 0), (18, .getfield 226, 3, .null, 2, 0, 7073, 0), (21, .if_icmp .ge 50, 3, .null, 38, 0, 0, 0),
  (24, .iload_n 1, 1, .null, 0, 0, 0, 0), (25, .iconst 1, 1, .null, 0, 0, 0, 0), (26, .iadd, 1, .null, 0, 0, 0, 0), (27, .istore_n 2, 1, .null, 0, 0, 0, 0),
  (28, .iload_n 2, 1, .null, 0, 0, 0, 0), (29, .aload_n 0, 1, .null, 0, 0, 0, 0), (30, .getfield 23, 3, .null, 10, 3, 8077, 0), (33, .getfield 226, 3, .null, 2, 0, 7073, 0),
  (36, .if_icmp .ge 29, 3, .null, 36, 0, 0, 0), (39, .aload_n 0, 1, .null, 0, 0, 0, 0), (40, .getfield 79, 3, .null, 10, 13, 8087, 0), (43, .iload_n 1, 1, .null, 0, 0, 0, 0),
  (44, .iload_n 2, 1, .null, 0, 0, 0, 0), (45, .invokevirtual 235, 3, .null, 0, 51, 10095, 0), (48, .iconst (-1), 1, .null, 0, 0, 0, 0), (49, .if_icmp .ne 10, 3, .null, 34, 0, 0, 0),
  (52, .bipush 100, 2, .null, 0, 0, 0, 0), (54, .iload_n 1, 1, .null, 0, 0, 0, 0), (55, .imul, 1, .null, 0, 0, 0, 0), (56, .iload_n 2, 1, .null, 0, 0, 0, 0),
  (57, .iadd, 1, .null, 0, 0, 0, 0), (58, .ireturn, 1, .null, 0, 0, 0, 0), (59, .iinc 2 1, 3, .null, 0, 0, 0, 0), (62, .goto (-34), 3, .null, 16, 0, 0, 0),
  (65, .iinc 1 1, 3, .null, 0, 0, 0, 0), (68, .goto (-55), 3, .null, 7, 0, 0, 0), (71, .iconst (-1), 1, .null, 0, 0, 0, 0), (72, .ireturn, 1, .null, 0, 0, 0, 0)]
def ar_149 : List ai_R := [(0, .aload_n 0, 1, .null, 0, 0, 0, 0), (1, .getfield 23, 3, .null, 10, 3, 8077, 0), (4, .iload_n 1, 1, .null, 0, 0, 0, 0), (5, .invokevirtual 213, 3, .null, 0, 26, 9218, 0),
  (8, .ifCond .ne 6, 3, .null, 7, 0, 0, 0), (11, .bipush (-3), 2, .null, 0, 0, 0, 0), (13, .ireturn, 1, .null, 0, 0, 0, 0), (14, .aload_n 0, 1, .null, 0, 0, 0, 0),
  (15, .getfield 79, 3, .null, 10, 13, 8087, 0), (18, .aload_n 0, 1, .null, 0, 0, 0, 0), (19, .getfield 23, 3, .null, 10, 3, 8077, 0), (22, .invokevirtual 232, 3, .null, 0, 52, 10073, 0),
  (25, .aload_n 0, 1, .null, 0, 0, 0, 0), (26, .getfield 37, 3, .null, 10, 6, 8080, 0), (29, .invokevirtual 238, 3, .null, 0, 88, 9158, 0), (32, .iload_n 1, 1, .null, 0, 0, 0, 0),
  (33, .istore_n 2, 1, .null, 0, 0, 0, 0), (34, .iconst 0, 1, .null, 0, 0, 0, 0), (35, .istore_n 3, 1, .null, 0, 0, 0, 0), (36, .iload_n 3, 1, .null, 0, 0, 0, 0),
  (37, .bipush 14, 2, .null, 0, 0, 0, 0), (39, .if_icmp .ge 131, 3, .null, 83, 0, 0, 0), (42, .iload_n 2, 1, .null, 0, 0, 0, 0), (43, .invokestatic 241, 3, .null, 1, 290, 10107, 0),
  (46, .iconst 1, 1, .null, 0, 0, 0, 0), (47, .if_icmp .le 123, 3, .null, 83, 0, 0, 0), (50, .aload_n 0, 1, .null, 0, 0, 0, 0), (51, .getfield 79, 3, .null, 10, 13, 8087, 0),
  (54, .aload_n 0, 1, .null, 0, 0, 0, 0), (55, .getfield 23, 3, .null, 10, 3, 8077, 0), (58, .getfield 226, 3, .null, 2, 0, 7073, 0), (61, .iload_n 2, 1, .null, 0, 0, 0, 0),
  (62, .invokevirtual 246, 3, .null, 0, 58, 10108, 0), (65, .istore 4, 2, .null, 0, 0, 0, 0), (67, .iload 4, 2, .null, 0, 0, 0, 0), (69, .iconst (-1), 1, .null, 0, 0, 0, 0),
  (70, .if_icmp .ne 5, 3, .null, 39, 0, 0, 0), (73, .iconst (-1), 1, .null, 0, 0, 0, 0), (74, .ireturn, 1, .null, 0, 0, 0, 0), (75, .aload_n 0, 1, .null, 0, 0, 0, 0),
  (76, .getfield 37, 3, .null, 10, 6, 8080, 0), (79, .getfield 186, 3, .null, 6, 0, 7144, 0), (82, .istore 5, 2, .null, 0, 0, 0, 0), (84, .aload_n 0, 1, .null, 0, 0, 0, 0),
  (85, .getfield 79, 3, .null, 10, 13, 8087, 0), (88, .aload_n 0, 1, .null, 0, 0, 0, 0), (89, .getfield 23, 3, .null, 10, 3, 8077, 0), (92, .iload 4, 2, .null, 0, 0, 0, 0),
  (94, .bipush 14, 2, .null, 0, 0, 0, 0), (96, .idiv, 1, .null, 0, 0, 0, 0), (97, .iload 4, 2, .null, 0, 0, 0, 0), (99, .bipush 14, 2, .null, 0, 0, 0, 0),
  (101, .irem, 1, .null, 0, 0, 0, 0), (102, .aload_n 0, 1, .null, 0, 0, 0, 0), (103, .getfield 37, 3, .null, 10, 6, 8080, 0), (106, .invokevirtual 249, 3, .null, 0, 57, 10113, 0),
  (109, .aload_n 0, 1, .null, 0, 0, 0, 0), (110, .getfield 37, 3, .null, 10, 6, 8080, 0), (113, .getfield 186, 3, .null, 6, 0, 7144, 0), (116, .sipush 500, 3, .null, 0, 0, 0, 0),
  (119, .if_icmp .le 5, 3, .null, 63, 0, 0, 0), (122, .iconst (-1), 1, .null, 0, 0, 0, 0), (123, .ireturn, 1, .null, 0, 0, 0, 0), (124, .iload 5, 2, .null, 0, 0, 0, 0),
  (126, .istore 6, 2, .null, 0, 0, 0, 0), (128, .iload 6, 2, .null, 0, 0, 0, 0), (130, .aload_n 0, 1, .null, 0, 0, 0, 0), (131, .getfield 37, 3, .null, 10, 6, 8080, 0),
  (134, .getfield 186, 3, .null, 6, 0, 7144, 0), (137, .if_icmp .ge 27, 3, .null, 81, 0, 0, 0), (140, .aload_n 0, 1, .null, 0, 0, 0, 0), (141, .getfield 23, 3, .null, 10, 3, 8077, 0),
  (144, .iload_n 2, 1, .null, 0, 0, 0, 0), (145, .aload_n 0, 1, .null, 0, 0, 0, 0), (146, .getfield 37, 3, .null, 10, 6, 8080, 0), (149, .iload 6, 2, .null, 0, 0, 0, 0),
  (151, .invokevirtual 196, 3, .null, 0, 90, 9187, 0), (154, .invokevirtual 253, 3, .null, 0, 39, 10118, 0), (157, .istore_n 2, 1, .null, 0, 0, 0, 0), (158, .iinc 6 1, 3, .null, 0, 0, 0, 0),
  (161, .goto (-33), 3, .null, 65, 0, 0, 0), (164, .iinc 3 1, 3, .null, 0, 0, 0, 0), (167, .goto (-131), 3, .null, 19, 0, 0, 0), (170, .aload_n 0, 1, .null, 0, 0, 0, 0),
  (171, .getfield 33, 3, .null, 10, 5, 8079, 0), (174, .aload_n 0, 1, .null, 0, 0, 0, 0), (175, .getfield 37, 3, .null, 10, 6, 8080, 0), (178, .invokevirtual 256, 3, .null, 0, 92, 10122, 0),
  (181, .aload_n 0, 1, .null, 0, 0, 0, 0), (182, .getfield 37, 3, .null, 10, 6, 8080, 0), (185, .getfield 186, 3, .null, 6, 0, 7144, 0), (188, .ireturn, 1, .null, 0, 0, 0, 0)]
def ar_150 : List ai_R := [(0, .aload_n 0, 1, .null, 0, 0, 0, 0), (1, .getfield 23, 3, .null, 10, 3, 8077, 0), (4, .iload_n 1, 1, .null, 0, 0, 0, 0), (5, .invokevirtual 213, 3, .null, 0, 26, 9218, 0),
  (8, .ifCond .eq 22, 3, .null, 14, 0, 0, 0), (11, .aload_n 0, 1, .null, 0, 0, 0, 0), (12, .getfield 72, 3, .null, 10, 12, 8086, 0), (15, .iload_n 1, 1, .null, 0, 0, 0, 0),
  (16, .aload_n 0, 1, .null, 0, 0, 0, 0), (17, .getfield 64, 3, .null, 10, 11, 8085, 0), (20, .aload_n 0, 1, .null, 0, 0, 0, 0), (21, .getfield 33, 3, .null, 10, 5, 8079, 0),
  (24, .invokevirtual 259, 3, .null, 0, 108, 10132, 0), (27, .goto 5, 3, .null, 15, 0, 0, 0), (30, .bipush (-3), 2, .null, 0, 0, 0, 0), (32, .ireturn, 1, .null, 0, 0, 0, 0)]
def ar_151 : List ai_R := [(0, .aload_n 0, 1, .null, 0, 0, 0, 0), (1, .getfield 23, 3, .null, 10, 3, 8077, 0), (4, .getfield 226, 3, .null, 2, 0, 7073, 0), (7, .ifCond .ne 6, 3, .null, 6, 0, 0, 0),
  (10, .bipush (-5), 2, .null, 0, 0, 0, 0), (12, .ireturn, 1, .null, 0, 0, 0, 0), (13, .iconst 0, 1, .null, 0, 0, 0, 0), (14, .istore_n 1, 1, .null, 0, 0, 0, 0),
  (15, .iconst 0, 1, .null, 0, 0, 0, 0), (16, .istore_n 2, 1, .null, 0, 0, 0, 0), (17, .iload_n 2, 1, .null, 0, 0, 0, 0), (18, .aload_n 0, 1, .null, 0, 0, 0, 0),
  (19, .getfield 23, 3, .null, 10, 3, 8077, 0), (22, .getfield 173, 3, .null, 2, 1, 7081, 0), (25, .if_icmp .ge 30, 3, .null, 30, 0, 0, 0), (28, .aload_n 0, 1, .null, 0, 0, 0, 0),
  (29, .getfield 79, 3, .null, 10, 13, 8087, 0), (32, .aload_n 0, 1, .null, 0, 0, 0, 0), (33, .getfield 23, 3, .null, 10, 3, 8077, 0), (36, .iload_n 2, 1, .null, 0, 0, 0, 0),
  (37, .invokevirtual 263, 3, .null, 0, 60, 10140, 0), (40, .ifCond .eq 9, 3, .null, 28, 0, 0, 0), (43, .iload_n 1, 1, .null, 0, 0, 0, 0), (44, .iconst 1, 1, .null, 0, 0, 0, 0),
  (45, .iload_n 2, 1, .null, 0, 0, 0, 0), (46, .ishl, 1, .null, 0, 0, 0, 0), (47, .ior, 1, .null, 0, 0, 0, 0), (48, .istore_n 1, 1, .null, 0, 0, 0, 0),
  (49, .iinc 2 1, 3, .null, 0, 0, 0, 0), (52, .goto (-35), 3, .null, 10, 0, 0, 0), (55, .iload_n 1, 1, .null, 0, 0, 0, 0), (56, .ireturn, 1, .null, 0, 0, 0, 0)]
def ar_152 : List ai_R := [(0, .iload_n 1, 1, .null, 0, 0, 0, 0), (1, .ifCond .lt 8, 3, .null, 5, 0, 0, 0), (4, .iload_n 1, 1, .null, 0, 0, 0, 0), (5, .iconst 2, 1, .null, 0, 0, 0, 0),
  (6, .if_icmp .le 6, 3, .null, 7, 0, 0, 0), (9, .bipush (-2), 2, .null, 0, 0, 0, 0), (11, .ireturn, 1, .null, 0, 0, 0, 0), (12, .aload_n 0, 1, .null, 0, 0, 0, 0),
  (13, .getfield 23, 3, .null, 10, 3, 8077, 0), (16, .getfield 226, 3, .null, 2, 0, 7073, 0), (19, .ifCond .eq 18, 3, .null, 18, 0, 0, 0), (22, .aload_n 0, 1, .null, 0, 0, 0, 0),
  (23, .getfield 79, 3, .null, 10, 13, 8087, 0), (26, .aload_n 0, 1, .null, 0, 0, 0, 0), (27, .getfield 23, 3, .null, 10, 3, 8077, 0), (30, .iconst (-1), 1, .null, 0, 0, 0, 0),
  (31, .invokevirtual 263, 3, .null, 0, 60, 10140, 0), (34, .ifCond .eq 6, 3, .null, 20, 0, 0, 0), (37, .bipush (-5), 2, .null, 0, 0, 0, 0), (39, .ireturn, 1, .null, 0, 0, 0, 0),
  (40, .aload_n 0, 1, .null, 0, 0, 0, 0), (41, .getfield 27, 3, .null, 10, 4, 8078, 0), (44, .aload_n 0, 1, .null, 0, 0, 0, 0), (45, .getfield 23, 3, .null, 10, 3, 8077, 0),
  (48, .invokevirtual 119, 3, .null, 0, 22, 9058, 0), (51, .iconst 0, 1, .null, 0, 0, 0, 0), (52, .istore_n 2, 1, .null, 0, 0, 0, 0), (53, .iload_n 2, 1, .null, 0, 0, 0, 0),
  (54, .aload_n 0, 1, .null, 0, 0, 0, 0), (55, .getfield 23, 3, .null, 10, 3, 8077, 0), (58, .getfield 226, 3, .null, 2, 0, 7073, 0), (61, .if_icmp .ge 69, 3, .null, 65, 0, 0, 0),
  (64, .iconst 0, 1, .null, 0, 0, 0, 0), (65, .istore_n 3, 1, .null, 0, 0, 0, 0), (66, .iload_n 3, 1, .null, 0, 0, 0, 0), (67, .aload_n 0, 1, .null, 0, 0, 0, 0),
  (68, .getfield 23, 3, .null, 10, 3, 8077, 0), (71, .getfield 173, 3, .null, 2, 1, 7081, 0), (74, .if_icmp .ge 50, 3, .null, 63, 0, 0, 0), (77, .aload_n 0, 1, .null, 0, 0, 0, 0),
  (78, .getfield 79, 3, .null, 10, 13, 8087, 0), (81, .aload_n 0, 1, .null, 0, 0, 0, 0), (82, .getfield 27, 3, .null, 10, 4, 8078, 0), (85, .iload_n 2, 1, .null, 0, 0, 0, 0),
  (86, .iload_n 3, 1, .null, 0, 0, 0, 0), (87, .invokevirtual 267, 3, .null, 0, 62, 10152, 0), (90, .istore 4, 2, .null, 0, 0, 0, 0), (92, .iload 4, 2, .null, 0, 0, 0, 0),
  (94, .iconst (-1), 1, .null, 0, 0, 0, 0), (95, .if_icmp .eq 23, 3, .null, 61, 0, 0, 0), (98, .iload_n 1, 1, .null, 0, 0, 0, 0), (99, .ifCond .ne 7, 3, .null, 54, 0, 0, 0),
  (102, .iload_n 2, 1, .null, 0, 0, 0, 0), (103, .goto 14, 3, .null, 60, 0, 0, 0), (106, .iload_n 1, 1, .null, 0, 0, 0, 0), (107, .iconst 1, 1, .null, 0, 0, 0, 0),
  (108, .if_icmp .ne 7, 3, .null, 59, 0, 0, 0), (111, .iload_n 3, 1, .null, 0, 0, 0, 0), (112, .goto 5, 3, .null, 60, 0, 0, 0), (115, .iload 4, 2, .null, 0, 0, 0, 0),
  (117, .ireturn, 1, .null, 0, 0, 0, 0), (118, .iinc 3 1, 3, .null, 0, 0, 0, 0), (121, .goto (-55), 3, .null, 34, 0, 0, 0), (124, .iinc 2 1, 3, .null, 0, 0, 0, 0),
  (127, .goto (-74), 3, .null, 27, 0, 0, 0), (130, .iconst (-1), 1, .null, 0, 0, 0, 0), (131, .ireturn, 1, .null, 0, 0, 0, 0)]
def ar_153 : List ai_R := [(0, .aload_n 0, 1, .null, 0, 0, 0, 0), (1, .iload_n 1, 1, .null, 0, 0, 0, 0), (2, .invokevirtual 170, 3, .null, 0, 179, 9138, 0), (5, .ifCond .eq 14, 3, .null, 9, 0, 0, 0),
  (8, .aload_n 0, 1, .null, 0, 0, 0, 0), (9, .getfield 23, 3, .null, 10, 3, 8077, 0), (12, .iload_n 2, 1, .null, 0, 0, 0, 0), (13, .invokevirtual 134, 3, .null, 0, 23, 9078, 0),
  (16, .ifCond .ne 6, 3, .null, 11, 0, 0, 0), (19, .bipush (-2), 2, .null, 0, 0, 0, 0), (21, .ireturn, 1, .null, 0, 0, 0, 0), (22, .aload_n 0, 1, .null, 0, 0, 0, 0),
  (23, .iload_n 1, 1, .null, 0, 0, 0, 0), (24, .invokevirtual 183, 3, .null, 0, 180, 9154, 0), (27, .istore_n 3, 1, .null, 0, 0, 0, 0), (28, .iload_n 3, 1, .null, 0, 0, 0, 0),
  (29, .ifCond .eq 5, 3, .null, 19, 0, 0, 0), (32, .iload_n 3, 1, .null, 0, 0, 0, 0), (33, .ireturn, 1, .null, 0, 0, 0, 0), (34, .aload_n 0, 1, .null, 0, 0, 0, 0),
  (35, .getfield 23, 3, .null, 10, 3, 8077, 0), (38, .aload_n 0, 1, .null, 0, 0, 0, 0), (39, .getfield 37, 3, .null, 10, 6, 8080, 0), (42, .aload_n 0, 1, .null, 0, 0, 0, 0),
  (43, .getfield 37, 3, .null, 10, 6, 8080, 0), (46, .getfield 186, 3, .null, 6, 0, 7144, 0), (49, .iload_n 2, 1, .null, 0, 0, 0, 0), (50, .invokevirtual 189, 3, .null, 0, 41, 9170, 0),
  (53, .istore 4, 2, .null, 0, 0, 0, 0), (55, .iconst 0, 1, .null, 0, 0, 0, 0), (56, .istore 5, 2, .null, 0, 0, 0, 0), (58, .iconst 0, 1, .null, 0, 0, 0, 0),
  (59, .istore 6, 2, .null, 0, 0, 0, 0), (61, .iload 6, 2, .null, 0, 0, 0, 0), (63, .aload_n 0, 1, .null, 0, 0, 0, 0), (64, .getfield 23, 3, .null, 10, 3, 8077, 0),
  (67, .getfield 226, 3, .null, 2, 0, 7073, 0), (70, .if_icmp .ge 43, 3, .null, 57, 0, 0, 0), (73, .aload_n 0, 1, .null, 0, 0, 0, 0), (74, .getfield 23, 3, .null, 10, 3, 8077, 0),
  (77, .aload_n 0, 1, .null, 0, 0, 0, 0), (78, .getfield 37, 3, .null, 10, 6, 8080, 0), (81, .aload_n 0, 1, .null, 0, 0, 0, 0), (82, .getfield 37, 3, .null, 10, 6, 8080, 0),
  (85, .getfield 186, 3, .null, 6, 0, 7144, 0), (88, .iload 6, 2, .null, 0, 0, 0, 0), (90, .invokevirtual 189, 3, .null, 0, 41, 9170, 0), (93, .iload 4, 2, .null, 0, 0, 0, 0),
  (95, .if_icmp .ne 12, 3, .null, 55, 0, 0, 0), (98, .iload 5, 2, .null, 0, 0, 0, 0), (100, .iconst 1, 1, .null, 0, 0, 0, 0), (101, .iload 6, 2, .null, 0, 0, 0, 0),
  (103, .ishl, 1, .null, 0, 0, 0, 0), (104, .ior, 1, .null, 0, 0, 0, 0), (105, .istore 5, 2, .null, 0, 0, 0, 0), (107, .iinc 6 1, 3, .null, 0, 0, 0, 0),
  (110, .goto (-49), 3, .null, 33, 0, 0, 0), (113, .iload 5, 2, .null, 0, 0, 0, 0), (115, .ireturn, 1, .null, 0, 0, 0, 0)]
def ar_154 : List ai_R := [(0, .aload_n 0, 1, .null, 0, 0, 0, 0), (1, .getfield 23, 3, .null, 10, 3, 8077, 0), (4, .getfield 226, 3, .null, 2, 0, 7073, 0), (7, .ifCond .ne 6, 3, .null, 6, 0, 0, 0),
  (10, .bipush (-5), 2, .null, 0, 0, 0, 0), (12, .ireturn, 1, .null, 0, 0, 0, 0), (13, .iload_n 1, 1, .null, 0, 0, 0, 0), (14, .ifCond .lt 9, 3, .null, 11, 0, 0, 0),
  (17, .iload_n 1, 1, .null, 0, 0, 0, 0), (18, .bipush 12, 2, .null, 0, 0, 0, 0), (20, .if_icmp .le 8, 3, .null, 13, 0, 0, 0), (23, .bipush (-3), 2, .null, 0, 0, 0, 0),
  (25, .goto 11, 3, .null, 17, 0, 0, 0), (28, .aload_n 0, 1, .null, 0, 0, 0, 0), (29, .getfield 72, 3, .null, 10, 12, 8086, 0), (32, .iload_n 1, 1, .null, 0, 0, 0, 0),
  (33, .invokevirtual 271, 3, .null, 0, 112, 10166, 0), (36, .ireturn, 1, .null, 0, 0, 0, 0)]
def ar_155 : List ai_R := [(0, .aload_n 0, 1, .null, 0, 0, 0, 0), (1, .iload_n 1, 1, .null, 0, 0, 0, 0), (2, .invokevirtual 170, 3, .null, 0, 179, 9138, 0), (5, .ifCond .ne 6, 3, .null, 6, 0, 0, 0),
  (8, .bipush (-2), 2, .null, 0, 0, 0, 0), (10, .ireturn, 1, .null, 0, 0, 0, 0), (11, .aload_n 0, 1, .null, 0, 0, 0, 0), (12, .iload_n 1, 1, .null, 0, 0, 0, 0),
  (13, .invokevirtual 183, 3, .null, 0, 180, 9154, 0), (16, .istore 4, 2, .null, 0, 0, 0, 0), (18, .iload 4, 2, .null, 0, 0, 0, 0), (20, .ifCond .eq 6, 3, .null, 14, 0, 0, 0),
  (23, .iload 4, 2, .null, 0, 0, 0, 0), (25, .ireturn, 1, .null, 0, 0, 0, 0), (26, .aload_n 0, 1, .null, 0, 0, 0, 0), (27, .getfield 23, 3, .null, 10, 3, 8077, 0),
  (30, .iload_n 2, 1, .null, 0, 0, 0, 0), (31, .invokevirtual 213, 3, .null, 0, 26, 9218, 0), (34, .ifCond .eq 19, 3, .null, 27, 0, 0, 0), (37, .aload_n 0, 1, .null, 0, 0, 0, 0),
  (38, .getfield 95, 3, .null, 10, 15, 8089, 0), (41, .aload_n 0, 1, .null, 0, 0, 0, 0), (42, .getfield 37, 3, .null, 10, 6, 8080, 0), (45, .iload_n 2, 1, .null, 0, 0, 0, 0),
  (46, .iload_n 3, 1, .null, 0, 0, 0, 0), (47, .invokevirtual 274, 3, .null, 0, 122, 10189, 0), (50, .goto 5, 3, .null, 28, 0, 0, 0), (53, .bipush (-3), 2, .null, 0, 0, 0, 0),
  (55, .ireturn, 1, .null, 0, 0, 0, 0)]
def ar_156 : List ai_R := [(0, .aload_n 0, 1, .null, 0, 0, 0, 0), (1, .getfield 23, 3, .null, 10, 3, 8077, 0), (4, .iload_n 1, 1, .null, 0, 0, 0, 0), (5, .invokevirtual 213, 3, .null, 0, 26, 9218, 0),
  (8, .ifCond .eq 23, 3, .null, 15, 0, 0, 0), (11, .aload_n 0, 1, .null, 0, 0, 0, 0), (12, .getfield 95, 3, .null, 10, 15, 8089, 0), (15, .iload_n 1, 1, .null, 0, 0, 0, 0),
  (16, .iload_n 2, 1, .null, 0, 0, 0, 0), (17, .aload_n 0, 1, .null, 0, 0, 0, 0), (18, .getfield 37, 3, .null, 10, 6, 8080, 0), (21, .aload_n 0, 1, .null, 0, 0, 0, 0),
  (22, .getfield 33, 3, .null, 10, 5, 8079, 0), (25, .invokevirtual 278, 3, .null, 0, 127, 10217, 0), (28, .goto 5, 3, .null, 16, 0, 0, 0), (31, .bipush (-3), 2, .null, 0, 0, 0, 0),
  (33, .ireturn, 1, .null, 0, 0, 0, 0)]
def ar_157 : List ai_R := [(0, .aload_n 0, 1, .null, 0, 0, 0, 0), (1, .getfield 23, 3, .null, 10, 3, 8077, 0), (4, .iload_n 1, 1, .null, 0, 0, 0, 0), (5, .invokevirtual 213, 3, .null, 0, 26, 9218, 0),
  (8, .ifCond .eq 14, 3, .null, 10, 0, 0, 0), (11, .aload_n 0, 1, .null, 0, 0, 0, 0), (12, .getfield 72, 3, .null, 10, 12, 8086, 0), (15, .iload_n 1, 1, .null, 0, 0, 0, 0),
  (16, .invokevirtual 282, 3, .null, 0, 114, 10231, 0), (19, .goto 5, 3, .null, 11, 0, 0, 0), (22, .bipush (-3), 2, .null, 0, 0, 0, 0), (24, .ireturn, 1, .null, 0, 0, 0, 0)]
def ar_158 : List ai_R := [(0, .aload_n 0, 1, .null, 0, 0, 0, 0), (1, .getfield 23, 3, .null, 10, 3, 8077, 0), (4, .iload_n 1, 1, .null, 0, 0, 0, 0), (5, .invokevirtual 134, 3, .null, 0, 23, 9078, 0),
  (8, .ifCond .eq 14, 3, .null, 10, 0, 0, 0), (11, .aload_n 0, 1, .null, 0, 0, 0, 0), (12, .getfield 23, 3, .null, 10, 3, 8077, 0), (15, .iload_n 2, 1, .null, 0, 0, 0, 0),
  (16, .invokevirtual 134, 3, .null, 0, 23, 9078, 0), (19, .ifCond .ne 6, 3, .null, 12, 0, 0, 0), (22, .bipush (-2), 2, .null, 0, 0, 0, 0), (24, .ireturn, 1, .null, 0, 0, 0, 0),
  (25, .aload_n 0, 1, .null, 0, 0, 0, 0), (26, .getfield 79, 3, .null, 10, 13, 8087, 0), (29, .aload_n 0, 1, .null, 0, 0, 0, 0), (30, .getfield 23, 3, .null, 10, 3, 8077, 0),
  (33, .invokevirtual 285, 3, .null, 0, 53, 11024, 0), (36, .aload_n 0, 1, .null, 0, 0, 0, 0), (37, .getfield 79, 3, .null, 10, 13, 8087, 0), (40, .iload_n 1, 1, .null, 0, 0, 0, 0),
  (41, .iload_n 2, 1, .null, 0, 0, 0, 0), (42, .invokevirtual 235, 3, .null, 0, 51, 10095, 0), (45, .iconst (-1), 1, .null, 0, 0, 0, 0), (46, .if_icmp .ne 7, 3, .null, 26, 0, 0, 0),
  (49, .iconst 1, 1, .null, 0, 0, 0, 0), (50, .goto 4, 3, .null, 27, 0, 0, 0), (53, .iconst 0, 1, .null, 0, 0, 0, 0), (54, .ireturn, 1, .null, 0, 0, 0, 0)]
def ar_159 : List ai_R := [(0, .aload_n 0, 1, .null, 0, 0, 0, 0), (1, .getfield 79, 3, .null, 10, 13, 8087, 0), (4, .aload_n 0, 1, .null, 0, 0, 0, 0), (5, .getfield 23, 3, .null, 10, 3, 8077, 0),
  (8, .invokevirtual 285, 3, .null, 0, 53, 11024, 0), (11, .iconst 0, 1, .null, 0, 0, 0, 0), (12, .istore_n 1, 1, .null, 0, 0, 0, 0), (13, .iconst 0, 1, .null, 0, 0, 0, 0),
  (14, .istore_n 2, 1, .null, 0, 0, 0, 0), (15, .iload_n 2, 1, .null, 0, 0, 0, 0), (16, .aload_n 0, 1, .null, 0, 0, 0, 0), (17, .getfield 23, 3, .null, 10, 3, 8077, 0),
  (20, .getfield 226, 3, .null, 2, 0, 7073, 0), (23, .if_icmp .ge 23, 3, .null, 22, 0, 0, 0), (26, .aload_n 0, 1, .null, 0, 0, 0, 0), (27, .getfield 79, 3, .null, 10, 13, 8087, 0),
  (30, .iload_n 2, 1, .null, 0, 0, 0, 0), (31, .invokevirtual 288, 3, .null, 0, 59, 11033, 0), (34, .ifCond .eq 6, 3, .null, 20, 0, 0, 0), (37, .iinc 1 1, 3, .null, 0, 0, 0, 0),
  (40, .iinc 2 1, 3, .null, 0, 0, 0, 0), (43, .goto (-28), 3, .null, 9, 0, 0, 0), (46, .iload_n 1, 1, .null, 0, 0, 0, 0), (47, .ireturn, 1, .null, 0, 0, 0, 0)]
def ar_160 : List ai_R := [(0, .aload_n 0, 1, .null, 0, 0, 0, 0), (1, .getfield 23, 3, .null, 10, 3, 8077, 0), (4, .iload_n 1, 1, .null, 0, 0, 0, 0), (5, .invokevirtual 134, 3, .null, 0, 23, 9078, 0),
  (8, .ifCond .eq 14, 3, .null, 10, 0, 0, 0), (11, .aload_n 0, 1, .null, 0, 0, 0, 0), (12, .getfield 23, 3, .null, 10, 3, 8077, 0), (15, .iload_n 2, 1, .null, 0, 0, 0, 0),
  (16, .invokevirtual 134, 3, .null, 0, 23, 9078, 0), (19, .ifCond .ne 6, 3, .null, 12, 0, 0, 0), (22, .bipush (-2), 2, .null, 0, 0, 0, 0), (24, .ireturn, 1, .null, 0, 0, 0, 0),
  (25, .aload_n 0, 1, .null, 0, 0, 0, 0), (26, .getfield 79, 3, .null, 10, 13, 8087, 0), (29, .aload_n 0, 1, .null, 0, 0, 0, 0), (30, .getfield 23, 3, .null, 10, 3, 8077, 0),
  (33, .invokevirtual 285, 3, .null, 0, 53, 11024, 0), (36, .aload_n 0, 1, .null, 0, 0, 0, 0), (37, .getfield 79, 3, .null, 10, 13, 8087, 0), (40, .iload_n 1, 1, .null, 0, 0, 0, 0),
  (41, .iload_n 2, 1, .null, 0, 0, 0, 0), (42, .invokevirtual 235, 3, .null, 0, 51, 10095, 0), (45, .istore_n 3, 1, .null, 0, 0, 0, 0), (46, .iload_n 3, 1, .null, 0, 0, 0, 0),
  (47, .iconst (-1), 1, .null, 0, 0, 0, 0), (48, .if_icmp .ne 5, 3, .null, 28, 0, 0, 0), (51, .iconst (-1), 1, .null, 0, 0, 0, 0), (52, .ireturn, 1, .null, 0, 0, 0, 0),
  (53, .aload_n 0, 1, .null, 0, 0, 0, 0), (54, .getfield 37, 3, .null, 10, 6, 8080, 0), (57, .invokevirtual 238, 3, .null, 0, 88, 9158, 0), (60, .aload_n 0, 1, .null, 0, 0, 0, 0),
  (61, .getfield 79, 3, .null, 10, 13, 8087, 0), (64, .aload_n 0, 1, .null, 0, 0, 0, 0), (65, .getfield 23, 3, .null, 10, 3, 8077, 0), (68, .iload_n 1, 1, .null, 0, 0, 0, 0),
  (69, .iload_n 2, 1, .null, 0, 0, 0, 0), (70, .aload_n 0, 1, .null, 0, 0, 0, 0), (71, .getfield 37, 3, .null, 10, 6, 8080, 0), (74, .invokevirtual 249, 3, .null, 0, 57, 10113, 0),
  (77, .aload_n 0, 1, .null, 0, 0, 0, 0), (78, .getfield 33, 3, .null, 10, 5, 8079, 0), (81, .aload_n 0, 1, .null, 0, 0, 0, 0), (82, .getfield 37, 3, .null, 10, 6, 8080, 0),
  (85, .invokevirtual 256, 3, .null, 0, 92, 10122, 0), (88, .iload_n 3, 1, .null, 0, 0, 0, 0), (89, .ireturn, 1, .null, 0, 0, 0, 0)]
def ar_161 : List ai_R := [(0, .aload_n 0, 1, .null, 0, 0, 0, 0), (1, .getfield 23, 3, .null, 10, 3, 8077, 0), (4, .iload_n 2, 1, .null, 0, 0, 0, 0), (5, .invokevirtual 134, 3, .null, 0, 23, 9078, 0),
  (8, .ifCond .ne 6, 3, .null, 7, 0, 0, 0), (11, .bipush (-2), 2, .null, 0, 0, 0, 0), (13, .ireturn, 1, .null, 0, 0, 0, 0), (14, .iload_n 1, 1, .null, 0, 0, 0, 0),
  (15, .invokestatic 241, 3, .null, 1, 290, 10107, 0), (18, .istore_n 3, 1, .null, 0, 0, 0, 0), (19, .iload_n 1, 1, .null, 0, 0, 0, 0), (20, .ifCond .lt 26, 3, .null, 25, 0, 0, 0),
  (23, .iload_n 1, 1, .null, 0, 0, 0, 0), (24, .iconst 1, 1, .null, 0, 0, 0, 0), (25, .aload_n 0, 1, .null, 0, 0, 0, 0), (26, .getfield 23, 3, .null, 10, 3, 8077, 0),
  (29, .getfield 291, 3, .null, 2, 4, 7096, 0), (32, .ishl, 1, .null, 0, 0, 0, 0), (33, .if_icmp .ge 13, 3, .null, 25, 0, 0, 0), (36, .iload_n 3, 1, .null, 0, 0, 0, 0),
  (37, .iconst 2, 1, .null, 0, 0, 0, 0), (38, .if_icmp .lt 8, 3, .null, 25, 0, 0, 0), (41, .iload_n 3, 1, .null, 0, 0, 0, 0), (42, .iconst 3, 1, .null, 0, 0, 0, 0),
  (43, .if_icmp .le 6, 3, .null, 27, 0, 0, 0), (46, .bipush (-3), 2, .null, 0, 0, 0, 0), (48, .ireturn, 1, .null, 0, 0, 0, 0), (49, .aload_n 0, 1, .null, 0, 0, 0, 0),
  (50, .getfield 86, 3, .null, 10, 14, 8088, 0), (53, .iload_n 1, 1, .null, 0, 0, 0, 0), (54, .iload_n 2, 1, .null, 0, 0, 0, 0), (55, .aload_n 0, 1, .null, 0, 0, 0, 0),
  (56, .getfield 33, 3, .null, 10, 5, 8079, 0), (59, .invokevirtual 294, 3, .null, 0, 13, 11045, 0), (62, .ireturn, 1, .null, 0, 0, 0, 0)]
def ar_162 : List ai_R := [(0, .aload_n 0, 1, .null, 0, 0, 0, 0), (1, .iload_n 1, 1, .null, 0, 0, 0, 0), (2, .iload_n 2, 1, .null, 0, 0, 0, 0), (3, .invokevirtual 298, 3, .null, 0, 165, 11078, 0),
  (6, .ifCond .ne 6, 3, .null, 7, 0, 0, 0), (9, .bipush (-2), 2, .null, 0, 0, 0, 0), (11, .ireturn, 1, .null, 0, 0, 0, 0), (12, .iload_n 3, 1, .null, 0, 0, 0, 0),
  (13, .ifCond .lt 16, 3, .null, 16, 0, 0, 0), (16, .iload_n 3, 1, .null, 0, 0, 0, 0), (17, .iconst 1, 1, .null, 0, 0, 0, 0), (18, .aload_n 0, 1, .null, 0, 0, 0, 0),
  (19, .getfield 23, 3, .null, 10, 3, 8077, 0), (22, .getfield 173, 3, .null, 2, 1, 7081, 0), (25, .ishl, 1, .null, 0, 0, 0, 0), (26, .if_icmp .lt 6, 3, .null, 18, 0, 0, 0),
  (29, .bipush (-3), 2, .null, 0, 0, 0, 0), (31, .ireturn, 1, .null, 0, 0, 0, 0), (32, .aload_n 0, 1, .null, 0, 0, 0, 0), (33, .getfield 86, 3, .null, 10, 14, 8088, 0),
  (36, .aload_n 0, 1, .null, 0, 0, 0, 0), (37, .getfield 23, 3, .null, 10, 3, 8077, 0), (40, .iload_n 1, 1, .null, 0, 0, 0, 0), (41, .invokevirtual 164, 3, .null, 0, 31, 9111, 0),
  (44, .aload_n 0, 1, .null, 0, 0, 0, 0), (45, .getfield 23, 3, .null, 10, 3, 8077, 0), (48, .iload_n 2, 1, .null, 0, 0, 0, 0), (49, .invokevirtual 164, 3, .null, 0, 31, 9111, 0),
  (52, .iload_n 3, 1, .null, 0, 0, 0, 0), (53, .aload_n 0, 1, .null, 0, 0, 0, 0), (54, .getfield 33, 3, .null, 10, 5, 8079, 0), (57, .invokevirtual 302, 3, .null, 0, 19, 11082, 0),
  (60, .ireturn, 1, .null, 0, 0, 0, 0)]
def ar_163 : List ai_R := [(0, .aload_n 0, 1, .null, 0, 0, 0, 0), (1, .iload_n 1, 1, .null, 0, 0, 0, 0), (2, .iload_n 2, 1, .null, 0, 0, 0, 0), (3, .invokevirtual 298, 3, .null, 0, 165, 11078, 0),
  (6, .ifCond .ne 6, 3, .null, 7, 0, 0, 0), (9, .bipush (-2), 2, .null, 0, 0, 0, 0), (11, .ireturn, 1, .null, 0, 0, 0, 0), (12, .iload_n 3, 1, .null, 0, 0, 0, 0),
  (13, .ifCond .lt 9, 3, .null, 12, 0, 0, 0), (16, .iload_n 3, 1, .null, 0, 0, 0, 0), (17, .bipush 40, 2, .null, 0, 0, 0, 0), (19, .if_icmp .le 6, 3, .null, 14, 0, 0, 0),
  (22, .bipush (-3), 2, .null, 0, 0, 0, 0), (24, .ireturn, 1, .null, 0, 0, 0, 0), (25, .aload_n 0, 1, .null, 0, 0, 0, 0), (26, .getfield 79, 3, .null, 10, 13, 8087, 0),
  (29, .aload_n 0, 1, .null, 0, 0, 0, 0), (30, .getfield 23, 3, .null, 10, 3, 8077, 0), (33, .aload_n 0, 1, .null, 0, 0, 0, 0), (34, .getfield 23, 3, .null, 10, 3, 8077, 0),
  (37, .iload_n 1, 1, .null, 0, 0, 0, 0), (38, .invokevirtual 164, 3, .null, 0, 31, 9111, 0), (41, .aload_n 0, 1, .null, 0, 0, 0, 0), (42, .getfield 23, 3, .null, 10, 3, 8077, 0),
  (45, .iload_n 2, 1, .null, 0, 0, 0, 0), (46, .invokevirtual 164, 3, .null, 0, 31, 9111, 0), (49, .iload_n 3, 1, .null, 0, 0, 0, 0), (50, .invokevirtual 305, 3, .null, 0, 63, 11090, 0),
  (53, .ireturn, 1, .null, 0, 0, 0, 0)]
def ar_164 : List ai_R := [(0, .aload_n 0, 1, .null, 0, 0, 0, 0), (1, .iload_n 1, 1, .null, 0, 0, 0, 0), (2, .iload_n 2, 1, .null, 0, 0, 0, 0), (3, .invokevirtual 298, 3, .null, 0, 165, 11078, 0),
  (6, .ifCond .ne 6, 3, .null, 7, 0, 0, 0), (9, .bipush (-2), 2, .null, 0, 0, 0, 0), (11, .ireturn, 1, .null, 0, 0, 0, 0), (12, .iload_n 3, 1, .null, 0, 0, 0, 0),
  (13, .ifCond .lt 9, 3, .null, 12, 0, 0, 0), (16, .iload_n 3, 1, .null, 0, 0, 0, 0), (17, .bipush 40, 2, .null, 0, 0, 0, 0), (19, .if_icmp .le 6, 3, .null, 14, 0, 0, 0),
  (22, .bipush (-3), 2, .null, 0, 0, 0, 0), (24, .ireturn, 1, .null, 0, 0, 0, 0), (25, .aload_n 0, 1, .null, 0, 0, 0, 0), (26, .getfield 79, 3, .null, 10, 13, 8087, 0),
  (29, .aload_n 0, 1, .null, 0, 0, 0, 0), (30, .getfield 23, 3, .null, 10, 3, 8077, 0), (33, .aload_n 0, 1, .null, 0, 0, 0, 0), (34, .getfield 23, 3, .null, 10, 3, 8077, 0),
  (37, .iload_n 1, 1, .null, 0, 0, 0, 0), (38, .invokevirtual 164, 3, .null, 0, 31, 9111, 0), (41, .aload_n 0, 1, .null, 0, 0, 0, 0), (42, .getfield 23, 3, .null, 10, 3, 8077, 0),
  (45, .iload_n 2, 1, .null, 0, 0, 0, 0), (46, .invokevirtual 164, 3, .null, 0, 31, 9111, 0), (49, .iload_n 3, 1, .null, 0, 0, 0, 0), (50, .aload_n 0, 1, .null, 0, 0, 0, 0),
  (51, .getfield 33, 3, .null, 10, 5, 8079, 0), (54, .invokevirtual 309, 3, .null, 0, 65, 11104, 0), (57, .ireturn, 1, .null, 0, 0, 0, 0)]
def ar_165 : List ai_R := [(0, .aload_n 0, 1, .null, 0, 0, 0, 0), (1, .getfield 23, 3, .null, 10, 3, 8077, 0), (4, .iload_n 1, 1, .null, 0, 0, 0, 0), (5, .invokevirtual 161, 3, .null, 0, 25, 9107, 0),
  (8, .ifCond .eq 23, 3, .null, 15, 0, 0, 0), (11, .aload_n 0, 1, .null, 0, 0, 0, 0), (12, .getfield 23, 3, .null, 10, 3, 8077, 0), (15, .iload_n 2, 1, .null, 0, 0, 0, 0),
  (16, .invokevirtual 161, 3, .null, 0, 25, 9107, 0), (19, .ifCond .eq 12, 3, .null, 15, 0, 0, 0), (22, .iload_n 1, 1, .null, 0, 0, 0, 0), (23, .iload_n 2, 1, .null, 0, 0, 0, 0),
  (24, .if_icmp .eq 7, 3, .null, 15, 0, 0, 0), (27, .iconst 1, 1, .null, 0, 0, 0, 0), (28, .goto 4, 3, .null, 16, 0, 0, 0), (31, .iconst 0, 1, .null, 0, 0, 0, 0),
  (32, .ireturn, 1, .null, 0, 0, 0, 0)]
def ar_166 : List ai_R := [(0, .aload_n 0, 1, .null, 0, 0, 0, 0), (1, .iload_n 1, 1, .null, 0, 0, 0, 0), (2, .invokevirtual 170, 3, .null, 0, 179, 9138, 0), (5, .ifCond .eq 23, 3, .null, 14, 0, 0, 0),
  (8, .aload_n 0, 1, .null, 0, 0, 0, 0), (9, .getfield 23, 3, .null, 10, 3, 8077, 0), (12, .iload_n 2, 1, .null, 0, 0, 0, 0), (13, .invokevirtual 134, 3, .null, 0, 23, 9078, 0),
  (16, .ifCond .eq 12, 3, .null, 14, 0, 0, 0), (19, .iload_n 3, 1, .null, 0, 0, 0, 0), (20, .ifCond .lt 8, 3, .null, 14, 0, 0, 0), (23, .iload_n 3, 1, .null, 0, 0, 0, 0),
  (24, .iconst 1, 1, .null, 0, 0, 0, 0), (25, .if_icmp .le 6, 3, .null, 16, 0, 0, 0), (28, .bipush (-2), 2, .null, 0, 0, 0, 0), (30, .ireturn, 1, .null, 0, 0, 0, 0),
  (31, .aload_n 0, 1, .null, 0, 0, 0, 0), (32, .iload_n 1, 1, .null, 0, 0, 0, 0), (33, .invokevirtual 183, 3, .null, 0, 180, 9154, 0), (36, .istore 4, 2, .null, 0, 0, 0, 0),
  (38, .iload 4, 2, .null, 0, 0, 0, 0), (40, .ifCond .eq 6, 3, .null, 24, 0, 0, 0), (43, .iload 4, 2, .null, 0, 0, 0, 0), (45, .ireturn, 1, .null, 0, 0, 0, 0),
  (46, .iload_n 2, 1, .null, 0, 0, 0, 0), (47, .istore 5, 2, .null, 0, 0, 0, 0), (49, .iconst 0, 1, .null, 0, 0, 0, 0), (50, .istore 6, 2, .null, 0, 0, 0, 0),
  (52, .iload 6, 2, .null, 0, 0, 0, 0), (54, .aload_n 0, 1, .null, 0, 0, 0, 0), (55, .getfield 23, 3, .null, 10, 3, 8077, 0), (58, .getfield 226, 3, .null, 2, 0, 7073, 0),
  (61, .if_icmp .ge 31, 3, .null, 45, 0, 0, 0), (64, .aload_n 0, 1, .null, 0, 0, 0, 0), (65, .getfield 23, 3, .null, 10, 3, 8077, 0), (68, .aload_n 0, 1, .null, 0, 0, 0, 0),
  (69, .getfield 37, 3, .null, 10, 6, 8080, 0), (72, .aload_n 0, 1, .null, 0, 0, 0, 0), (73, .getfield 37, 3, .null, 10, 6, 8080, 0), (76, .getfield 186, 3, .null, 6, 0, 7144, 0),
  (79, .iload 5, 2, .null, 0, 0, 0, 0), (81, .invokevirtual 189, 3, .null, 0, 41, 9170, 0), (84, .istore 5, 2, .null, 0, 0, 0, 0), (86, .iinc 6 1, 3, .null, 0, 0, 0, 0),
  (89, .goto (-37), 3, .null, 28, 0, 0, 0), (92, .iconst 1, 1, .null, 0, 0, 0, 0), (93, .istore 6, 2, .null, 0, 0, 0, 0), (95, .aload_n 0, 1, .null, 0, 0, 0, 0),
  (96, .getfield 23, 3, .null, 10, 3, 8077, 0), (99, .aload_n 0, 1, .null, 0, 0, 0, 0), (100, .getfield 37, 3, .null, 10, 6, 8080, 0), (103, .aload_n 0, 1, .null, 0, 0, 0, 0),
  (104, .getfield 37, 3, .null, 10, 6, 8080, 0), (107, .getfield 186, 3, .null, 6, 0, 7144, 0), (110, .iload 5, 2, .null, 0, 0, 0, 0), (112, .invokevirtual 189, 3, .null, 0, 41, 9170, 0),
  (115, .istore 7, 2, .null, 0, 0, 0, 0), (117, .iconst 0, 1, .null, 0, 0, 0, 0), (118, .istore 8, 2, .null, 0, 0, 0, 0), (120, .iload 8, 2, .null, 0, 0, 0, 0),
  (122, .bipush 14, 2, .null, 0, 0, 0, 0), (124, .if_icmp .ge 41, 3, .null, 78, 0, 0, 0), (127, .iload 7, 2, .null, 0, 0, 0, 0), (129, .iload 5, 2, .null, 0, 0, 0, 0),
  (131, .if_icmp .eq 34, 3, .null, 78, 0, 0, 0), (134, .aload_n 0, 1, .null, 0, 0, 0, 0), (135, .getfield 23, 3, .null, 10, 3, 8077, 0), (138, .aload_n 0, 1, .null, 0, 0, 0, 0),
  (139, .getfield 37, 3, .null, 10, 6, 8080, 0), (142, .aload_n 0, 1, .null, 0, 0, 0, 0), (143, .getfield 37, 3, .null, 10, 6, 8080, 0), (146, .getfield 186, 3, .null, 6, 0, 7144, 0),
  (149, .iload 7, 2, .null, 0, 0, 0, 0), (151, .invokevirtual 189, 3, .null, 0, 41, 9170, 0), (154, .istore 7, 2, .null, 0, 0, 0, 0), (156, .iinc 6 1, 3, .null, 0, 0, 0, 0),
  (159, .iinc 8 1, 3, .null, 0, 0, 0, 0), (162, .goto (-42), 3, .null, 59, 0, 0, 0), (165, .iload_n 3, 1, .null, 0, 0, 0, 0), (166, .iconst 1, 1, .null, 0, 0, 0, 0),
  (167, .if_icmp .ne 8, 3, .null, 83, 0, 0, 0), (170, .iload 6, 2, .null, 0, 0, 0, 0), (172, .goto 10, 3, .null, 87, 0, 0, 0), (175, .aload_n 0, 1, .null, 0, 0, 0, 0),
  (176, .iload_n 2, 1, .null, 0, 0, 0, 0), (177, .iload 6, 2, .null, 0, 0, 0, 0), (179, .invokevirtual 313, 3, .null, 0, 167, 11124, 0), (182, .ireturn, 1, .null, 0, 0, 0, 0)]
def ar_167 : List ai_R := [(0, .iload_n 1, 1, .null, 0, 0, 0, 0), (1, .istore_n 3, 1, .null, 0, 0, 0, 0), (2, .iconst 0, 1, .null, 0, 0, 0, 0), (3, .istore 4, 2, .null, 0, 0, 0, 0),
  (5, .iload 4, 2, .null, 0, 0, 0, 0), (7, .iload_n 2, 1, .null, 0, 0, 0, 0), (8, .if_icmp .ge 29, 3, .null, 19, 0, 0, 0), (11, .aload_n 0, 1, .null, 0, 0, 0, 0),
  (12, .getfield 23, 3, .null, 10, 3, 8077, 0), (15, .aload_n 0, 1, .null, 0, 0, 0, 0), (16, .getfield 37, 3, .null, 10, 6, 8080, 0), (19, .aload_n 0, 1, .null, 0, 0, 0, 0),
  (20, .getfield 37, 3, .null, 10, 6, 8080, 0), (23, .getfield 186, 3, .null, 6, 0, 7144, 0), (26, .iload_n 3, 1, .null, 0, 0, 0, 0), (27, .invokevirtual 189, 3, .null, 0, 41, 9170, 0),
  (30, .istore_n 3, 1, .null, 0, 0, 0, 0), (31, .iinc 4 1, 3, .null, 0, 0, 0, 0), (34, .goto (-29), 3, .null, 4, 0, 0, 0), (37, .iload_n 1, 1, .null, 0, 0, 0, 0),
  (38, .istore 4, 2, .null, 0, 0, 0, 0), (40, .iconst 0, 1, .null, 0, 0, 0, 0), (41, .istore 5, 2, .null, 0, 0, 0, 0), (43, .iconst 0, 1, .null, 0, 0, 0, 0),
  (44, .istore 6, 2, .null, 0, 0, 0, 0), (46, .iload 6, 2, .null, 0, 0, 0, 0), (48, .bipush 14, 2, .null, 0, 0, 0, 0), (50, .if_icmp .ge 60, 3, .null, 54, 0, 0, 0),
  (53, .iload 4, 2, .null, 0, 0, 0, 0), (55, .iload_n 3, 1, .null, 0, 0, 0, 0), (56, .if_icmp .eq 54, 3, .null, 54, 0, 0, 0), (59, .aload_n 0, 1, .null, 0, 0, 0, 0),
  (60, .getfield 23, 3, .null, 10, 3, 8077, 0), (63, .aload_n 0, 1, .null, 0, 0, 0, 0), (64, .getfield 37, 3, .null, 10, 6, 8080, 0), (67, .aload_n 0, 1, .null, 0, 0, 0, 0),
  (68, .getfield 37, 3, .null, 10, 6, 8080, 0), (71, .getfield 186, 3, .null, 6, 0, 7144, 0), (74, .iload 4, 2, .null, 0, 0, 0, 0), (76, .invokevirtual 189, 3, .null, 0, 41, 9170, 0),
  (79, .istore 4, 2, .null, 0, 0, 0, 0), (81, .aload_n 0, 1, .null, 0, 0, 0, 0), (82, .getfield 23, 3, .null, 10, 3, 8077, 0), (85, .aload_n 0, 1, .null, 0, 0, 0, 0),
  (86, .getfield 37, 3, .null, 10, 6, 8080, 0), (89, .aload_n 0, 1, .null, 0, 0, 0, 0), (90, .getfield 37, 3, .null, 10, 6, 8080, 0), (93, .getfield 186, 3, .null, 6, 0, 7144, 0),
  (96, .iload_n 3, 1, .null, 0, 0, 0, 0), (97, .invokevirtual 189, 3, .null, 0, 41, 9170, 0), (100, .istore_n 3, 1, .null, 0, 0, 0, 0), (101, .iinc 5 1, 3, .null, 0, 0, 0, 0),
  (104, .iinc 6 1, 3, .null, 0, 0, 0, 0), (107, .goto (-61), 3, .null, 25, 0, 0, 0), (110, .iload 5, 2, .null, 0, 0, 0, 0), (112, .ireturn, 1, .null, 0, 0, 0, 0)]
def ar_168 : List ai_R := [(0, .aload_n 0, 1, .null, 0, 0, 0, 0), (1, .iload_n 1, 1, .null, 0, 0, 0, 0), (2, .invokevirtual 170, 3, .null, 0, 179, 9138, 0), (5, .ifCond .eq 25, 3, .null, 14, 0, 0, 0),
  (8, .aload_n 0, 1, .null, 0, 0, 0, 0), (9, .getfield 23, 3, .null, 10, 3, 8077, 0), (12, .iload_n 2, 1, .null, 0, 0, 0, 0), (13, .invokevirtual 161, 3, .null, 0, 25, 9107, 0),
  (16, .ifCond .eq 14, 3, .null, 14, 0, 0, 0), (19, .aload_n 0, 1, .null, 0, 0, 0, 0), (20, .getfield 23, 3, .null, 10, 3, 8077, 0), (23, .iload_n 3, 1, .null, 0, 0, 0, 0),
  (24, .invokevirtual 134, 3, .null, 0, 23, 9078, 0), (27, .ifCond .ne 7, 3, .null, 16, 0, 0, 0), (30, .ldc2_w 316, 3, .long (-2), 0, 0, 11132, 0), (33, .lreturn, 1, .null, 0, 0, 0, 0),
  (34, .aload_n 0, 1, .null, 0, 0, 0, 0), (35, .iload_n 1, 1, .null, 0, 0, 0, 0), (36, .invokevirtual 183, 3, .null, 0, 180, 9154, 0), (39, .istore 4, 2, .null, 0, 0, 0, 0),
  (41, .iload 4, 2, .null, 0, 0, 0, 0), (43, .ifCond .eq 7, 3, .null, 25, 0, 0, 0), (46, .iload 4, 2, .null, 0, 0, 0, 0), (48, .i2l, 1, .null, 0, 0, 0, 0),
  (49, .lreturn, 1, .null, 0, 0, 0, 0), (50, .aload_n 0, 1, .null, 0, 0, 0, 0), (51, .getfield 37, 3, .null, 10, 6, 8080, 0), (54, .getfield 186, 3, .null, 6, 0, 7144, 0),
  (57, .bipush 8, 2, .null, 0, 0, 0, 0), (59, .if_icmp .le 7, 3, .null, 32, 0, 0, 0), (62, .ldc2_w 318, 3, .long (-3), 0, 0, 11133, 0), (65, .lreturn, 1, .null, 0, 0, 0, 0),
  (66, .aload_n 0, 1, .null, 0, 0, 0, 0), (67, .getfield 102, 3, .null, 10, 16, 8090, 0), (70, .aload_n 0, 1, .null, 0, 0, 0, 0), (71, .getfield 37, 3, .null, 10, 6, 8080, 0),
  (74, .iload_n 3, 1, .null, 0, 0, 0, 0), (75, .aload_n 0, 1, .null, 0, 0, 0, 0), (76, .getfield 23, 3, .null, 10, 3, 8077, 0), (79, .iload_n 2, 1, .null, 0, 0, 0, 0),
  (80, .invokevirtual 164, 3, .null, 0, 31, 9111, 0), (83, .invokevirtual 320, 3, .null, 0, 1, 11134, 0), (86, .lreturn, 1, .null, 0, 0, 0, 0)]
def ar_169 : List ai_R := [(0, .aload_n 0, 1, .null, 0, 0, 0, 0), (1, .iload_n 1, 1, .null, 0, 0, 0, 0), (2, .invokevirtual 170, 3, .null, 0, 179, 9138, 0), (5, .ifCond .ne 6, 3, .null, 6, 0, 0, 0),
  (8, .bipush (-2), 2, .null, 0, 0, 0, 0), (10, .ireturn, 1, .null, 0, 0, 0, 0), (11, .aload_n 0, 1, .null, 0, 0, 0, 0), (12, .getfield 23, 3, .null, 10, 3, 8077, 0),
  (15, .getfield 226, 3, .null, 2, 0, 7073, 0), (18, .ifCond .ne 6, 3, .null, 12, 0, 0, 0), (21, .bipush (-5), 2, .null, 0, 0, 0, 0), (23, .ireturn, 1, .null, 0, 0, 0, 0),
  (24, .aload_n 0, 1, .null, 0, 0, 0, 0), (25, .iload_n 1, 1, .null, 0, 0, 0, 0), (26, .invokevirtual 183, 3, .null, 0, 180, 9154, 0), (29, .istore_n 2, 1, .null, 0, 0, 0, 0),
  (30, .iload_n 2, 1, .null, 0, 0, 0, 0), (31, .ifCond .eq 5, 3, .null, 20, 0, 0, 0), (34, .iload_n 2, 1, .null, 0, 0, 0, 0), (35, .ireturn, 1, .null, 0, 0, 0, 0),
  (36, .aload_n 0, 1, .null, 0, 0, 0, 0), (37, .getfield 37, 3, .null, 10, 6, 8080, 0), (40, .getfield 186, 3, .null, 6, 0, 7144, 0), (43, .iconst 4, 1, .null, 0, 0, 0, 0),
  (44, .if_icmp .le 8, 3, .null, 27, 0, 0, 0), (47, .bipush (-3), 2, .null, 0, 0, 0, 0), (49, .goto 14, 3, .null, 32, 0, 0, 0), (52, .aload_n 0, 1, .null, 0, 0, 0, 0),
  (53, .getfield 102, 3, .null, 10, 16, 8090, 0), (56, .aload_n 0, 1, .null, 0, 0, 0, 0), (57, .getfield 37, 3, .null, 10, 6, 8080, 0), (60, .invokevirtual 324, 3, .null, 0, 3, 11152, 0),
  (63, .ireturn, 1, .null, 0, 0, 0, 0)]
def ar_170 : List ai_R := [(0, .aload_n 0, 1, .null, 0, 0, 0, 0), (1, .getfield 23, 3, .null, 10, 3, 8077, 0), (4, .getfield 226, 3, .null, 2, 0, 7073, 0), (7, .ifCond .ne 6, 3, .null, 6, 0, 0, 0),
  (10, .bipush (-5), 2, .null, 0, 0, 0, 0), (12, .ireturn, 1, .null, 0, 0, 0, 0), (13, .iload_n 1, 1, .null, 0, 0, 0, 0), (14, .ifCond .lt 8, 3, .null, 11, 0, 0, 0),
  (17, .iload_n 1, 1, .null, 0, 0, 0, 0), (18, .iconst 4, 1, .null, 0, 0, 0, 0), (19, .if_icmp .le 8, 3, .null, 13, 0, 0, 0), (22, .bipush (-3), 2, .null, 0, 0, 0, 0),
  (24, .goto 19, 3, .null, 21, 0, 0, 0), (27, .aload_n 0, 1, .null, 0, 0, 0, 0), (28, .getfield 102, 3, .null, 10, 16, 8090, 0), (31, .iload_n 1, 1, .null, 0, 0, 0, 0),
  (32, .aload_n 0, 1, .null, 0, 0, 0, 0), (33, .getfield 37, 3, .null, 10, 6, 8080, 0), (36, .aload_n 0, 1, .null, 0, 0, 0, 0), (37, .getfield 33, 3, .null, 10, 5, 8079, 0),
  (40, .invokevirtual 328, 3, .null, 0, 4, 11163, 0), (43, .ireturn, 1, .null, 0, 0, 0, 0)]
def ar_171 : List ai_R := [(0, .aload_n 0, 1, .null, 0, 0, 0, 0), (1, .iload_n 1, 1, .null, 0, 0, 0, 0), (2, .invokevirtual 170, 3, .null, 0, 179, 9138, 0), (5, .ifCond .eq 14, 3, .null, 9, 0, 0, 0),
  (8, .aload_n 0, 1, .null, 0, 0, 0, 0), (9, .getfield 23, 3, .null, 10, 3, 8077, 0), (12, .iload_n 3, 1, .null, 0, 0, 0, 0), (13, .invokevirtual 161, 3, .null, 0, 25, 9107, 0),
  (16, .ifCond .ne 6, 3, .null, 11, 0, 0, 0), (19, .bipush (-2), 2, .null, 0, 0, 0, 0), (21, .ireturn, 1, .null, 0, 0, 0, 0), (22, .aload_n 0, 1, .null, 0, 0, 0, 0),
  (23, .iload_n 1, 1, .null, 0, 0, 0, 0), (24, .invokevirtual 183, 3, .null, 0, 180, 9154, 0), (27, .istore 4, 2, .null, 0, 0, 0, 0), (29, .iload 4, 2, .null, 0, 0, 0, 0),
  (31, .ifCond .eq 6, 3, .null, 19, 0, 0, 0), (34, .iload 4, 2, .null, 0, 0, 0, 0), (36, .ireturn, 1, .null, 0, 0, 0, 0), (37, .aload_n 0, 1, .null, 0, 0, 0, 0),
  (38, .getfield 86, 3, .null, 10, 14, 8088, 0), (41, .invokevirtual 193, 3, .null, 0, 6, 9182, 0), (44, .iload_n 2, 1, .null, 0, 0, 0, 0), (45, .istore 5, 2, .null, 0, 0, 0, 0),
  (47, .iconst 0, 1, .null, 0, 0, 0, 0), (48, .istore 6, 2, .null, 0, 0, 0, 0), (50, .iload 6, 2, .null, 0, 0, 0, 0), (52, .aload_n 0, 1, .null, 0, 0, 0, 0),
  (53, .getfield 37, 3, .null, 10, 6, 8080, 0), (56, .getfield 186, 3, .null, 6, 0, 7144, 0), (59, .if_icmp .ge 29, 3, .null, 42, 0, 0, 0), (62, .aload_n 0, 1, .null, 0, 0, 0, 0),
  (63, .getfield 86, 3, .null, 10, 14, 8088, 0), (66, .aload_n 0, 1, .null, 0, 0, 0, 0), (67, .getfield 37, 3, .null, 10, 6, 8080, 0), (70, .iload 6, 2, .null, 0, 0, 0, 0),
  (72, .invokevirtual 196, 3, .null, 0, 90, 9187, 0), (75, .iload 5, 2, .null, 0, 0, 0, 0), (77, .invokevirtual 332, 3, .null, 0, 9, 11175, 0), (80, .istore 5, 2, .null, 0, 0, 0, 0),
  (82, .iinc 6 1, 3, .null, 0, 0, 0, 0), (85, .goto (-35), 3, .null, 26, 0, 0, 0), (88, .aload_n 0, 1, .null, 0, 0, 0, 0), (89, .getfield 86, 3, .null, 10, 14, 8088, 0),
  (92, .iload_n 3, 1, .null, 0, 0, 0, 0), (93, .invokevirtual 335, 3, .null, 0, 7, 11182, 0), (96, .ireturn, 1, .null, 0, 0, 0, 0)]
def ar_172 : List ai_R := [(0, .iload_n 1, 1, .null, 0, 0, 0, 0), (1, .iconst (-1), 1, .null, 0, 0, 0, 0), (2, .if_icmp .ne 11, 3, .null, 7, 0, 0, 0), (5, .aload_n 0, 1, .null, 0, 0, 0, 0),
  (6, .getfield 33, 3, .null, 10, 5, 8079, 0), (9, .getfield 186, 3, .null, 6, 0, 7144, 0), (12, .ireturn, 1, .null, 0, 0, 0, 0), (13, .iload_n 1, 1, .null, 0, 0, 0, 0),
  (14, .ifCond .lt 25, 3, .null, 19, 0, 0, 0), (17, .iload_n 1, 1, .null, 0, 0, 0, 0), (18, .aload_n 0, 1, .null, 0, 0, 0, 0), (19, .getfield 33, 3, .null, 10, 5, 8079, 0),
  (22, .getfield 186, 3, .null, 6, 0, 7144, 0), (25, .if_icmp .ge 14, 3, .null, 19, 0, 0, 0), (28, .aload_n 0, 1, .null, 0, 0, 0, 0), (29, .getfield 33, 3, .null, 10, 5, 8079, 0),
  (32, .iload_n 1, 1, .null, 0, 0, 0, 0), (33, .invokevirtual 196, 3, .null, 0, 90, 9187, 0), (36, .goto 4, 3, .null, 20, 0, 0, 0), (39, .iconst (-1), 1, .null, 0, 0, 0, 0),
  (40, .ireturn, 1, .null, 0, 0, 0, 0)]
def ar_173 : List ai_R := [(0, .aload_n 0, 1, .null, 0, 0, 0, 0), (1, .iload_n 1, 1, .null, 0, 0, 0, 0), (2, .invokevirtual 170, 3, .null, 0, 179, 9138, 0), (5, .ifCond .eq 12, 3, .null, 9, 0, 0, 0),
  (8, .iload_n 2, 1, .null, 0, 0, 0, 0), (9, .ifCond .lt 8, 3, .null, 9, 0, 0, 0), (12, .iload_n 2, 1, .null, 0, 0, 0, 0), (13, .iconst 4, 1, .null, 0, 0, 0, 0),
  (14, .if_icmp .lt 6, 3, .null, 11, 0, 0, 0), (17, .bipush (-2), 2, .null, 0, 0, 0, 0), (19, .ireturn, 1, .null, 0, 0, 0, 0), (20, .iload_n 3, 1, .null, 0, 0, 0, 0),
  (21, .ifCond .lt 9, 3, .null, 16, 0, 0, 0), (24, .iload_n 3, 1, .null, 0, 0, 0, 0), (25, .bipush 40, 2, .null, 0, 0, 0, 0), (27, .if_icmp .le 6, 3, .null, 18, 0, 0, 0),
  (30, .bipush (-3), 2, .null, 0, 0, 0, 0), (32, .ireturn, 1, .null, 0, 0, 0, 0), (33, .aload_n 0, 1, .null, 0, 0, 0, 0), (34, .getfield 42, 3, .null, 10, 7, 8081, 0),
  (37, .iload_n 1, 1, .null, 0, 0, 0, 0), (38, .aaload, 1, .null, 0, 0, 0, 0), (39, .iload_n 2, 1, .null, 0, 0, 0, 0), (40, .iload_n 3, 1, .null, 0, 0, 0, 0),
  (41, .invokevirtual 338, 3, .null, 0, 44, 11194, 0), (44, .iconst 0, 1, .null, 0, 0, 0, 0), (45, .ireturn, 1, .null, 0, 0, 0, 0)]
def ar_174 : List ai_R := [(0, .aload_n 0, 1, .null, 0, 0, 0, 0), (1, .iload_n 1, 1, .null, 0, 0, 0, 0), (2, .invokevirtual 170, 3, .null, 0, 179, 9138, 0), (5, .ifCond .ne 7, 3, .null, 6, 0, 0, 0),
  (8, .ldc2_w 316, 3, .long (-2), 0, 0, 11132, 0), (11, .lreturn, 1, .null, 0, 0, 0, 0), (12, .aload_n 0, 1, .null, 0, 0, 0, 0), (13, .getfield 42, 3, .null, 10, 7, 8081, 0),
  (16, .iload_n 1, 1, .null, 0, 0, 0, 0), (17, .aaload, 1, .null, 0, 0, 0, 0), (18, .invokevirtual 176, 3, .null, 0, 43, 9142, 0), (21, .ifCond .eq 7, 3, .null, 14, 0, 0, 0),
  (24, .ldc2_w 341, 3, .long (-6), 0, 0, 11203, 0), (27, .lreturn, 1, .null, 0, 0, 0, 0), (28, .iload_n 2, 1, .null, 0, 0, 0, 0), (29, .ifCond .lt 16, 3, .null, 23, 0, 0, 0),
  (32, .iload_n 2, 1, .null, 0, 0, 0, 0), (33, .aload_n 0, 1, .null, 0, 0, 0, 0), (34, .getfield 42, 3, .null, 10, 7, 8081, 0), (37, .iload_n 1, 1, .null, 0, 0, 0, 0),
  (38, .aaload, 1, .null, 0, 0, 0, 0), (39, .getfield 343, 3, .null, 3, 0, 8064, 0), (42, .if_icmp .lt 9, 3, .null, 25, 0, 0, 0), (45, .ldc2_w 346, 3, .long (-7), 0, 0, 11204, 0),
  (48, .goto 14, 3, .null, 32, 0, 0, 0), (51, .aload_n 0, 1, .null, 0, 0, 0, 0), (52, .getfield 42, 3, .null, 10, 7, 8081, 0), (55, .iload_n 1, 1, .null, 0, 0, 0, 0),
  (56, .aaload, 1, .null, 0, 0, 0, 0), (57, .iload_n 2, 1, .null, 0, 0, 0, 0), (58, .lload_n 3, 1, .null, 0, 0, 0, 0), (59, .invokevirtual 348, 3, .null, 0, 45, 11205, 0),
  (62, .lreturn, 1, .null, 0, 0, 0, 0)]
def ar_175 : List ai_R := [(0, .aload_n 0, 1, .null, 0, 0, 0, 0), (1, .iload_n 1, 1, .null, 0, 0, 0, 0), (2, .invokevirtual 170, 3, .null, 0, 179, 9138, 0), (5, .ifCond .ne 6, 3, .null, 6, 0, 0, 0),
  (8, .bipush (-2), 2, .null, 0, 0, 0, 0), (10, .ireturn, 1, .null, 0, 0, 0, 0), (11, .aload_n 0, 1, .null, 0, 0, 0, 0), (12, .getfield 33, 3, .null, 10, 5, 8079, 0),
  (15, .getfield 186, 3, .null, 6, 0, 7144, 0), (18, .iconst (-1), 1, .null, 0, 0, 0, 0), (19, .if_icmp .ne 6, 3, .null, 13, 0, 0, 0), (22, .bipush (-5), 2, .null, 0, 0, 0, 0),
  (24, .ireturn, 1, .null, 0, 0, 0, 0), (25, .aload_n 0, 1, .null, 0, 0, 0, 0), (26, .getfield 42, 3, .null, 10, 7, 8081, 0), (29, .iload_n 1, 1, .null, 0, 0, 0, 0),
  (30, .aaload, 1, .null, 0, 0, 0, 0), (31, .invokevirtual 176, 3, .null, 0, 43, 9142, 0), (34, .ifCond .eq 6, 3, .null, 21, 0, 0, 0), (37, .bipush (-6), 2, .null, 0, 0, 0, 0),
  (39, .ireturn, 1, .null, 0, 0, 0, 0), (40, .aload_n 0, 1, .null, 0, 0, 0, 0), (41, .getfield 33, 3, .null, 10, 5, 8079, 0), (44, .getfield 186, 3, .null, 6, 0, 7144, 0),
  (47, .aload_n 0, 1, .null, 0, 0, 0, 0), (48, .getfield 42, 3, .null, 10, 7, 8081, 0), (51, .iload_n 1, 1, .null, 0, 0, 0, 0), (52, .aaload, 1, .null, 0, 0, 0, 0),
  (53, .getfield 343, 3, .null, 3, 0, 8064, 0), (56, .if_icmp .le 6, 3, .null, 32, 0, 0, 0), (59, .bipush (-7), 2, .null, 0, 0, 0, 0), (61, .ireturn, 1, .null, 0, 0, 0, 0),
  (62, .iconst 0, 1, .null, 0, 0, 0, 0), (63, .istore_n 2, 1, .null, 0, 0, 0, 0), (64, .iload_n 2, 1, .null, 0, 0, 0, 0), (65, .aload_n 0, 1, .null, 0, 0, 0, 0),
  (66, .getfield 33, 3, .null, 10, 5, 8079, 0), (69, .getfield 186, 3, .null, 6, 0, 7144, 0), (72, .if_icmp .ge 29, 3, .null, 53, 0, 0, 0), (75, .aload_n 0, 1, .null, 0, 0, 0, 0),
  (76, .getfield 42, 3, .null, 10, 7, 8081, 0), (79, .iload_n 1, 1, .null, 0, 0, 0, 0), (80, .aaload, 1, .null, 0, 0, 0, 0), (81, .iload_n 2, 1, .null, 0, 0, 0, 0),
  (82, .aload_n 0, 1, .null, 0, 0, 0, 0), (83, .getfield 33, 3, .null, 10, 5, 8079, 0), (86, .iload_n 2, 1, .null, 0, 0, 0, 0), (87, .invokevirtual 196, 3, .null, 0, 90, 9187, 0),
  (90, .i2l, 1, .null, 0, 0, 0, 0), (91, .invokevirtual 348, 3, .null, 0, 45, 11205, 0), (94, .pop2, 1, .null, 0, 0, 0, 0), (95, .iinc 2 1, 3, .null, 0, 0, 0, 0),
  (98, .goto (-34), 3, .null, 34, 0, 0, 0), (101, .aload_n 0, 1, .null, 0, 0, 0, 0), (102, .getfield 33, 3, .null, 10, 5, 8079, 0), (105, .getfield 186, 3, .null, 6, 0, 7144, 0),
  (108, .ireturn, 1, .null, 0, 0, 0, 0)]
def ar_176 : List ai_R := [(0, .iload_n 1, 1, .null, 0, 0, 0, 0), (1, .ifCond .lt 8, 3, .null, 5, 0, 0, 0), (4, .iload_n 1, 1, .null, 0, 0, 0, 0), (5, .iconst 2, 1, .null, 0, 0, 0, 0),
  (6, .if_icmp .lt 6, 3, .null, 7, 0, 0, 0), (9, .bipush (-2), 2, .null, 0, 0, 0, 0), (11, .ireturn, 1, .null, 0, 0, 0, 0), (12, .aload_n 0, 1, .null, 0, 0, 0, 0),
  (13, .getfield 46, 3, .null, 10, 8, 8082, 0), (16, .iload_n 1, 1, .null, 0, 0, 0, 0), (17, .aaload, 1, .null, 0, 0, 0, 0), (18, .ifnull 12, 3, .null, 17, 0, 0, 0),
  (21, .aload_n 0, 1, .null, 0, 0, 0, 0), (22, .getfield 50, 3, .null, 10, 9, 8083, 0), (25, .iload_n 1, 1, .null, 0, 0, 0, 0), (26, .aaload, 1, .null, 0, 0, 0, 0),
  (27, .ifnonnull 29, 3, .null, 31, 0, 0, 0), (30, .aload_n 0, 1, .null, 0, 0, 0, 0), (31, .getfield 46, 3, .null, 10, 8, 8082, 0), (34, .iload_n 1, 1, .null, 0, 0, 0, 0),
  (35, .new 20, 3, .null, 2, 0, 7060, 0), (38, .dup, 1, .null, 0, 0, 0, 0), (39, .invokespecial 22, 3, .null, 3, 20, 172, 0), (42, .aastore, 1, .null, 0, 0, 0, 0),
  (43, .aload_n 0, 1, .null, 0, 0, 0, 0), (44, .getfield 50, 3, .null, 10, 9, 8083, 0), (47, .iload_n 1, 1, .null, 0, 0, 0, 0), (48, .new 30, 3, .null, 6, 0, 7135, 0),
  (51, .dup, 1, .null, 0, 0, 0, 0), (52, .invokespecial 32, 3, .null, 3, 86, 247, 0), (55, .aastore, 1, .null, 0, 0, 0, 0), (56, .aload_n 0, 1, .null, 0, 0, 0, 0),
  (57, .getfield 46, 3, .null, 10, 8, 8082, 0), (60, .iload_n 1, 1, .null, 0, 0, 0, 0), (61, .aaload, 1, .null, 0, 0, 0, 0), (62, .aload_n 0, 1, .null, 0, 0, 0, 0),
  (63, .getfield 23, 3, .null, 10, 3, 8077, 0), (66, .invokevirtual 119, 3, .null, 0, 22, 9058, 0), (69, .aload_n 0, 1, .null, 0, 0, 0, 0), (70, .getfield 50, 3, .null, 10, 9, 8083, 0),
  (73, .iload_n 1, 1, .null, 0, 0, 0, 0), (74, .aaload, 1, .null, 0, 0, 0, 0), (75, .aload_n 0, 1, .null, 0, 0, 0, 0), (76, .getfield 33, 3, .null, 10, 5, 8079, 0),
  (79, .invokevirtual 256, 3, .null, 0, 92, 10122, 0), (82, .iconst 0, 1, .null, 0, 0, 0, 0), (83, .ireturn, 1, .null, 0, 0, 0, 0)]
def ar_177 : List ai_R := [(0, .iload_n 1, 1, .null, 0, 0, 0, 0), (1, .ifCond .lt 8, 3, .null, 5, 0, 0, 0), (4, .iload_n 1, 1, .null, 0, 0, 0, 0), (5, .iconst 2, 1, .null, 0, 0, 0, 0),
  (6, .if_icmp .lt 6, 3, .null, 7, 0, 0, 0), (9, .bipush (-2), 2, .null, 0, 0, 0, 0), (11, .ireturn, 1, .null, 0, 0, 0, 0), (12, .aload_n 0, 1, .null, 0, 0, 0, 0),
  (13, .getfield 46, 3, .null, 10, 8, 8082, 0), (16, .iload_n 1, 1, .null, 0, 0, 0, 0), (17, .aaload, 1, .null, 0, 0, 0, 0), (18, .ifnull 12, 3, .null, 17, 0, 0, 0),
  (21, .aload_n 0, 1, .null, 0, 0, 0, 0), (22, .getfield 50, 3, .null, 10, 9, 8083, 0), (25, .iload_n 1, 1, .null, 0, 0, 0, 0), (26, .aaload, 1, .null, 0, 0, 0, 0),
  (27, .ifnonnull 6, 3, .null, 19, 0, 0, 0), (30, .bipush (-5), 2, .null, 0, 0, 0, 0), (32, .ireturn, 1, .null, 0, 0, 0, 0), (33, .aload_n 0, 1, .null, 0, 0, 0, 0),
  (34, .getfield 23, 3, .null, 10, 3, 8077, 0), (37, .aload_n 0, 1, .null, 0, 0, 0, 0), (38, .getfield 46, 3, .null, 10, 8, 8082, 0), (41, .iload_n 1, 1, .null, 0, 0, 0, 0),
  (42, .aaload, 1, .null, 0, 0, 0, 0), (43, .invokevirtual 119, 3, .null, 0, 22, 9058, 0), (46, .aload_n 0, 1, .null, 0, 0, 0, 0), (47, .getfield 33, 3, .null, 10, 5, 8079, 0),
  (50, .aload_n 0, 1, .null, 0, 0, 0, 0), (51, .getfield 50, 3, .null, 10, 9, 8083, 0), (54, .iload_n 1, 1, .null, 0, 0, 0, 0), (55, .aaload, 1, .null, 0, 0, 0, 0),
  (56, .invokevirtual 256, 3, .null, 0, 92, 10122, 0), (59, .iconst 0, 1, .null, 0, 0, 0, 0), (60, .ireturn, 1, .null, 0, 0, 0, 0)]
def ar_178 : List ai_R := [(0, .iload_n 1, 1, .null, 0, 0, 0, 0), (1, .tableswitch 110 0 6 #[43, 51, 59, 67, 75, 97, 105], 43, .null, 0, 0, 0, 0), (44, .aload_n 0, 1, .null, 0, 0, 0, 0), (45, .getfield 23, 3, .null, 10, 3, 8077, 0),
  (48, .getfield 226, 3, .null, 2, 0, 7073, 0), (51, .ireturn, 1, .null, 0, 0, 0, 0), (52, .aload_n 0, 1, .null, 0, 0, 0, 0), (53, .getfield 23, 3, .null, 10, 3, 8077, 0),
  (56, .getfield 173, 3, .null, 2, 1, 7081, 0), (59, .ireturn, 1, .null, 0, 0, 0, 0), (60, .aload_n 0, 1, .null, 0, 0, 0, 0), (61, .getfield 23, 3, .null, 10, 3, 8077, 0),
  (64, .getfield 125, 3, .null, 2, 2, 7083, 0), (67, .ireturn, 1, .null, 0, 0, 0, 0), (68, .aload_n 0, 1, .null, 0, 0, 0, 0), (69, .getfield 23, 3, .null, 10, 3, 8077, 0),
  (72, .getfield 291, 3, .null, 2, 4, 7096, 0), (75, .ireturn, 1, .null, 0, 0, 0, 0), (76, .aload_n 0, 1, .null, 0, 0, 0, 0), (77, .getfield 23, 3, .null, 10, 3, 8077, 0),
  (80, .getfield 226, 3, .null, 2, 0, 7073, 0), (83, .ifCond .ne 7, 3, .null, 24, 0, 0, 0), (86, .iconst (-1), 1, .null, 0, 0, 0, 0), (87, .goto 10, 3, .null, 27, 0, 0, 0),
  (90, .aload_n 0, 1, .null, 0, 0, 0, 0), (91, .getfield 23, 3, .null, 10, 3, 8077, 0), (94, .getfield 352, 3, .null, 2, 3, 7091, 0), (97, .ireturn, 1, .null, 0, 0, 0, 0),
  (98, .aload_n 0, 1, .null, 0, 0, 0, 0), (99, .getfield 23, 3, .null, 10, 3, 8077, 0), (102, .invokevirtual 355, 3, .null, 0, 36, 11229, 0), (105, .ireturn, 1, .null, 0, 0, 0, 0),
  (106, .aload_n 0, 1, .null, 0, 0, 0, 0), (107, .getfield 107, 3, .null, 10, 1, 8075, 0), (110, .ireturn, 1, .null, 0, 0, 0, 0), (111, .iconst (-1), 1, .null, 0, 0, 0, 0),
  (112, .ireturn, 1, .null, 0, 0, 0, 0)]
def ar_179 : List ai_R := [(0, .iload_n 1, 1, .null, 0, 0, 0, 0), (1, .ifCond .lt 12, 3, .null, 7, 0, 0, 0), (4, .iload_n 1, 1, .null, 0, 0, 0, 0), (5, .iconst 4, 1, .null, 0, 0, 0, 0),
  (6, .if_icmp .ge 7, 3, .null, 7, 0, 0, 0), (9, .iconst 1, 1, .null, 0, 0, 0, 0), (10, .goto 4, 3, .null, 8, 0, 0, 0), (13, .iconst 0, 1, .null, 0, 0, 0, 0),
  (14, .ireturn, 1, .null, 0, 0, 0, 0)]
def ar_180 : List ai_R := [(0, .aload_n 0, 1, .null, 0, 0, 0, 0), (1, .getfield 42, 3, .null, 10, 7, 8081, 0), (4, .iload_n 1, 1, .null, 0, 0, 0, 0), (5, .aaload, 1, .null, 0, 0, 0, 0),
  (6, .invokevirtual 176, 3, .null, 0, 43, 9142, 0), (9, .ifCond .eq 6, 3, .null, 8, 0, 0, 0), (12, .bipush (-6), 2, .null, 0, 0, 0, 0), (14, .ireturn, 1, .null, 0, 0, 0, 0),
  (15, .aload_n 0, 1, .null, 0, 0, 0, 0), (16, .getfield 42, 3, .null, 10, 7, 8081, 0), (19, .iload_n 1, 1, .null, 0, 0, 0, 0), (20, .aaload, 1, .null, 0, 0, 0, 0),
  (21, .aload_n 0, 1, .null, 0, 0, 0, 0), (22, .getfield 23, 3, .null, 10, 3, 8077, 0), (25, .getfield 173, 3, .null, 2, 1, 7081, 0), (28, .invokevirtual 180, 3, .null, 0, 48, 9146, 0),
  (31, .iconst (-1), 1, .null, 0, 0, 0, 0), (32, .if_icmp .eq 6, 3, .null, 20, 0, 0, 0), (35, .bipush (-3), 2, .null, 0, 0, 0, 0), (37, .ireturn, 1, .null, 0, 0, 0, 0),
  (38, .aload_n 0, 1, .null, 0, 0, 0, 0), (39, .getfield 37, 3, .null, 10, 6, 8080, 0), (42, .invokevirtual 238, 3, .null, 0, 88, 9158, 0), (45, .iconst 0, 1, .null, 0, 0, 0, 0),
  (46, .istore_n 2, 1, .null, 0, 0, 0, 0), (47, .iload_n 2, 1, .null, 0, 0, 0, 0), (48, .aload_n 0, 1, .null, 0, 0, 0, 0), (49, .getfield 42, 3, .null, 10, 7, 8081, 0),
  (52, .iload_n 1, 1, .null, 0, 0, 0, 0), (53, .aaload, 1, .null, 0, 0, 0, 0), (54, .getfield 343, 3, .null, 3, 0, 8064, 0), (57, .if_icmp .ge 26, 3, .null, 43, 0, 0, 0),
  (60, .aload_n 0, 1, .null, 0, 0, 0, 0), (61, .getfield 37, 3, .null, 10, 6, 8080, 0), (64, .aload_n 0, 1, .null, 0, 0, 0, 0), (65, .getfield 42, 3, .null, 10, 7, 8081, 0),
  (68, .iload_n 1, 1, .null, 0, 0, 0, 0), (69, .aaload, 1, .null, 0, 0, 0, 0), (70, .iload_n 2, 1, .null, 0, 0, 0, 0), (71, .invokevirtual 358, 3, .null, 0, 47, 9162, 0),
  (74, .invokevirtual 359, 3, .null, 0, 89, 9166, 0), (77, .iinc 2 1, 3, .null, 0, 0, 0, 0), (80, .goto (-33), 3, .null, 25, 0, 0, 0), (83, .iconst 0, 1, .null, 0, 0, 0, 0),
  (84, .ireturn, 1, .null, 0, 0, 0, 0)]
def ar_181 : List ai_R := [(0, .lload_n 0, 1, .null, 0, 0, 0, 0), (1, .lload_n 2, 1, .null, 0, 0, 0, 0), (2, .lcmp, 1, .null, 0, 0, 0, 0), (3, .ifCond .lt 14, 3, .null, 10, 0, 0, 0),
  (6, .lload_n 0, 1, .null, 0, 0, 0, 0), (7, .lload 4, 2, .null, 0, 0, 0, 0), (9, .lcmp, 1, .null, 0, 0, 0, 0), (10, .ifCond .gt 7, 3, .null, 10, 0, 0, 0),
  (13, .iconst 1, 1, .null, 0, 0, 0, 0), (14, .goto 4, 3, .null, 11, 0, 0, 0), (17, .iconst 0, 1, .null, 0, 0, 0, 0), (18, .ireturn, 1, .null, 0, 0, 0, 0)]
def ar_182 : List ai_R := [(0, .aload_n 0, 1, .null, 0, 0, 0, 0), (1, .invokespecial 7, 3, .null, 4, 0, 11238, 0), (4, .aload_n 0, 1, .null, 0, 0, 0, 0), (5, .sipush 2346, 3, .null, 0, 0, 0, 0),
  (8, .newarray .int, 2, .null, 0, 0, 0, 0), (10, .putfield 13, 3, .null, 11, 1, 12001, 0), (13, .aload_n 0, 1, .null, 0, 0, 0, 0), (14, .iconst 2, 1, .null, 0, 0, 0, 0),
  (15, .newarray .boolean, 2, .null, 0, 0, 0, 0), (17, .putfield 17, 3, .null, 11, 2, 12002, 0), (20, .aload_n 0, 1, .null, 0, 0, 0, 0), (21, .sipush 600, 3, .null, 0, 0, 0, 0),
  (24, .newarray .int, 2, .null, 0, 0, 0, 0), (26, .putfield 21, 3, .null, 11, 3, 12003, 0), (29, .aload_n 0, 1, .null, 0, 0, 0, 0), (30, .sipush 281, 3, .null, 0, 0, 0, 0),
  (33, .newarray .int, 2, .null, 0, 0, 0, 0), (35, .putfield 24, 3, .null, 11, 4, 12004, 0), (38, .aload_n 0, 1, .null, 0, 0, 0, 0), (39, .iconst (-1), 1, .null, 0, 0, 0, 0),
  (40, .putfield 27, 3, .null, 11, 14, 12014, 0), (43, .aload_n 0, 1, .null, 0, 0, 0, 0), (44, .sipush 30002, 3, .null, 0, 0, 0, 0), (47, .newarray .int, 2, .null, 0, 0, 0, 0),
  (49, .putfield 30, 3, .null, 11, 15, 12015, 0), (52, .aload_n 0, 1, .null, 0, 0, 0, 0), (53, .sipush 30002, 3, .null, 0, 0, 0, 0), (56, .newarray .int, 2, .null, 0, 0, 0, 0),
  (58, .putfield 33, 3, .null, 11, 16, 12016, 0), (61, .aload_n 0, 1, .null, 0, 0, 0, 0), (62, .sipush 30002, 3, .null, 0, 0, 0, 0), (65, .newarray .int, 2, .null, 0, 0, 0, 0),
  (67, .putfield 36, 3, .null, 11, 17, 12017, 0), (70, .aload_n 0, 1, .null, 0, 0, 0, 0), (71, .sipush 30002, 3, .null, 0, 0, 0, 0), (74, .newarray .int, 2, .null, 0, 0, 0, 0),
  (76, .putfield 39, 3, .null, 11, 18, 12018, 0), (79, .aload_n 0, 1, .null, 0, 0, 0, 0), (80, .ldc 42, 2, .int (65536), 0, 0, 11239, 0), (82, .newarray .int, 2, .null, 0, 0, 0, 0),
  (84, .putfield 43, 3, .null, 11, 19, 12019, 0), (87, .aload_n 0, 1, .null, 0, 0, 0, 0), (88, .ldc 42, 2, .int (65536), 0, 0, 11239, 0), (90, .newarray .int, 2, .null, 0, 0, 0, 0),
  (92, .putfield 46, 3, .null, 11, 20, 12020, 0), (95, .aload_n 0, 1, .null, 0, 0, 0, 0), (96, .sipush 700, 3, .null, 0, 0, 0, 0), (99, .newarray .int, 2, .null, 0, 0, 0, 0),
  (101, .putfield 49, 3, .null, 11, 23, 12023, 0), (104, .aload_n 0, 1, .null, 0, 0, 0, 0), (105, .sipush 196, 3, .null, 0, 0, 0, 0), (108, .newarray .boolean, 2, .null, 0, 0, 0, 0),
  (110, .putfield 52, 3, .null, 11, 24, 12024, 0), (113, .aload_n 0, 1, .null, 0, 0, 0, 0), (114, .sipush 16384, 3, .null, 0, 0, 0, 0), (117, .newarray .long, 2, .null, 0, 0, 0, 0),
  (119, .putfield 55, 3, .null, 11, 25, 12025, 0), (122, .aload_n 0, 1, .null, 0, 0, 0, 0), (123, .sipush 16384, 3, .null, 0, 0, 0, 0), (126, .newarray .long, 2, .null, 0, 0, 0, 0),
  (128, .putfield 59, 3, .null, 11, 26, 12026, 0), (131, .aload_n 0, 1, .null, 0, 0, 0, 0), (132, .bipush 14, 2, .null, 0, 0, 0, 0), (134, .newarray .int, 2, .null, 0, 0, 0, 0),
  (136, .putfield 62, 3, .null, 11, 27, 12027, 0), (139, .aload_n 0, 1, .null, 0, 0, 0, 0), (140, .bipush 14, 2, .null, 0, 0, 0, 0), (142, .newarray .int, 2, .null, 0, 0, 0, 0),
  (144, .putfield 65, 3, .null, 11, 28, 12028, 0), (147, .aload_n 0, 1, .null, 0, 0, 0, 0), (148, .bipush 14, 2, .null, 0, 0, 0, 0), (150, .newarray .int, 2, .null, 0, 0, 0, 0),
  (152, .putfield 68, 3, .null, 11, 29, 12029, 0), (155, .aload_n 0, 1, .null, 0, 0, 0, 0), (156, .sipush 16384, 3, .null, 0, 0, 0, 0), (159, .newarray .int, 2, .null, 0, 0, 0, 0),
  (161, .putfield 71, 3, .null, 11, 30, 12030, 0), (164, .aload_n 0, 1, .null, 0, 0, 0, 0), (165, .sipush 8036, 3, .null, 0, 0, 0, 0), (168, .newarray .long, 2, .null, 0, 0, 0, 0),
  (170, .putfield 74, 3, .null, 11, 31, 12031, 0), (173, .aload_n 0, 1, .null, 0, 0, 0, 0), (174, .sipush 8036, 3, .null, 0, 0, 0, 0), (177, .newarray .boolean, 2, .null, 0, 0, 0, 0),
  (179, .putfield 77, 3, .null, 11, 32, 12032, 0), (182, .aload_n 0, 1, .null, 0, 0, 0, 0), (183, .bipush 14, 2, .null, 0, 0, 0, 0), (185, .newarray .long, 2, .null, 0, 0, 0, 0),
  (187, .putfield 80, 3, .null, 11, 33, 12033, 0), (190, .aload_n 0, 1, .null, 0, 0, 0, 0), (191, .bipush 14, 2, .null, 0, 0, 0, 0), (193, .newarray .long, 2, .null, 0, 0, 0, 0),
  (195, .putfield 83, 3, .null, 11, 34, 12034, 0), (198, .aload_n 0, 1, .null, 0, 0, 0, 0), (199, .iconst 4, 1, .null, 0, 0, 0, 0), (200, .newarray .int, 2, .null, 0, 0, 0, 0),
  (202, .putfield 86, 3, .null, 11, 35, 12035, 0), (205, .aload_n 0, 1, .null, 0, 0, 0, 0), (206, .bipush 8, 2, .null, 0, 0, 0, 0), (208, .newarray .int, 2, .null, 0, 0, 0, 0),
  (210, .putfield 89, 3, .null, 11, 36, 12036, 0), (213, .aload_n 0, 1, .null, 0, 0, 0, 0), (214, .iconst 4, 1, .null, 0, 0, 0, 0), (215, .newarray .int, 2, .null, 0, 0, 0, 0),
  (217, .dup, 1, .null, 0, 0, 0, 0), (218, .iconst 0, 1, .null, 0, 0, 0, 0), (219, .iconst (-1), 1, .null, 0, 0, 0, 0), (220, .iastore, 1, .null, 0, 0, 0, 0),
  (221, .dup, 1, .null, 0, 0, 0, 0), (222, .iconst 1, 1, .null, 0, 0, 0, 0), (223, .iconst (-1), 1, .null, 0, 0, 0, 0), (224, .iastore, 1, .null, 0, 0, 0, 0),
  (225, .dup, 1, .null, 0, 0, 0, 0), (226, .iconst 2, 1, .null, 0, 0, 0, 0), (227, .iconst (-1), 1, .null, 0, 0, 0, 0), (228, .iastore, 1, .null, 0, 0, 0, 0),
  (229, .dup, 1, .null, 0, 0, 0, 0), (230, .iconst 3, 1, .null, 0, 0, 0, 0), (231, .iconst (-1), 1, .null, 0, 0, 0, 0), (232, .iastore, 1, .null, 0, 0, 0, 0),
  (233, .putfield 92, 3, .null, 11, 37, 12037, 0), (236, .aload_n 0, 1, .null, 0, 0, 0, 0), (237, .iconst 4, 1, .null, 0, 0, 0, 0), (238, .newarray .int, 2, .null, 0, 0, 0, 0),
  (240, .putfield 95, 3, .null, 11, 38, 12038, 0), (243, .aload_n 0, 1, .null, 0, 0, 0, 0), (244, .sipush 160, 3, .null, 0, 0, 0, 0), (247, .newarray .long, 2, .null, 0, 0, 0, 0),
  (249, .putfield 98, 3, .null, 11, 39, 12039, 0), (252, .aload_n 0, 1, .null, 0, 0, 0, 0), (253, .getfield 13, 3, .null, 11, 1, 12001, 0), (256, .sipush 281, 3, .null, 0, 0, 0, 0),
  (259, .iconst (-1), 1, .null, 0, 0, 0, 0), (260, .iastore, 1, .null, 0, 0, 0, 0), (261, .return_, 1, .null, 0, 0, 0, 0)]
def ar_183 : List ai_R := [(0, .aload_n 0, 1, .null, 0, 0, 0, 0), (1, .iconst 0, 1, .null, 0, 0, 0, 0), (2, .putfield 1, 3, .null, 11, 0, 12000, 0), (5, .aload_n 0, 1, .null, 0, 0, 0, 0),
  (6, .getfield 101, 3, .null, 11, 5, 12005, 0), (9, .bipush 20, 2, .null, 0, 0, 0, 0), (11, .iadd, 1, .null, 0, 0, 0, 0), (12, .sipush 600, 3, .null, 0, 0, 0, 0),
  (15, .if_icmp .le 6, 3, .null, 11, 0, 0, 0), (18, .bipush (-5), 2, .null, 0, 0, 0, 0), (20, .ireturn, 1, .null, 0, 0, 0, 0), (21, .iconst 0, 1, .null, 0, 0, 0, 0),
  (22, .istore 6, 2, .null, 0, 0, 0, 0), (24, .iload 6, 2, .null, 0, 0, 0, 0), (26, .bipush 20, 2, .null, 0, 0, 0, 0), (28, .if_icmp .ge 93, 3, .null, 62, 0, 0, 0),
  (31, .iload 6, 2, .null, 0, 0, 0, 0), (33, .iconst 4, 1, .null, 0, 0, 0, 0), (34, .if_icmp .ge 7, 3, .null, 21, 0, 0, 0), (37, .iload_n 1, 1, .null, 0, 0, 0, 0),
  (38, .goto 39, 3, .null, 37, 0, 0, 0), (41, .iload 6, 2, .null, 0, 0, 0, 0), (43, .bipush 8, 2, .null, 0, 0, 0, 0), (45, .if_icmp .ge 7, 3, .null, 26, 0, 0, 0),
  (48, .iload_n 2, 1, .null, 0, 0, 0, 0), (49, .goto 28, 3, .null, 37, 0, 0, 0), (52, .iload 6, 2, .null, 0, 0, 0, 0), (54, .bipush 12, 2, .null, 0, 0, 0, 0),
  (56, .if_icmp .ge 7, 3, .null, 31, 0, 0, 0), (59, .iload_n 3, 1, .null, 0, 0, 0, 0), (60, .goto 17, 3, .null, 37, 0, 0, 0), (63, .iload 6, 2, .null, 0, 0, 0, 0),
  (65, .bipush 16, 2, .null, 0, 0, 0, 0), (67, .if_icmp .ge 8, 3, .null, 36, 0, 0, 0), (70, .iload 4, 2, .null, 0, 0, 0, 0), (72, .goto 5, 3, .null, 37, 0, 0, 0),
  (75, .iload 5, 2, .null, 0, 0, 0, 0), (77, .istore 7, 2, .null, 0, 0, 0, 0), (79, .aload_n 0, 1, .null, 0, 0, 0, 0), (80, .getfield 21, 3, .null, 11, 3, 12003, 0),
  (83, .aload_n 0, 1, .null, 0, 0, 0, 0), (84, .getfield 101, 3, .null, 11, 5, 12005, 0), (87, .iload 7, 2, .null, 0, 0, 0, 0), (89, .bipush 24, 2, .null, 0, 0, 0, 0),
  (91, .bipush 8, 2, .null, 0, 0, 0, 0), (93, .iload 6, 2, .null, 0, 0, 0, 0), (95, .iconst 4, 1, .null, 0, 0, 0, 0), (96, .irem, 1, .null, 0, 0, 0, 0),
  (97, .imul, 1, .null, 0, 0, 0, 0), (98, .isub, 1, .null, 0, 0, 0, 0), (99, .ishr, 1, .null, 0, 0, 0, 0), (100, .sipush 255, 3, .null, 0, 0, 0, 0),
  (103, .iand, 1, .null, 0, 0, 0, 0), (104, .iastore, 1, .null, 0, 0, 0, 0), (105, .aload_n 0, 1, .null, 0, 0, 0, 0), (106, .dup, 1, .null, 0, 0, 0, 0),
  (107, .getfield 101, 3, .null, 11, 5, 12005, 0), (110, .iconst 1, 1, .null, 0, 0, 0, 0), (111, .iadd, 1, .null, 0, 0, 0, 0), (112, .putfield 101, 3, .null, 11, 5, 12005, 0),
  (115, .iinc 6 1, 3, .null, 0, 0, 0, 0), (118, .goto (-94), 3, .null, 13, 0, 0, 0), (121, .aload_n 0, 1, .null, 0, 0, 0, 0), (122, .getfield 101, 3, .null, 11, 5, 12005, 0),
  (125, .ireturn, 1, .null, 0, 0, 0, 0)]
def ar_184 : List ai_R := [(0, .iload_n 1, 1, .null, 0, 0, 0, 0), (1, .aload_n 0, 1, .null, 0, 0, 0, 0), (2, .getfield 104, 3, .null, 11, 8, 12008, 0), (5, .if_icmp .ge 12, 3, .null, 9, 0, 0, 0),
  (8, .aload_n 0, 1, .null, 0, 0, 0, 0), (9, .getfield 21, 3, .null, 11, 3, 12003, 0), (12, .iload_n 1, 1, .null, 0, 0, 0, 0), (13, .iaload, 1, .null, 0, 0, 0, 0),
  (14, .goto 4, 3, .null, 10, 0, 0, 0), (17, .iconst (-1), 1, .null, 0, 0, 0, 0), (18, .ireturn, 1, .null, 0, 0, 0, 0)]
def ar_185 : List ai_R := [(0, .iload_n 0, 1, .null, 0, 0, 0, 0), (1, .bipush 97, 2, .null, 0, 0, 0, 0), (3, .if_icmp .lt 13, 3, .null, 8, 0, 0, 0), (6, .iload_n 0, 1, .null, 0, 0, 0, 0),
  (7, .bipush 122, 2, .null, 0, 0, 0, 0), (9, .if_icmp .gt 7, 3, .null, 8, 0, 0, 0), (12, .iconst 1, 1, .null, 0, 0, 0, 0), (13, .goto 4, 3, .null, 9, 0, 0, 0),
  (16, .iconst 0, 1, .null, 0, 0, 0, 0), (17, .ireturn, 1, .null, 0, 0, 0, 0)]
def ar_186 : List ai_R := [(0, .iload_n 0, 1, .null, 0, 0, 0, 0), (1, .bipush 48, 2, .null, 0, 0, 0, 0), (3, .if_icmp .lt 13, 3, .null, 8, 0, 0, 0), (6, .iload_n 0, 1, .null, 0, 0, 0, 0),
  (7, .bipush 57, 2, .null, 0, 0, 0, 0), (9, .if_icmp .gt 7, 3, .null, 8, 0, 0, 0), (12, .iconst 1, 1, .null, 0, 0, 0, 0), (13, .goto 4, 3, .null, 9, 0, 0, 0),
  (16, .iconst 0, 1, .null, 0, 0, 0, 0), (17, .ireturn, 1, .null, 0, 0, 0, 0)]
def ar_187 : List ai_R := [(0, .iconst 0, 1, .null, 0, 0, 0, 0), (1, .istore_n 1, 1, .null, 0, 0, 0, 0), (2, .iconst 1, 1, .null, 0, 0, 0, 0), (3, .istore_n 2, 1, .null, 0, 0, 0, 0),
  (4, .iload_n 2, 1, .null, 0, 0, 0, 0), (5, .ldc 107, 2, .float (10), 0, 0, 1458, 0), (7, .invokevirtual 109, 3, .null, 6, 0, 12149, 0), (10, .if_icmp .ge 113, 3, .null, 65, 0, 0, 0),
  (13, .iconst 0, 1, .null, 0, 0, 0, 0), (14, .istore_n 3, 1, .null, 0, 0, 0, 0), (15, .ldc 107, 2, .float (10), 0, 0, 1458, 0), (17, .iload_n 2, 1, .null, 0, 0, 0, 0),
  (18, .iload_n 3, 1, .null, 0, 0, 0, 0), (19, .iadd, 1, .null, 0, 0, 0, 0), (20, .invokevirtual 115, 3, .null, 7, 0, 12150, 0), (23, .bipush 32, 2, .null, 0, 0, 0, 0),
  (25, .if_icmp .eq 44, 3, .null, 39, 0, 0, 0), (28, .aload_n 0, 1, .null, 0, 0, 0, 0), (29, .getfield 119, 3, .null, 11, 6, 12006, 0), (32, .iload_n 3, 1, .null, 0, 0, 0, 0),
  (33, .iadd, 1, .null, 0, 0, 0, 0), (34, .aload_n 0, 1, .null, 0, 0, 0, 0), (35, .getfield 122, 3, .null, 11, 7, 12007, 0), (38, .if_icmp .ge 31, 3, .null, 39, 0, 0, 0),
  (41, .aload_n 0, 1, .null, 0, 0, 0, 0), (42, .getfield 21, 3, .null, 11, 3, 12003, 0), (45, .aload_n 0, 1, .null, 0, 0, 0, 0), (46, .getfield 119, 3, .null, 11, 6, 12006, 0),
  (49, .iload_n 3, 1, .null, 0, 0, 0, 0), (50, .iadd, 1, .null, 0, 0, 0, 0), (51, .iaload, 1, .null, 0, 0, 0, 0), (52, .ldc 107, 2, .float (10), 0, 0, 1458, 0),
  (54, .iload_n 2, 1, .null, 0, 0, 0, 0), (55, .iload_n 3, 1, .null, 0, 0, 0, 0), (56, .iadd, 1, .null, 0, 0, 0, 0), (57, .invokevirtual 115, 3, .null, 7, 0, 12150, 0),
  (60, .if_icmp .ne 9, 3, .null, 39, 0, 0, 0), (63, .iinc 3 1, 3, .null, 0, 0, 0, 0), (66, .goto (-51), 3, .null, 10, 0, 0, 0), (69, .ldc 107, 2, .float (10), 0, 0, 1458, 0),
  (71, .iload_n 2, 1, .null, 0, 0, 0, 0), (72, .iload_n 3, 1, .null, 0, 0, 0, 0), (73, .iadd, 1, .null, 0, 0, 0, 0), (74, .invokevirtual 115, 3, .null, 7, 0, 12150, 0),
  (77, .bipush 32, 2, .null, 0, 0, 0, 0), (79, .if_icmp .ne 18, 3, .null, 55, 0, 0, 0), (82, .aload_n 0, 1, .null, 0, 0, 0, 0), (83, .getfield 119, 3, .null, 11, 6, 12006, 0),
  (86, .iload_n 3, 1, .null, 0, 0, 0, 0), (87, .iadd, 1, .null, 0, 0, 0, 0), (88, .aload_n 0, 1, .null, 0, 0, 0, 0), (89, .getfield 122, 3, .null, 11, 7, 12007, 0),
  (92, .if_icmp .ne 5, 3, .null, 55, 0, 0, 0), (95, .iload_n 1, 1, .null, 0, 0, 0, 0), (96, .ireturn, 1, .null, 0, 0, 0, 0), (97, .ldc 107, 2, .float (10), 0, 0, 1458, 0),
  (99, .iload_n 2, 1, .null, 0, 0, 0, 0), (100, .invokevirtual 115, 3, .null, 7, 0, 12150, 0), (103, .bipush 32, 2, .null, 0, 0, 0, 0), (105, .if_icmp .eq 9, 3, .null, 62, 0, 0, 0),
  (108, .iinc 2 1, 3, .null, 0, 0, 0, 0), (111, .goto (-14), 3, .null, 55, 0, 0, 0), (114, .iinc 2 1, 3, .null, 0, 0, 0, 0), (117, .iinc 1 1, 3, .null, 0, 0, 0, 0),
  (120, .goto (-116), 3, .null, 4, 0, 0, 0), (123, .bipush 10, 2, .null, 0, 0, 0, 0), (125, .ireturn, 1, .null, 0, 0, 0, 0)]
def ar_188 : List ai_R := [(0, .aload_n 0, 1, .null, 0, 0, 0, 0), (1, .aload_n 0, 1, .null, 0, 0, 0, 0), (2, .getfield 122, 3, .null, 11, 7, 12007, 0), (5, .putfield 119, 3, .null, 11, 6, 12006, 0),
  (8, .aload_n 0, 1, .null, 0, 0, 0, 0), (9, .aload_n 0, 1, .null, 0, 0, 0, 0), (10, .getfield 119, 3, .null, 11, 6, 12006, 0), (13, .invokevirtual 125, 3, .null, 0, 184, 12137, 0),
  (16, .bipush 10, 2, .null, 0, 0, 0, 0), (18, .if_icmp .eq 16, 3, .null, 16, 0, 0, 0), (21, .aload_n 0, 1, .null, 0, 0, 0, 0), (22, .aload_n 0, 1, .null, 0, 0, 0, 0),
  (23, .getfield 119, 3, .null, 11, 6, 12006, 0), (26, .invokevirtual 125, 3, .null, 0, 184, 12137, 0), (29, .bipush 32, 2, .null, 0, 0, 0, 0), (31, .if_icmp .ne 16, 3, .null, 23, 0, 0, 0),
  (34, .aload_n 0, 1, .null, 0, 0, 0, 0), (35, .dup, 1, .null, 0, 0, 0, 0), (36, .getfield 119, 3, .null, 11, 6, 12006, 0), (39, .iconst 1, 1, .null, 0, 0, 0, 0),
  (40, .iadd, 1, .null, 0, 0, 0, 0), (41, .putfield 119, 3, .null, 11, 6, 12006, 0), (44, .goto (-36), 3, .null, 4, 0, 0, 0), (47, .aload_n 0, 1, .null, 0, 0, 0, 0),
  (48, .aload_n 0, 1, .null, 0, 0, 0, 0), (49, .getfield 119, 3, .null, 11, 6, 12006, 0), (52, .putfield 122, 3, .null, 11, 7, 12007, 0), (55, .aload_n 0, 1, .null, 0, 0, 0, 0),
  (56, .getfield 119, 3, .null, 11, 6, 12006, 0), (59, .aload_n 0, 1, .null, 0, 0, 0, 0), (60, .getfield 104, 3, .null, 11, 8, 12008, 0), (63, .if_icmp .lt 12, 3, .null, 36, 0, 0, 0),
  (66, .aload_n 0, 1, .null, 0, 0, 0, 0), (67, .bipush 13, 2, .null, 0, 0, 0, 0), (69, .putfield 129, 3, .null, 11, 9, 12009, 0), (72, .goto 198, 3, .null, 132, 0, 0, 0),
  (75, .aload_n 0, 1, .null, 0, 0, 0, 0), (76, .aload_n 0, 1, .null, 0, 0, 0, 0), (77, .getfield 119, 3, .null, 11, 6, 12006, 0), (80, .invokevirtual 125, 3, .null, 0, 184, 12137, 0),
  (83, .invokestatic 132, 3, .null, 1, 185, 12141, 0), (86, .ifCond .eq 41, 3, .null, 60, 0, 0, 0), (89, .aload_n 0, 1, .null, 0, 0, 0, 0), (90, .aload_n 0, 1, .null, 0, 0, 0, 0),
  (91, .getfield 122, 3, .null, 11, 7, 12007, 0), (94, .invokevirtual 125, 3, .null, 0, 184, 12137, 0), (97, .invokestatic 132, 3, .null, 1, 185, 12141, 0), (100, .ifCond .eq 16, 3, .null, 55, 0, 0, 0),
  (103, .aload_n 0, 1, .null, 0, 0, 0, 0), (104, .dup, 1, .null, 0, 0, 0, 0), (105, .getfield 122, 3, .null, 11, 7, 12007, 0), (108, .iconst 1, 1, .null, 0, 0, 0, 0),
  (109, .iadd, 1, .null, 0, 0, 0, 0), (110, .putfield 122, 3, .null, 11, 7, 12007, 0), (113, .goto (-24), 3, .null, 42, 0, 0, 0), (116, .aload_n 0, 1, .null, 0, 0, 0, 0),
  (117, .aload_n 0, 1, .null, 0, 0, 0, 0), (118, .invokevirtual 136, 3, .null, 0, 187, 12144, 0), (121, .putfield 129, 3, .null, 11, 9, 12009, 0), (124, .goto 146, 3, .null, 132, 0, 0, 0),
  (127, .aload_n 0, 1, .null, 0, 0, 0, 0), (128, .aload_n 0, 1, .null, 0, 0, 0, 0), (129, .getfield 119, 3, .null, 11, 6, 12006, 0), (132, .invokevirtual 125, 3, .null, 0, 184, 12137, 0),
  (135, .invokestatic 139, 3, .null, 1, 186, 12151, 0), (138, .ifCond .eq 98, 3, .null, 115, 0, 0, 0), (141, .aload_n 0, 1, .null, 0, 0, 0, 0), (142, .iconst 0, 1, .null, 0, 0, 0, 0),
  (143, .putfield 142, 3, .null, 11, 10, 12010, 0), (146, .aload_n 0, 1, .null, 0, 0, 0, 0), (147, .aload_n 0, 1, .null, 0, 0, 0, 0), (148, .getfield 122, 3, .null, 11, 7, 12007, 0),
  (151, .invokevirtual 125, 3, .null, 0, 184, 12137, 0), (154, .invokestatic 139, 3, .null, 1, 186, 12151, 0), (157, .ifCond .eq 52, 3, .null, 102, 0, 0, 0), (160, .aload_n 0, 1, .null, 0, 0, 0, 0),
  (161, .getfield 122, 3, .null, 11, 7, 12007, 0), (164, .aload_n 0, 1, .null, 0, 0, 0, 0), (165, .getfield 119, 3, .null, 11, 6, 12006, 0), (168, .isub, 1, .null, 0, 0, 0, 0),
  (169, .iconst 3, 1, .null, 0, 0, 0, 0), (170, .if_icmp .ge 26, 3, .null, 95, 0, 0, 0), (173, .aload_n 0, 1, .null, 0, 0, 0, 0), (174, .bipush 10, 2, .null, 0, 0, 0, 0),
  (176, .aload_n 0, 1, .null, 0, 0, 0, 0), (177, .getfield 142, 3, .null, 11, 10, 12010, 0), (180, .imul, 1, .null, 0, 0, 0, 0), (181, .aload_n 0, 1, .null, 0, 0, 0, 0),
  (182, .aload_n 0, 1, .null, 0, 0, 0, 0), (183, .getfield 122, 3, .null, 11, 7, 12007, 0), (186, .invokevirtual 125, 3, .null, 0, 184, 12137, 0), (189, .iadd, 1, .null, 0, 0, 0, 0),
  (190, .bipush 48, 2, .null, 0, 0, 0, 0), (192, .isub, 1, .null, 0, 0, 0, 0), (193, .putfield 142, 3, .null, 11, 10, 12010, 0), (196, .aload_n 0, 1, .null, 0, 0, 0, 0),
  (197, .dup, 1, .null, 0, 0, 0, 0), (198, .getfield 122, 3, .null, 11, 7, 12007, 0), (201, .iconst 1, 1, .null, 0, 0, 0, 0), (202, .iadd, 1, .null, 0, 0, 0, 0),
  (203, .putfield 122, 3, .null, 11, 7, 12007, 0), (206, .goto (-60), 3, .null, 69, 0, 0, 0), (209, .aload_n 0, 1, .null, 0, 0, 0, 0), (210, .aload_n 0, 1, .null, 0, 0, 0, 0),
  (211, .getfield 122, 3, .null, 11, 7, 12007, 0), (214, .aload_n 0, 1, .null, 0, 0, 0, 0), (215, .getfield 119, 3, .null, 11, 6, 12006, 0), (218, .isub, 1, .null, 0, 0, 0, 0),
  (219, .iconst 3, 1, .null, 0, 0, 0, 0), (220, .if_icmp .le 8, 3, .null, 112, 0, 0, 0), (223, .bipush 14, 2, .null, 0, 0, 0, 0), (225, .goto 5, 3, .null, 113, 0, 0, 0),
  (228, .bipush 11, 2, .null, 0, 0, 0, 0), (230, .putfield 129, 3, .null, 11, 9, 12009, 0), (233, .goto 37, 3, .null, 132, 0, 0, 0), (236, .aload_n 0, 1, .null, 0, 0, 0, 0),
  (237, .dup, 1, .null, 0, 0, 0, 0), (238, .getfield 122, 3, .null, 11, 7, 12007, 0), (241, .iconst 1, 1, .null, 0, 0, 0, 0), (242, .iadd, 1, .null, 0, 0, 0, 0),
  (243, .putfield 122, 3, .null, 11, 7, 12007, 0), (246, .aload_n 0, 1, .null, 0, 0, 0, 0), (247, .aload_n 0, 1, .null, 0, 0, 0, 0), (248, .aload_n 0, 1, .null, 0, 0, 0, 0),
  (249, .getfield 119, 3, .null, 11, 6, 12006, 0), (252, .invokevirtual 125, 3, .null, 0, 184, 12137, 0), (255, .bipush 59, 2, .null, 0, 0, 0, 0), (257, .if_icmp .ne 8, 3, .null, 130, 0, 0, 0),
  (260, .bipush 12, 2, .null, 0, 0, 0, 0), (262, .goto 5, 3, .null, 131, 0, 0, 0), (265, .bipush 14, 2, .null, 0, 0, 0, 0), (267, .putfield 129, 3, .null, 11, 9, 12009, 0),
  (270, .return_, 1, .null, 0, 0, 0, 0)]
def ar_189 : List ai_R := [(0, .aload_n 0, 1, .null, 0, 0, 0, 0), (1, .getfield 145, 3, .null, 11, 11, 12011, 0), (4, .ifCond .eq 4, 3, .null, 4, 0, 0, 0), (7, .return_, 1, .null, 0, 0, 0, 0),
  (8, .aload_n 0, 1, .null, 0, 0, 0, 0), (9, .aload_n 0, 1, .null, 0, 0, 0, 0), (10, .getfield 129, 3, .null, 11, 9, 12009, 0), (13, .bipush 14, 2, .null, 0, 0, 0, 0),
  (15, .if_icmp .ne 7, 3, .null, 11, 0, 0, 0), (18, .iconst 1, 1, .null, 0, 0, 0, 0), (19, .goto 4, 3, .null, 12, 0, 0, 0), (22, .iload_n 1, 1, .null, 0, 0, 0, 0),
  (23, .putfield 145, 3, .null, 11, 11, 12011, 0), (26, .aload_n 0, 1, .null, 0, 0, 0, 0), (27, .aload_n 0, 1, .null, 0, 0, 0, 0), (28, .getfield 119, 3, .null, 11, 6, 12006, 0),
  (31, .putfield 148, 3, .null, 11, 12, 12012, 0), (34, .return_, 1, .null, 0, 0, 0, 0)]
def ar_190 : List ai_R := [(0, .aload_n 0, 1, .null, 0, 0, 0, 0), (1, .getfield 145, 3, .null, 11, 11, 12011, 0), (4, .ifCond .ne 15, 3, .null, 9, 0, 0, 0), (7, .aload_n 0, 1, .null, 0, 0, 0, 0),
  (8, .getfield 129, 3, .null, 11, 9, 12009, 0), (11, .iload_n 1, 1, .null, 0, 0, 0, 0), (12, .if_icmp .ne 7, 3, .null, 9, 0, 0, 0), (15, .iconst 1, 1, .null, 0, 0, 0, 0),
  (16, .goto 4, 3, .null, 10, 0, 0, 0), (19, .iconst 0, 1, .null, 0, 0, 0, 0), (20, .ireturn, 1, .null, 0, 0, 0, 0)]
def ar_191 : List ai_R := [(0, .aload_n 0, 1, .null, 0, 0, 0, 0), (1, .iload_n 1, 1, .null, 0, 0, 0, 0), (2, .invokevirtual 151, 3, .null, 0, 190, 12158, 0), (5, .ifCond .ne 5, 3, .null, 6, 0, 0, 0),
  (8, .iconst 0, 1, .null, 0, 0, 0, 0), (9, .ireturn, 1, .null, 0, 0, 0, 0), (10, .aload_n 0, 1, .null, 0, 0, 0, 0), (11, .invokevirtual 154, 3, .null, 0, 188, 12133, 0),
  (14, .iconst 1, 1, .null, 0, 0, 0, 0), (15, .ireturn, 1, .null, 0, 0, 0, 0)]
def ar_192 : List ai_R := [(0, .aload_n 0, 1, .null, 0, 0, 0, 0), (1, .iload_n 1, 1, .null, 0, 0, 0, 0), (2, .invokevirtual 157, 3, .null, 0, 191, 12189, 0), (5, .ifCond .ne 8, 3, .null, 7, 0, 0, 0),
  (8, .aload_n 0, 1, .null, 0, 0, 0, 0), (9, .iconst 2, 1, .null, 0, 0, 0, 0), (10, .invokevirtual 160, 3, .null, 0, 189, 12166, 0), (13, .return_, 1, .null, 0, 0, 0, 0)]
def ar_193 : List ai_R := [(0, .aload_n 0, 1, .null, 0, 0, 0, 0), (1, .bipush 11, 2, .null, 0, 0, 0, 0), (3, .invokevirtual 151, 3, .null, 0, 190, 12158, 0), (6, .ifCond .ne 11, 3, .null, 8, 0, 0, 0),
  (9, .aload_n 0, 1, .null, 0, 0, 0, 0), (10, .iconst 2, 1, .null, 0, 0, 0, 0), (11, .invokevirtual 160, 3, .null, 0, 189, 12166, 0), (14, .goto 23, 3, .null, 20, 0, 0, 0),
  (17, .aload_n 0, 1, .null, 0, 0, 0, 0), (18, .getfield 142, 3, .null, 11, 10, 12010, 0), (21, .i2l, 1, .null, 0, 0, 0, 0), (22, .iload_n 1, 1, .null, 0, 0, 0, 0),
  (23, .i2l, 1, .null, 0, 0, 0, 0), (24, .iload_n 2, 1, .null, 0, 0, 0, 0), (25, .i2l, 1, .null, 0, 0, 0, 0), (26, .invokestatic 164, 3, .null, 1, 181, 12130, 0),
  (29, .ifCond .ne 8, 3, .null, 20, 0, 0, 0), (32, .aload_n 0, 1, .null, 0, 0, 0, 0), (33, .iconst 3, 1, .null, 0, 0, 0, 0), (34, .invokevirtual 160, 3, .null, 0, 189, 12166, 0),
  (37, .aload_n 0, 1, .null, 0, 0, 0, 0), (38, .getfield 142, 3, .null, 11, 10, 12010, 0), (41, .istore_n 3, 1, .null, 0, 0, 0, 0), (42, .aload_n 0, 1, .null, 0, 0, 0, 0),
  (43, .getfield 145, 3, .null, 11, 11, 12011, 0), (46, .ifCond .ne 7, 3, .null, 28, 0, 0, 0), (49, .aload_n 0, 1, .null, 0, 0, 0, 0), (50, .invokevirtual 154, 3, .null, 0, 188, 12133, 0),
  (53, .iload_n 3, 1, .null, 0, 0, 0, 0), (54, .ireturn, 1, .null, 0, 0, 0, 0)]
def ar_194 : List ai_R := [(0, .aload_n 0, 1, .null, 0, 0, 0, 0), (1, .iconst 0, 1, .null, 0, 0, 0, 0), (2, .aload_n 0, 1, .null, 0, 0, 0, 0), (3, .getfield 24, 3, .null, 11, 4, 12004, 0),
  (6, .iconst 0, 1, .null, 0, 0, 0, 0), (7, .iaload, 1, .null, 0, 0, 0, 0), (8, .iconst 1, 1, .null, 0, 0, 0, 0), (9, .isub, 1, .null, 0, 0, 0, 0),
  (10, .invokevirtual 168, 3, .null, 0, 193, 12170, 0), (13, .ireturn, 1, .null, 0, 0, 0, 0)]
def ar_195 : List ai_R := [(0, .aload_n 0, 1, .null, 0, 0, 0, 0), (1, .iconst 0, 1, .null, 0, 0, 0, 0), (2, .aload_n 0, 1, .null, 0, 0, 0, 0), (3, .getfield 24, 3, .null, 11, 4, 12004, 0),
  (6, .iconst 1, 1, .null, 0, 0, 0, 0), (7, .iaload, 1, .null, 0, 0, 0, 0), (8, .iconst 1, 1, .null, 0, 0, 0, 0), (9, .isub, 1, .null, 0, 0, 0, 0),
  (10, .invokevirtual 168, 3, .null, 0, 193, 12170, 0), (13, .ireturn, 1, .null, 0, 0, 0, 0)]
def ar_196 : List ai_R := [(0, .bipush 6, 2, .null, 0, 0, 0, 0), (2, .iload_n 0, 1, .null, 0, 0, 0, 0), (3, .imul, 1, .null, 0, 0, 0, 0), (4, .iload_n 1, 1, .null, 0, 0, 0, 0),
  (5, .iadd, 1, .null, 0, 0, 0, 0), (6, .ireturn, 1, .null, 0, 0, 0, 0)]
def ar_197 : List ai_R := [(0, .aload_n 0, 1, .null, 0, 0, 0, 0), (1, .getfield 24, 3, .null, 11, 4, 12004, 0), (4, .iconst 0, 1, .null, 0, 0, 0, 0), (5, .iaload, 1, .null, 0, 0, 0, 0),
  (6, .ifCond .le 8, 3, .null, 8, 0, 0, 0), (9, .aload_n 0, 1, .null, 0, 0, 0, 0), (10, .iconst 4, 1, .null, 0, 0, 0, 0), (11, .invokevirtual 160, 3, .null, 0, 189, 12166, 0),
  (14, .aload_n 0, 1, .null, 0, 0, 0, 0), (15, .getfield 145, 3, .null, 11, 11, 12011, 0), (18, .ifCond .eq 4, 3, .null, 12, 0, 0, 0), (21, .return_, 1, .null, 0, 0, 0, 0),
  (22, .aload_n 0, 1, .null, 0, 0, 0, 0), (23, .invokevirtual 154, 3, .null, 0, 188, 12133, 0), (26, .aload_n 0, 1, .null, 0, 0, 0, 0), (27, .getfield 24, 3, .null, 11, 4, 12004, 0),
  (30, .iconst 0, 1, .null, 0, 0, 0, 0), (31, .aload_n 0, 1, .null, 0, 0, 0, 0), (32, .iconst 2, 1, .null, 0, 0, 0, 0), (33, .bipush 14, 2, .null, 0, 0, 0, 0),
  (35, .invokevirtual 168, 3, .null, 0, 193, 12170, 0), (38, .iastore, 1, .null, 0, 0, 0, 0), (39, .return_, 1, .null, 0, 0, 0, 0)]
def ar_198 : List ai_R := [(0, .aload_n 0, 1, .null, 0, 0, 0, 0), (1, .getfield 24, 3, .null, 11, 4, 12004, 0), (4, .iconst 0, 1, .null, 0, 0, 0, 0), (5, .iaload, 1, .null, 0, 0, 0, 0),
  (6, .ifCond .ne 11, 3, .null, 9, 0, 0, 0), (9, .aload_n 0, 1, .null, 0, 0, 0, 0), (10, .iconst 2, 1, .null, 0, 0, 0, 0), (11, .invokevirtual 160, 3, .null, 0, 189, 12166, 0),
  (14, .goto 17, 3, .null, 17, 0, 0, 0), (17, .aload_n 0, 1, .null, 0, 0, 0, 0), (18, .getfield 24, 3, .null, 11, 4, 12004, 0), (21, .iconst 1, 1, .null, 0, 0, 0, 0),
  (22, .iaload, 1, .null, 0, 0, 0, 0), (23, .ifCond .le 8, 3, .null, 17, 0, 0, 0), (26, .aload_n 0, 1, .null, 0, 0, 0, 0), (27, .iconst 4, 1, .null, 0, 0, 0, 0),
  (28, .invokevirtual 160, 3, .null, 0, 189, 12166, 0), (31, .aload_n 0, 1, .null, 0, 0, 0, 0), (32, .getfield 145, 3, .null, 11, 11, 12011, 0), (35, .ifCond .eq 4, 3, .null, 21, 0, 0, 0),
  (38, .return_, 1, .null, 0, 0, 0, 0), (39, .aload_n 0, 1, .null, 0, 0, 0, 0), (40, .invokevirtual 154, 3, .null, 0, 188, 12133, 0), (43, .aload_n 0, 1, .null, 0, 0, 0, 0),
  (44, .getfield 24, 3, .null, 11, 4, 12004, 0), (47, .iconst 1, 1, .null, 0, 0, 0, 0), (48, .aload_n 0, 1, .null, 0, 0, 0, 0), (49, .iconst 1, 1, .null, 0, 0, 0, 0),
  (50, .bipush 6, 2, .null, 0, 0, 0, 0), (52, .invokevirtual 168, 3, .null, 0, 193, 12170, 0), (55, .iastore, 1, .null, 0, 0, 0, 0), (56, .iconst 0, 1, .null, 0, 0, 0, 0),
  (57, .istore_n 1, 1, .null, 0, 0, 0, 0), (58, .iload_n 1, 1, .null, 0, 0, 0, 0), (59, .bipush 14, 2, .null, 0, 0, 0, 0), (61, .if_icmp .ge 50, 3, .null, 63, 0, 0, 0),
  (64, .iconst 0, 1, .null, 0, 0, 0, 0), (65, .istore_n 2, 1, .null, 0, 0, 0, 0), (66, .iload_n 2, 1, .null, 0, 0, 0, 0), (67, .bipush 6, 2, .null, 0, 0, 0, 0),
  (69, .if_icmp .ge 36, 3, .null, 61, 0, 0, 0), (72, .aload_n 0, 1, .null, 0, 0, 0, 0), (73, .getfield 24, 3, .null, 11, 4, 12004, 0), (76, .iconst 2, 1, .null, 0, 0, 0, 0),
  (77, .iload_n 1, 1, .null, 0, 0, 0, 0), (78, .iload_n 2, 1, .null, 0, 0, 0, 0), (79, .invokestatic 172, 3, .null, 1, 196, 12178, 0), (82, .iadd, 1, .null, 0, 0, 0, 0),
  (83, .iload_n 1, 1, .null, 0, 0, 0, 0), (84, .iastore, 1, .null, 0, 0, 0, 0), (85, .aload_n 0, 1, .null, 0, 0, 0, 0), (86, .getfield 24, 3, .null, 11, 4, 12004, 0),
  (89, .bipush 86, 2, .null, 0, 0, 0, 0), (91, .iload_n 1, 1, .null, 0, 0, 0, 0), (92, .iload_n 2, 1, .null, 0, 0, 0, 0), (93, .invokestatic 172, 3, .null, 1, 196, 12178, 0),
  (96, .iadd, 1, .null, 0, 0, 0, 0), (97, .iconst (-1), 1, .null, 0, 0, 0, 0), (98, .iastore, 1, .null, 0, 0, 0, 0), (99, .iinc 2 1, 3, .null, 0, 0, 0, 0),
  (102, .goto (-36), 3, .null, 38, 0, 0, 0), (105, .iinc 1 1, 3, .null, 0, 0, 0, 0), (108, .goto (-50), 3, .null, 33, 0, 0, 0), (111, .return_, 1, .null, 0, 0, 0, 0)]
def ar_199 : List ai_R := [(0, .aload_n 0, 1, .null, 0, 0, 0, 0), (1, .invokevirtual 175, 3, .null, 0, 194, 12185, 0), (4, .istore_n 1, 1, .null, 0, 0, 0, 0), (5, .iconst 0, 1, .null, 0, 0, 0, 0),
  (6, .istore_n 2, 1, .null, 0, 0, 0, 0), (7, .iload_n 2, 1, .null, 0, 0, 0, 0), (8, .aload_n 0, 1, .null, 0, 0, 0, 0), (9, .getfield 24, 3, .null, 11, 4, 12004, 0),
  (12, .iconst 1, 1, .null, 0, 0, 0, 0), (13, .iaload, 1, .null, 0, 0, 0, 0), (14, .if_icmp .ge 71, 3, .null, 50, 0, 0, 0), (17, .aload_n 0, 1, .null, 0, 0, 0, 0),
  (18, .getfield 145, 3, .null, 11, 11, 12011, 0), (21, .ifCond .ne 64, 3, .null, 50, 0, 0, 0), (24, .aload_n 0, 1, .null, 0, 0, 0, 0), (25, .invokevirtual 175, 3, .null, 0, 194, 12185, 0),
  (28, .istore_n 3, 1, .null, 0, 0, 0, 0), (29, .aload_n 0, 1, .null, 0, 0, 0, 0), (30, .getfield 145, 3, .null, 11, 11, 12011, 0), (33, .ifCond .eq 4, 3, .null, 21, 0, 0, 0),
  (36, .return_, 1, .null, 0, 0, 0, 0), (37, .aload_n 0, 1, .null, 0, 0, 0, 0), (38, .getfield 24, 3, .null, 11, 4, 12004, 0), (41, .iconst 2, 1, .null, 0, 0, 0, 0),
  (42, .iload_n 1, 1, .null, 0, 0, 0, 0), (43, .iload_n 2, 1, .null, 0, 0, 0, 0), (44, .invokestatic 172, 3, .null, 1, 196, 12178, 0), (47, .iadd, 1, .null, 0, 0, 0, 0),
  (48, .iload_n 3, 1, .null, 0, 0, 0, 0), (49, .iastore, 1, .null, 0, 0, 0, 0), (50, .aload_n 0, 1, .null, 0, 0, 0, 0), (51, .getfield 24, 3, .null, 11, 4, 12004, 0),
  (54, .bipush 86, 2, .null, 0, 0, 0, 0), (56, .iload_n 1, 1, .null, 0, 0, 0, 0), (57, .iload_n 2, 1, .null, 0, 0, 0, 0), (58, .invokestatic 172, 3, .null, 1, 196, 12178, 0),
  (61, .iadd, 1, .null, 0, 0, 0, 0), (62, .iconst (-1), 1, .null, 0, 0, 0, 0), (63, .iastore, 1, .null, 0, 0, 0, 0), (64, .aload_n 0, 1, .null, 0, 0, 0, 0),
  (65, .getfield 24, 3, .null, 11, 4, 12004, 0), (68, .sipush 170, 3, .null, 0, 0, 0, 0), (71, .iload_n 1, 1, .null, 0, 0, 0, 0), (72, .iload_n 2, 1, .null, 0, 0, 0, 0),
  (73, .invokestatic 172, 3, .null, 1, 196, 12178, 0), (76, .iadd, 1, .null, 0, 0, 0, 0), (77, .iconst 0, 1, .null, 0, 0, 0, 0), (78, .iastore, 1, .null, 0, 0, 0, 0),
  (79, .iinc 2 1, 3, .null, 0, 0, 0, 0), (82, .goto (-75), 3, .null, 5, 0, 0, 0), (85, .return_, 1, .null, 0, 0, 0, 0)]
def ar_200 : List ai_R := [(0, .aload_n 0, 1, .null, 0, 0, 0, 0), (1, .invokevirtual 175, 3, .null, 0, 194, 12185, 0), (4, .istore_n 1, 1, .null, 0, 0, 0, 0), (5, .aload_n 0, 1, .null, 0, 0, 0, 0),
  (6, .invokevirtual 178, 3, .null, 0, 195, 12201, 0), (9, .istore_n 2, 1, .null, 0, 0, 0, 0), (10, .aload_n 0, 1, .null, 0, 0, 0, 0), (11, .bipush 11, 2, .null, 0, 0, 0, 0),
  (13, .invokevirtual 151, 3, .null, 0, 190, 12158, 0), (16, .ifCond .eq 27, 3, .null, 24, 0, 0, 0), (19, .aload_n 0, 1, .null, 0, 0, 0, 0), (20, .getfield 142, 3, .null, 11, 10, 12010, 0),
  (23, .aload_n 0, 1, .null, 0, 0, 0, 0), (24, .getfield 24, 3, .null, 11, 4, 12004, 0), (27, .iconst 2, 1, .null, 0, 0, 0, 0), (28, .iload_n 1, 1, .null, 0, 0, 0, 0),
  (29, .iload_n 2, 1, .null, 0, 0, 0, 0), (30, .invokestatic 172, 3, .null, 1, 196, 12178, 0), (33, .iadd, 1, .null, 0, 0, 0, 0), (34, .iaload, 1, .null, 0, 0, 0, 0),
  (35, .if_icmp .ne 8, 3, .null, 24, 0, 0, 0), (38, .aload_n 0, 1, .null, 0, 0, 0, 0), (39, .iconst 3, 1, .null, 0, 0, 0, 0), (40, .invokevirtual 160, 3, .null, 0, 189, 12166, 0),
  (43, .aload_n 0, 1, .null, 0, 0, 0, 0), (44, .invokevirtual 175, 3, .null, 0, 194, 12185, 0), (47, .istore_n 3, 1, .null, 0, 0, 0, 0), (48, .aload_n 0, 1, .null, 0, 0, 0, 0),
  (49, .iconst 1, 1, .null, 0, 0, 0, 0), (50, .bipush 99, 2, .null, 0, 0, 0, 0), (52, .invokevirtual 168, 3, .null, 0, 193, 12170, 0), (55, .istore 4, 2, .null, 0, 0, 0, 0),
  (57, .aload_n 0, 1, .null, 0, 0, 0, 0), (58, .getfield 145, 3, .null, 11, 11, 12011, 0), (61, .ifCond .eq 4, 3, .null, 36, 0, 0, 0), (64, .return_, 1, .null, 0, 0, 0, 0),
  (65, .aload_n 0, 1, .null, 0, 0, 0, 0), (66, .getfield 24, 3, .null, 11, 4, 12004, 0), (69, .bipush 86, 2, .null, 0, 0, 0, 0), (71, .iload_n 1, 1, .null, 0, 0, 0, 0),
  (72, .iload_n 2, 1, .null, 0, 0, 0, 0), (73, .invokestatic 172, 3, .null, 1, 196, 12178, 0), (76, .iadd, 1, .null, 0, 0, 0, 0), (77, .iload_n 3, 1, .null, 0, 0, 0, 0),
  (78, .iastore, 1, .null, 0, 0, 0, 0), (79, .aload_n 0, 1, .null, 0, 0, 0, 0), (80, .getfield 24, 3, .null, 11, 4, 12004, 0), (83, .sipush 170, 3, .null, 0, 0, 0, 0),
  (86, .iload_n 1, 1, .null, 0, 0, 0, 0), (87, .iload_n 2, 1, .null, 0, 0, 0, 0), (88, .invokestatic 172, 3, .null, 1, 196, 12178, 0), (91, .iadd, 1, .null, 0, 0, 0, 0),
  (92, .iload 4, 2, .null, 0, 0, 0, 0), (94, .iastore, 1, .null, 0, 0, 0, 0), (95, .return_, 1, .null, 0, 0, 0, 0)]
def ar_201 : List ai_R := [(0, .aload_n 0, 1, .null, 0, 0, 0, 0), (1, .invokevirtual 175, 3, .null, 0, 194, 12185, 0), (4, .istore_n 1, 1, .null, 0, 0, 0, 0), (5, .aload_n 0, 1, .null, 0, 0, 0, 0),
  (6, .invokevirtual 178, 3, .null, 0, 195, 12201, 0), (9, .istore_n 2, 1, .null, 0, 0, 0, 0), (10, .aload_n 0, 1, .null, 0, 0, 0, 0), (11, .getfield 145, 3, .null, 11, 11, 12011, 0),
  (14, .ifCond .eq 4, 3, .null, 10, 0, 0, 0), (17, .return_, 1, .null, 0, 0, 0, 0), (18, .aload_n 0, 1, .null, 0, 0, 0, 0), (19, .getfield 24, 3, .null, 11, 4, 12004, 0),
  (22, .iconst 2, 1, .null, 0, 0, 0, 0), (23, .iload_n 1, 1, .null, 0, 0, 0, 0), (24, .iload_n 2, 1, .null, 0, 0, 0, 0), (25, .invokestatic 172, 3, .null, 1, 196, 12178, 0),
  (28, .iadd, 1, .null, 0, 0, 0, 0), (29, .iload_n 1, 1, .null, 0, 0, 0, 0), (30, .iastore, 1, .null, 0, 0, 0, 0), (31, .aload_n 0, 1, .null, 0, 0, 0, 0),
  (32, .getfield 24, 3, .null, 11, 4, 12004, 0), (35, .bipush 86, 2, .null, 0, 0, 0, 0), (37, .iload_n 1, 1, .null, 0, 0, 0, 0), (38, .iload_n 2, 1, .null, 0, 0, 0, 0),
  (39, .invokestatic 172, 3, .null, 1, 196, 12178, 0), (42, .iadd, 1, .null, 0, 0, 0, 0), (43, .iconst (-1), 1, .null, 0, 0, 0, 0), (44, .iastore, 1, .null, 0, 0, 0, 0),
  (45, .aload_n 0, 1, .null, 0, 0, 0, 0), (46, .getfield 24, 3, .null, 11, 4, 12004, 0), (49, .sipush 170, 3, .null, 0, 0, 0, 0), (52, .iload_n 1, 1, .null, 0, 0, 0, 0),
  (53, .iload_n 2, 1, .null, 0, 0, 0, 0), (54, .invokestatic 172, 3, .null, 1, 196, 12178, 0), (57, .iadd, 1, .null, 0, 0, 0, 0), (58, .iconst 0, 1, .null, 0, 0, 0, 0),
  (59, .iastore, 1, .null, 0, 0, 0, 0), (60, .return_, 1, .null, 0, 0, 0, 0)]
def ar_202 : List ai_R := [(0, .aload_n 0, 1, .null, 0, 0, 0, 0), (1, .invokevirtual 175, 3, .null, 0, 194, 12185, 0), (4, .istore_n 1, 1, .null, 0, 0, 0, 0), (5, .aload_n 0, 1, .null, 0, 0, 0, 0),
  (6, .iconst 0, 1, .null, 0, 0, 0, 0), (7, .bipush 9, 2, .null, 0, 0, 0, 0), (9, .invokevirtual 168, 3, .null, 0, 193, 12170, 0), (12, .istore_n 2, 1, .null, 0, 0, 0, 0),
  (13, .aload_n 0, 1, .null, 0, 0, 0, 0), (14, .getfield 145, 3, .null, 11, 11, 12011, 0), (17, .ifCond .ne 14, 3, .null, 18, 0, 0, 0), (20, .aload_n 0, 1, .null, 0, 0, 0, 0),
  (21, .getfield 24, 3, .null, 11, 4, 12004, 0), (24, .sipush 254, 3, .null, 0, 0, 0, 0), (27, .iload_n 1, 1, .null, 0, 0, 0, 0), (28, .iadd, 1, .null, 0, 0, 0, 0),
  (29, .iload_n 2, 1, .null, 0, 0, 0, 0), (30, .iastore, 1, .null, 0, 0, 0, 0), (31, .return_, 1, .null, 0, 0, 0, 0)]
def ar_203 : List ai_R := [(0, .aload_n 0, 1, .null, 0, 0, 0, 0), (1, .getfield 24, 3, .null, 11, 4, 12004, 0), (4, .sipush 271, 3, .null, 0, 0, 0, 0), (7, .iaload, 1, .null, 0, 0, 0, 0),
  (8, .bipush 8, 2, .null, 0, 0, 0, 0), (10, .if_icmp .ne 8, 3, .null, 9, 0, 0, 0), (13, .aload_n 0, 1, .null, 0, 0, 0, 0), (14, .iconst 4, 1, .null, 0, 0, 0, 0),
  (15, .invokevirtual 160, 3, .null, 0, 189, 12166, 0), (18, .aload_n 0, 1, .null, 0, 0, 0, 0), (19, .getfield 145, 3, .null, 11, 11, 12011, 0), (22, .ifCond .eq 4, 3, .null, 13, 0, 0, 0),
  (25, .return_, 1, .null, 0, 0, 0, 0), (26, .aload_n 0, 1, .null, 0, 0, 0, 0), (27, .invokevirtual 154, 3, .null, 0, 188, 12133, 0), (30, .aload_n 0, 1, .null, 0, 0, 0, 0),
  (31, .invokevirtual 175, 3, .null, 0, 194, 12185, 0), (34, .istore_n 1, 1, .null, 0, 0, 0, 0), (35, .aload_n 0, 1, .null, 0, 0, 0, 0), (36, .getfield 145, 3, .null, 11, 11, 12011, 0),
  (39, .ifCond .eq 4, 3, .null, 22, 0, 0, 0), (42, .return_, 1, .null, 0, 0, 0, 0), (43, .aload_n 0, 1, .null, 0, 0, 0, 0), (44, .getfield 24, 3, .null, 11, 4, 12004, 0),
  (47, .sipush 272, 3, .null, 0, 0, 0, 0), (50, .aload_n 0, 1, .null, 0, 0, 0, 0), (51, .getfield 24, 3, .null, 11, 4, 12004, 0), (54, .sipush 271, 3, .null, 0, 0, 0, 0),
  (57, .iaload, 1, .null, 0, 0, 0, 0), (58, .iadd, 1, .null, 0, 0, 0, 0), (59, .iload_n 1, 1, .null, 0, 0, 0, 0), (60, .iastore, 1, .null, 0, 0, 0, 0),
  (61, .aload_n 0, 1, .null, 0, 0, 0, 0), (62, .getfield 24, 3, .null, 11, 4, 12004, 0), (65, .sipush 271, 3, .null, 0, 0, 0, 0), (68, .dup2, 1, .null, 0, 0, 0, 0),
  (69, .iaload, 1, .null, 0, 0, 0, 0), (70, .iconst 1, 1, .null, 0, 0, 0, 0), (71, .iadd, 1, .null, 0, 0, 0, 0), (72, .iastore, 1, .null, 0, 0, 0, 0),
  (73, .return_, 1, .null, 0, 0, 0, 0)]
def ar_204 : List ai_R := [(0, .aload_n 0, 1, .null, 0, 0, 0, 0), (1, .iconst 0, 1, .null, 0, 0, 0, 0), (2, .invokevirtual 151, 3, .null, 0, 190, 12158, 0), (5, .ifCond .eq 10, 3, .null, 7, 0, 0, 0),
  (8, .aload_n 0, 1, .null, 0, 0, 0, 0), (9, .invokevirtual 181, 3, .null, 0, 197, 12162, 0), (12, .goto 224, 3, .null, 118, 0, 0, 0), (15, .aload_n 0, 1, .null, 0, 0, 0, 0),
  (16, .iconst 1, 1, .null, 0, 0, 0, 0), (17, .invokevirtual 151, 3, .null, 0, 190, 12158, 0), (20, .ifCond .eq 10, 3, .null, 14, 0, 0, 0), (23, .aload_n 0, 1, .null, 0, 0, 0, 0),
  (24, .invokevirtual 184, 3, .null, 0, 198, 12174, 0), (27, .goto 209, 3, .null, 118, 0, 0, 0), (30, .aload_n 0, 1, .null, 0, 0, 0, 0), (31, .getfield 24, 3, .null, 11, 4, 12004, 0),
  (34, .iconst 1, 1, .null, 0, 0, 0, 0), (35, .iaload, 1, .null, 0, 0, 0, 0), (36, .ifCond .ne 11, 3, .null, 23, 0, 0, 0), (39, .aload_n 0, 1, .null, 0, 0, 0, 0),
  (40, .iconst 2, 1, .null, 0, 0, 0, 0), (41, .invokevirtual 160, 3, .null, 0, 189, 12166, 0), (44, .goto 192, 3, .null, 118, 0, 0, 0), (47, .aload_n 0, 1, .null, 0, 0, 0, 0),
  (48, .bipush 9, 2, .null, 0, 0, 0, 0), (50, .invokevirtual 151, 3, .null, 0, 190, 12158, 0), (53, .ifCond .eq 10, 3, .null, 30, 0, 0, 0), (56, .aload_n 0, 1, .null, 0, 0, 0, 0),
  (57, .invokevirtual 187, 3, .null, 0, 203, 12181, 0), (60, .goto 176, 3, .null, 118, 0, 0, 0), (63, .aload_n 0, 1, .null, 0, 0, 0, 0), (64, .iconst 2, 1, .null, 0, 0, 0, 0),
  (65, .invokevirtual 157, 3, .null, 0, 191, 12189, 0), (68, .ifCond .eq 10, 3, .null, 37, 0, 0, 0), (71, .aload_n 0, 1, .null, 0, 0, 0, 0), (72, .invokevirtual 190, 3, .null, 0, 199, 12193, 0),
  (75, .goto 161, 3, .null, 118, 0, 0, 0), (78, .aload_n 0, 1, .null, 0, 0, 0, 0), (79, .iconst 3, 1, .null, 0, 0, 0, 0), (80, .invokevirtual 157, 3, .null, 0, 191, 12189, 0),
  (83, .ifCond .eq 10, 3, .null, 44, 0, 0, 0), (86, .aload_n 0, 1, .null, 0, 0, 0, 0), (87, .invokevirtual 193, 3, .null, 0, 200, 12197, 0), (90, .goto 146, 3, .null, 118, 0, 0, 0),
  (93, .aload_n 0, 1, .null, 0, 0, 0, 0), (94, .iconst 4, 1, .null, 0, 0, 0, 0), (95, .invokevirtual 157, 3, .null, 0, 191, 12189, 0), (98, .ifCond .eq 10, 3, .null, 51, 0, 0, 0),
  (101, .aload_n 0, 1, .null, 0, 0, 0, 0), (102, .invokevirtual 196, 3, .null, 0, 201, 12205, 0), (105, .goto 131, 3, .null, 118, 0, 0, 0), (108, .aload_n 0, 1, .null, 0, 0, 0, 0),
  (109, .bipush 7, 2, .null, 0, 0, 0, 0), (111, .invokevirtual 157, 3, .null, 0, 191, 12189, 0), (114, .ifCond .eq 10, 3, .null, 58, 0, 0, 0), (117, .aload_n 0, 1, .null, 0, 0, 0, 0),
  (118, .invokevirtual 199, 3, .null, 0, 202, 12209, 0), (121, .goto 115, 3, .null, 118, 0, 0, 0), (124, .aload_n 0, 1, .null, 0, 0, 0, 0), (125, .iconst 5, 1, .null, 0, 0, 0, 0),
  (126, .invokevirtual 157, 3, .null, 0, 191, 12189, 0), (129, .ifCond .eq 36, 3, .null, 81, 0, 0, 0), (132, .aload_n 0, 1, .null, 0, 0, 0, 0), (133, .invokevirtual 175, 3, .null, 0, 194, 12185, 0),
  (136, .istore_n 1, 1, .null, 0, 0, 0, 0), (137, .aload_n 0, 1, .null, 0, 0, 0, 0), (138, .getfield 24, 3, .null, 11, 4, 12004, 0), (141, .sipush 268, 3, .null, 0, 0, 0, 0),
  (144, .dup2, 1, .null, 0, 0, 0, 0), (145, .iaload, 1, .null, 0, 0, 0, 0), (146, .aload_n 0, 1, .null, 0, 0, 0, 0), (147, .getfield 145, 3, .null, 11, 11, 12011, 0),
  (150, .ifCond .ne 9, 3, .null, 77, 0, 0, 0), (153, .iconst 1, 1, .null, 0, 0, 0, 0), (154, .iload_n 1, 1, .null, 0, 0, 0, 0), (155, .ishl, 1, .null, 0, 0, 0, 0),
  (156, .goto 4, 3, .null, 78, 0, 0, 0), (159, .iconst 0, 1, .null, 0, 0, 0, 0), (160, .ior, 1, .null, 0, 0, 0, 0), (161, .iastore, 1, .null, 0, 0, 0, 0),
  (162, .goto 74, 3, .null, 118, 0, 0, 0), (165, .aload_n 0, 1, .null, 0, 0, 0, 0), (166, .bipush 6, 2, .null, 0, 0, 0, 0), (168, .invokevirtual 157, 3, .null, 0, 191, 12189, 0),
  (171, .ifCond .eq 36, 3, .null, 104, 0, 0, 0), (174, .aload_n 0, 1, .null, 0, 0, 0, 0), (175, .invokevirtual 175, 3, .null, 0, 194, 12185, 0), (178, .istore_n 1, 1, .null, 0, 0, 0, 0),
  (179, .aload_n 0, 1, .null, 0, 0, 0, 0), (180, .getfield 24, 3, .null, 11, 4, 12004, 0), (183, .sipush 269, 3, .null, 0, 0, 0, 0), (186, .dup2, 1, .null, 0, 0, 0, 0),
  (187, .iaload, 1, .null, 0, 0, 0, 0), (188, .aload_n 0, 1, .null, 0, 0, 0, 0), (189, .getfield 145, 3, .null, 11, 11, 12011, 0), (192, .ifCond .ne 9, 3, .null, 100, 0, 0, 0),
  (195, .iconst 1, 1, .null, 0, 0, 0, 0), (196, .iload_n 1, 1, .null, 0, 0, 0, 0), (197, .ishl, 1, .null, 0, 0, 0, 0), (198, .goto 4, 3, .null, 101, 0, 0, 0),
  (201, .iconst 0, 1, .null, 0, 0, 0, 0), (202, .ior, 1, .null, 0, 0, 0, 0), (203, .iastore, 1, .null, 0, 0, 0, 0), (204, .goto 32, 3, .null, 118, 0, 0, 0),
  (207, .aload_n 0, 1, .null, 0, 0, 0, 0), (208, .bipush 8, 2, .null, 0, 0, 0, 0), (210, .invokevirtual 157, 3, .null, 0, 191, 12189, 0), (213, .ifCond .eq 18, 3, .null, 115, 0, 0, 0),
  (216, .aload_n 0, 1, .null, 0, 0, 0, 0), (217, .getfield 24, 3, .null, 11, 4, 12004, 0), (220, .sipush 270, 3, .null, 0, 0, 0, 0), (223, .aload_n 0, 1, .null, 0, 0, 0, 0),
  (224, .invokevirtual 175, 3, .null, 0, 194, 12185, 0), (227, .iastore, 1, .null, 0, 0, 0, 0), (228, .goto 8, 3, .null, 118, 0, 0, 0), (231, .aload_n 0, 1, .null, 0, 0, 0, 0),
  (232, .iconst 2, 1, .null, 0, 0, 0, 0), (233, .invokevirtual 160, 3, .null, 0, 189, 12166, 0), (236, .aload_n 0, 1, .null, 0, 0, 0, 0), (237, .bipush 12, 2, .null, 0, 0, 0, 0),
  (239, .invokevirtual 202, 3, .null, 0, 192, 12213, 0), (242, .aload_n 0, 1, .null, 0, 0, 0, 0), (243, .getfield 24, 3, .null, 11, 4, 12004, 0), (246, .sipush 280, 3, .null, 0, 0, 0, 0),
  (249, .dup2, 1, .null, 0, 0, 0, 0), (250, .iaload, 1, .null, 0, 0, 0, 0), (251, .iconst 1, 1, .null, 0, 0, 0, 0), (252, .iadd, 1, .null, 0, 0, 0, 0),
  (253, .iastore, 1, .null, 0, 0, 0, 0), (254, .return_, 1, .null, 0, 0, 0, 0)]
def ar_205 : List ai_R := [(0, .aload_n 0, 1, .null, 0, 0, 0, 0), (1, .iconst 0, 1, .null, 0, 0, 0, 0), (2, .putfield 1, 3, .null, 11, 0, 12000, 0), (5, .iload_n 1, 1, .null, 0, 0, 0, 0),
  (6, .i2l, 1, .null, 0, 0, 0, 0), (7, .lconst 0, 1, .null, 0, 0, 0, 0), (8, .aload_n 0, 1, .null, 0, 0, 0, 0), (9, .getfield 101, 3, .null, 11, 5, 12005, 0),
  (12, .i2l, 1, .null, 0, 0, 0, 0), (13, .invokestatic 164, 3, .null, 1, 181, 12130, 0), (16, .ifCond .ne 6, 3, .null, 13, 0, 0, 0), (19, .bipush (-3), 2, .null, 0, 0, 0, 0),
  (21, .ireturn, 1, .null, 0, 0, 0, 0), (22, .aload_n 0, 1, .null, 0, 0, 0, 0), (23, .iload_n 1, 1, .null, 0, 0, 0, 0), (24, .putfield 104, 3, .null, 11, 8, 12008, 0),
  (27, .aload_n 0, 1, .null, 0, 0, 0, 0), (28, .iconst 0, 1, .null, 0, 0, 0, 0), (29, .putfield 101, 3, .null, 11, 5, 12005, 0), (32, .aload_n 0, 1, .null, 0, 0, 0, 0),
  (33, .iconst 0, 1, .null, 0, 0, 0, 0), (34, .putfield 122, 3, .null, 11, 7, 12007, 0), (37, .aload_n 0, 1, .null, 0, 0, 0, 0), (38, .iconst 0, 1, .null, 0, 0, 0, 0),
  (39, .putfield 145, 3, .null, 11, 11, 12011, 0), (42, .iconst 0, 1, .null, 0, 0, 0, 0), (43, .istore_n 2, 1, .null, 0, 0, 0, 0), (44, .iload_n 2, 1, .null, 0, 0, 0, 0),
  (45, .sipush 281, 3, .null, 0, 0, 0, 0), (48, .if_icmp .ge 16, 3, .null, 37, 0, 0, 0), (51, .aload_n 0, 1, .null, 0, 0, 0, 0), (52, .getfield 24, 3, .null, 11, 4, 12004, 0),
  (55, .iload_n 2, 1, .null, 0, 0, 0, 0), (56, .iconst 0, 1, .null, 0, 0, 0, 0), (57, .iastore, 1, .null, 0, 0, 0, 0), (58, .iinc 2 1, 3, .null, 0, 0, 0, 0),
  (61, .goto (-17), 3, .null, 27, 0, 0, 0), (64, .aload_n 0, 1, .null, 0, 0, 0, 0), (65, .invokevirtual 154, 3, .null, 0, 188, 12133, 0), (68, .aload_n 0, 1, .null, 0, 0, 0, 0),
  (69, .getfield 145, 3, .null, 11, 11, 12011, 0), (72, .ifCond .ne 19, 3, .null, 49, 0, 0, 0), (75, .aload_n 0, 1, .null, 0, 0, 0, 0), (76, .getfield 129, 3, .null, 11, 9, 12009, 0),
  (79, .bipush 13, 2, .null, 0, 0, 0, 0), (81, .if_icmp .eq 10, 3, .null, 49, 0, 0, 0), (84, .aload_n 0, 1, .null, 0, 0, 0, 0), (85, .invokevirtual 205, 3, .null, 0, 204, 12154, 0),
  (88, .goto (-20), 3, .null, 39, 0, 0, 0), (91, .aload_n 0, 1, .null, 0, 0, 0, 0), (92, .getfield 24, 3, .null, 11, 4, 12004, 0), (95, .iconst 0, 1, .null, 0, 0, 0, 0),
  (96, .iaload, 1, .null, 0, 0, 0, 0), (97, .ifCond .le 17, 3, .null, 62, 0, 0, 0), (100, .aload_n 0, 1, .null, 0, 0, 0, 0), (101, .getfield 24, 3, .null, 11, 4, 12004, 0),
  (104, .iconst 1, 1, .null, 0, 0, 0, 0), (105, .iaload, 1, .null, 0, 0, 0, 0), (106, .ifCond .ne 8, 3, .null, 62, 0, 0, 0), (109, .aload_n 0, 1, .null, 0, 0, 0, 0),
  (110, .iconst 2, 1, .null, 0, 0, 0, 0), (111, .invokevirtual 160, 3, .null, 0, 189, 12166, 0), (114, .aload_n 0, 1, .null, 0, 0, 0, 0), (115, .aload_n 0, 1, .null, 0, 0, 0, 0),
  (116, .getfield 145, 3, .null, 11, 11, 12011, 0), (119, .putfield 208, 3, .null, 11, 13, 12013, 0), (122, .aload_n 0, 1, .null, 0, 0, 0, 0), (123, .aload_n 0, 1, .null, 0, 0, 0, 0),
  (124, .getfield 145, 3, .null, 11, 11, 12011, 0), (127, .ifCond .ne 7, 3, .null, 72, 0, 0, 0), (130, .iconst (-1), 1, .null, 0, 0, 0, 0), (131, .goto 7, 3, .null, 74, 0, 0, 0),
  (134, .aload_n 0, 1, .null, 0, 0, 0, 0), (135, .getfield 148, 3, .null, 11, 12, 12012, 0), (138, .putfield 27, 3, .null, 11, 14, 12014, 0), (141, .aload_n 0, 1, .null, 0, 0, 0, 0),
  (142, .getfield 145, 3, .null, 11, 11, 12011, 0), (145, .ifCond .eq 11, 3, .null, 83, 0, 0, 0), (148, .bipush (-30), 2, .null, 0, 0, 0, 0), (150, .aload_n 0, 1, .null, 0, 0, 0, 0),
  (151, .getfield 145, 3, .null, 11, 11, 12011, 0), (154, .isub, 1, .null, 0, 0, 0, 0), (155, .ireturn, 1, .null, 0, 0, 0, 0), (156, .iconst 0, 1, .null, 0, 0, 0, 0),
  (157, .istore_n 2, 1, .null, 0, 0, 0, 0), (158, .iload_n 2, 1, .null, 0, 0, 0, 0), (159, .sipush 281, 3, .null, 0, 0, 0, 0), (162, .if_icmp .ge 21, 3, .null, 98, 0, 0, 0),
  (165, .aload_n 0, 1, .null, 0, 0, 0, 0), (166, .getfield 13, 3, .null, 11, 1, 12001, 0), (169, .iload_n 2, 1, .null, 0, 0, 0, 0), (170, .aload_n 0, 1, .null, 0, 0, 0, 0),
  (171, .getfield 24, 3, .null, 11, 4, 12004, 0), (174, .iload_n 2, 1, .null, 0, 0, 0, 0), (175, .iaload, 1, .null, 0, 0, 0, 0), (176, .iastore, 1, .null, 0, 0, 0, 0),
  (177, .iinc 2 1, 3, .null, 0, 0, 0, 0), (180, .goto (-22), 3, .null, 85, 0, 0, 0), (183, .aload_n 0, 1, .null, 0, 0, 0, 0), (184, .getfield 13, 3, .null, 11, 1, 12001, 0),
  (187, .sipush 281, 3, .null, 0, 0, 0, 0), (190, .iconst (-1), 1, .null, 0, 0, 0, 0), (191, .iastore, 1, .null, 0, 0, 0, 0), (192, .aload_n 0, 1, .null, 0, 0, 0, 0),
  (193, .getfield 13, 3, .null, 11, 1, 12001, 0), (196, .sipush 280, 3, .null, 0, 0, 0, 0), (199, .iaload, 1, .null, 0, 0, 0, 0), (200, .ireturn, 1, .null, 0, 0, 0, 0)]
def ar_206 : List ai_R := [(0, .aload_n 0, 1, .null, 0, 0, 0, 0), (1, .iconst 0, 1, .null, 0, 0, 0, 0), (2, .putfield 1, 3, .null, 11, 0, 12000, 0), (5, .iload_n 1, 1, .null, 0, 0, 0, 0),
  (6, .ifCond .ne 10, 3, .null, 8, 0, 0, 0), (9, .aload_n 0, 1, .null, 0, 0, 0, 0), (10, .getfield 208, 3, .null, 11, 13, 12013, 0), (13, .goto 16, 3, .null, 15, 0, 0, 0),
  (16, .iload_n 1, 1, .null, 0, 0, 0, 0), (17, .iconst 1, 1, .null, 0, 0, 0, 0), (18, .if_icmp .ne 10, 3, .null, 14, 0, 0, 0), (21, .aload_n 0, 1, .null, 0, 0, 0, 0),
  (22, .getfield 27, 3, .null, 11, 14, 12014, 0), (25, .goto 4, 3, .null, 15, 0, 0, 0), (28, .iconst (-1), 1, .null, 0, 0, 0, 0), (29, .ireturn, 1, .null, 0, 0, 0, 0)]
def ar_207 : List ai_R := [(0, .iload_n 1, 1, .null, 0, 0, 0, 0), (1, .i2l, 1, .null, 0, 0, 0, 0), (2, .lconst 0, 1, .null, 0, 0, 0, 0), (3, .aload_n 0, 1, .null, 0, 0, 0, 0),
  (4, .getfield 13, 3, .null, 11, 1, 12001, 0), (7, .iconst 0, 1, .null, 0, 0, 0, 0), (8, .iaload, 1, .null, 0, 0, 0, 0), (9, .iconst 1, 1, .null, 0, 0, 0, 0),
  (10, .isub, 1, .null, 0, 0, 0, 0), (11, .i2l, 1, .null, 0, 0, 0, 0), (12, .invokestatic 164, 3, .null, 1, 181, 12130, 0), (15, .ireturn, 1, .null, 0, 0, 0, 0)]
def ar_208 : List ai_R := [(0, .iload_n 1, 1, .null, 0, 0, 0, 0), (1, .i2l, 1, .null, 0, 0, 0, 0), (2, .lconst 1, 1, .null, 0, 0, 0, 0), (3, .iconst 1, 1, .null, 0, 0, 0, 0),
  (4, .aload_n 0, 1, .null, 0, 0, 0, 0), (5, .getfield 13, 3, .null, 11, 1, 12001, 0), (8, .iconst 0, 1, .null, 0, 0, 0, 0), (9, .iaload, 1, .null, 0, 0, 0, 0),
  (10, .ishl, 1, .null, 0, 0, 0, 0), (11, .iconst 1, 1, .null, 0, 0, 0, 0), (12, .isub, 1, .null, 0, 0, 0, 0), (13, .i2l, 1, .null, 0, 0, 0, 0),
  (14, .invokestatic 164, 3, .null, 1, 181, 12130, 0), (17, .ireturn, 1, .null, 0, 0, 0, 0)]
def ar_209 : List ai_R := [(0, .iload_n 1, 1, .null, 0, 0, 0, 0), (1, .i2l, 1, .null, 0, 0, 0, 0), (2, .lconst 0, 1, .null, 0, 0, 0, 0), (3, .aload_n 0, 1, .null, 0, 0, 0, 0),
  (4, .getfield 13, 3, .null, 11, 1, 12001, 0), (7, .sipush 271, 3, .null, 0, 0, 0, 0), (10, .iaload, 1, .null, 0, 0, 0, 0), (11, .iconst 1, 1, .null, 0, 0, 0, 0),
  (12, .isub, 1, .null, 0, 0, 0, 0), (13, .i2l, 1, .null, 0, 0, 0, 0), (14, .invokestatic 164, 3, .null, 1, 181, 12130, 0), (17, .ireturn, 1, .null, 0, 0, 0, 0)]
def ar_210 : List ai_R := [(0, .aload_n 0, 1, .null, 0, 0, 0, 0), (1, .getfield 13, 3, .null, 11, 1, 12001, 0), (4, .iconst 2, 1, .null, 0, 0, 0, 0), (5, .iload_n 1, 1, .null, 0, 0, 0, 0),
  (6, .iload_n 2, 1, .null, 0, 0, 0, 0), (7, .invokestatic 172, 3, .null, 1, 196, 12178, 0), (10, .iadd, 1, .null, 0, 0, 0, 0), (11, .iaload, 1, .null, 0, 0, 0, 0),
  (12, .ireturn, 1, .null, 0, 0, 0, 0)]
def ar_211 : List ai_R := [(0, .iconst 0, 1, .null, 0, 0, 0, 0), (1, .istore_n 3, 1, .null, 0, 0, 0, 0), (2, .iconst 0, 1, .null, 0, 0, 0, 0), (3, .istore 4, 2, .null, 0, 0, 0, 0),
  (5, .iload 4, 2, .null, 0, 0, 0, 0), (7, .aload_n 0, 1, .null, 0, 0, 0, 0), (8, .getfield 13, 3, .null, 11, 1, 12001, 0), (11, .iconst 0, 1, .null, 0, 0, 0, 0),
  (12, .iaload, 1, .null, 0, 0, 0, 0), (13, .if_icmp .ge 74, 3, .null, 53, 0, 0, 0), (16, .iload_n 1, 1, .null, 0, 0, 0, 0), (17, .iload 4, 2, .null, 0, 0, 0, 0),
  (19, .ishr, 1, .null, 0, 0, 0, 0), (20, .iconst 1, 1, .null, 0, 0, 0, 0), (21, .iand, 1, .null, 0, 0, 0, 0), (22, .ifCond .ne 6, 3, .null, 17, 0, 0, 0),
  (25, .goto 56, 3, .null, 51, 0, 0, 0), (28, .iload_n 3, 1, .null, 0, 0, 0, 0), (29, .iconst 1, 1, .null, 0, 0, 0, 0), (30, .aload_n 0, 1, .null, 0, 0, 0, 0),
  (31, .iload 4, 2, .null, 0, 0, 0, 0), (33, .iload_n 2, 1, .null, 0, 0, 0, 0), (34, .invokevirtual 211, 3, .null, 0, 210, 12230, 0), (37, .ishl, 1, .null, 0, 0, 0, 0),
  (38, .ior, 1, .null, 0, 0, 0, 0), (39, .istore_n 3, 1, .null, 0, 0, 0, 0), (40, .iload_n 3, 1, .null, 0, 0, 0, 0), (41, .aload_n 0, 1, .null, 0, 0, 0, 0),
  (42, .getfield 13, 3, .null, 11, 1, 12001, 0), (45, .bipush 86, 2, .null, 0, 0, 0, 0), (47, .iload 4, 2, .null, 0, 0, 0, 0), (49, .iload_n 2, 1, .null, 0, 0, 0, 0),
  (50, .invokestatic 172, 3, .null, 1, 196, 12178, 0), (53, .iadd, 1, .null, 0, 0, 0, 0), (54, .iaload, 1, .null, 0, 0, 0, 0), (55, .iconst (-1), 1, .null, 0, 0, 0, 0),
  (56, .if_icmp .ne 7, 3, .null, 39, 0, 0, 0), (59, .iconst 0, 1, .null, 0, 0, 0, 0), (60, .goto 19, 3, .null, 49, 0, 0, 0), (63, .iconst 1, 1, .null, 0, 0, 0, 0),
  (64, .aload_n 0, 1, .null, 0, 0, 0, 0), (65, .getfield 13, 3, .null, 11, 1, 12001, 0), (68, .bipush 86, 2, .null, 0, 0, 0, 0), (70, .iload 4, 2, .null, 0, 0, 0, 0),
  (72, .iload_n 2, 1, .null, 0, 0, 0, 0), (73, .invokestatic 172, 3, .null, 1, 196, 12178, 0), (76, .iadd, 1, .null, 0, 0, 0, 0), (77, .iaload, 1, .null, 0, 0, 0, 0),
  (78, .ishl, 1, .null, 0, 0, 0, 0), (79, .ior, 1, .null, 0, 0, 0, 0), (80, .istore_n 3, 1, .null, 0, 0, 0, 0), (81, .iinc 4 1, 3, .null, 0, 0, 0, 0),
  (84, .goto (-79), 3, .null, 4, 0, 0, 0), (87, .iload_n 3, 1, .null, 0, 0, 0, 0), (88, .ireturn, 1, .null, 0, 0, 0, 0)]
def ar_212 : List ai_R := [(0, .iconst 0, 1, .null, 0, 0, 0, 0), (1, .istore_n 3, 1, .null, 0, 0, 0, 0), (2, .iconst 0, 1, .null, 0, 0, 0, 0), (3, .istore 4, 2, .null, 0, 0, 0, 0),
  (5, .iload 4, 2, .null, 0, 0, 0, 0), (7, .aload_n 0, 1, .null, 0, 0, 0, 0), (8, .getfield 13, 3, .null, 11, 1, 12001, 0), (11, .iconst 0, 1, .null, 0, 0, 0, 0),
  (12, .iaload, 1, .null, 0, 0, 0, 0), (13, .if_icmp .ge 34, 3, .null, 29, 0, 0, 0), (16, .iload_n 3, 1, .null, 0, 0, 0, 0), (17, .iload_n 1, 1, .null, 0, 0, 0, 0),
  (18, .iload 4, 2, .null, 0, 0, 0, 0), (20, .ishr, 1, .null, 0, 0, 0, 0), (21, .iconst 1, 1, .null, 0, 0, 0, 0), (22, .iand, 1, .null, 0, 0, 0, 0),
  (23, .ifCond .ne 7, 3, .null, 19, 0, 0, 0), (26, .iconst 0, 1, .null, 0, 0, 0, 0), (27, .goto 12, 3, .null, 25, 0, 0, 0), (30, .iconst 1, 1, .null, 0, 0, 0, 0),
  (31, .aload_n 0, 1, .null, 0, 0, 0, 0), (32, .iload 4, 2, .null, 0, 0, 0, 0), (34, .iload_n 2, 1, .null, 0, 0, 0, 0), (35, .invokevirtual 211, 3, .null, 0, 210, 12230, 0),
  (38, .ishl, 1, .null, 0, 0, 0, 0), (39, .ior, 1, .null, 0, 0, 0, 0), (40, .istore_n 3, 1, .null, 0, 0, 0, 0), (41, .iinc 4 1, 3, .null, 0, 0, 0, 0),
  (44, .goto (-39), 3, .null, 4, 0, 0, 0), (47, .iload_n 3, 1, .null, 0, 0, 0, 0), (48, .ireturn, 1, .null, 0, 0, 0, 0)]
def ar_213 : List ai_R := [(0, .iconst 0, 1, .null, 0, 0, 0, 0), (1, .istore_n 1, 1, .null, 0, 0, 0, 0), (2, .iconst 0, 1, .null, 0, 0, 0, 0), (3, .istore_n 2, 1, .null, 0, 0, 0, 0),
  (4, .iload_n 2, 1, .null, 0, 0, 0, 0), (5, .bipush 14, 2, .null, 0, 0, 0, 0), (7, .if_icmp .ge 17, 3, .null, 17, 0, 0, 0), (10, .iload_n 1, 1, .null, 0, 0, 0, 0),
  (11, .iload_n 0, 1, .null, 0, 0, 0, 0), (12, .iload_n 2, 1, .null, 0, 0, 0, 0), (13, .ishr, 1, .null, 0, 0, 0, 0), (14, .iconst 1, 1, .null, 0, 0, 0, 0),
  (15, .iand, 1, .null, 0, 0, 0, 0), (16, .iadd, 1, .null, 0, 0, 0, 0), (17, .istore_n 1, 1, .null, 0, 0, 0, 0), (18, .iinc 2 1, 3, .null, 0, 0, 0, 0),
  (21, .goto (-17), 3, .null, 4, 0, 0, 0), (24, .iload_n 1, 1, .null, 0, 0, 0, 0), (25, .ireturn, 1, .null, 0, 0, 0, 0)]
def ar_214 : List ai_R := [(0, .iconst 0, 1, .null, 0, 0, 0, 0), (1, .istore_n 1, 1, .null, 0, 0, 0, 0), (2, .iload_n 0, 1, .null, 0, 0, 0, 0), (3, .iload_n 1, 1, .null, 0, 0, 0, 0),
  (4, .ishr, 1, .null, 0, 0, 0, 0), (5, .iconst 1, 1, .null, 0, 0, 0, 0), (6, .iand, 1, .null, 0, 0, 0, 0), (7, .ifCond .ne 9, 3, .null, 10, 0, 0, 0),
  (10, .iinc 1 1, 3, .null, 0, 0, 0, 0), (13, .goto (-11), 3, .null, 2, 0, 0, 0), (16, .iload_n 1, 1, .null, 0, 0, 0, 0), (17, .ireturn, 1, .null, 0, 0, 0, 0)]
def ar_215 : List ai_R := [(0, .aload_n 0, 1, .null, 0, 0, 0, 0), (1, .iconst 0, 1, .null, 0, 0, 0, 0), (2, .putfield 1, 3, .null, 11, 0, 12000, 0), (5, .aload_n 0, 1, .null, 0, 0, 0, 0),
  (6, .iload_n 1, 1, .null, 0, 0, 0, 0), (7, .invokevirtual 214, 3, .null, 0, 207, 12225, 0), (10, .ifCond .eq 33, 3, .null, 25, 0, 0, 0), (13, .iload_n 2, 1, .null, 0, 0, 0, 0),
  (14, .i2l, 1, .null, 0, 0, 0, 0), (15, .lconst 0, 1, .null, 0, 0, 0, 0), (16, .aload_n 0, 1, .null, 0, 0, 0, 0), (17, .getfield 13, 3, .null, 11, 1, 12001, 0),
  (20, .iconst 1, 1, .null, 0, 0, 0, 0), (21, .iaload, 1, .null, 0, 0, 0, 0), (22, .iconst 1, 1, .null, 0, 0, 0, 0), (23, .isub, 1, .null, 0, 0, 0, 0),
  (24, .i2l, 1, .null, 0, 0, 0, 0), (25, .invokestatic 164, 3, .null, 1, 181, 12130, 0), (28, .ifCond .eq 15, 3, .null, 25, 0, 0, 0), (31, .iload_n 3, 1, .null, 0, 0, 0, 0),
  (32, .i2l, 1, .null, 0, 0, 0, 0), (33, .lconst 0, 1, .null, 0, 0, 0, 0), (34, .ldc2_w 217, 3, .long (2), 0, 0, 12229, 0), (37, .invokestatic 164, 3, .null, 1, 181, 12130, 0),
  (40, .ifCond .ne 6, 3, .null, 27, 0, 0, 0), (43, .bipush (-2), 2, .null, 0, 0, 0, 0), (45, .ireturn, 1, .null, 0, 0, 0, 0), (46, .iload_n 3, 1, .null, 0, 0, 0, 0),
  (47, .ifCond .ne 12, 3, .null, 34, 0, 0, 0), (50, .aload_n 0, 1, .null, 0, 0, 0, 0), (51, .iload_n 1, 1, .null, 0, 0, 0, 0), (52, .iload_n 2, 1, .null, 0, 0, 0, 0),
  (53, .invokevirtual 211, 3, .null, 0, 210, 12230, 0), (56, .goto 27, 3, .null, 47, 0, 0, 0), (59, .aload_n 0, 1, .null, 0, 0, 0, 0), (60, .getfield 13, 3, .null, 11, 1, 12001, 0),
  (63, .iload_n 3, 1, .null, 0, 0, 0, 0), (64, .iconst 1, 1, .null, 0, 0, 0, 0), (65, .if_icmp .ne 8, 3, .null, 41, 0, 0, 0), (68, .bipush 86, 2, .null, 0, 0, 0, 0),
  (70, .goto 6, 3, .null, 42, 0, 0, 0), (73, .sipush 170, 3, .null, 0, 0, 0, 0), (76, .iload_n 1, 1, .null, 0, 0, 0, 0), (77, .iload_n 2, 1, .null, 0, 0, 0, 0),
  (78, .invokestatic 172, 3, .null, 1, 196, 12178, 0), (81, .iadd, 1, .null, 0, 0, 0, 0), (82, .iaload, 1, .null, 0, 0, 0, 0), (83, .ireturn, 1, .null, 0, 0, 0, 0)]
def ar_216 : List ai_R := [(0, .aload_n 0, 1, .null, 0, 0, 0, 0), (1, .iconst 0, 1, .null, 0, 0, 0, 0), (2, .putfield 1, 3, .null, 11, 0, 12000, 0), (5, .aload_n 0, 1, .null, 0, 0, 0, 0),
  (6, .iload_n 1, 1, .null, 0, 0, 0, 0), (7, .invokevirtual 214, 3, .null, 0, 207, 12225, 0), (10, .ifCond .eq 15, 3, .null, 13, 0, 0, 0), (13, .iload_n 2, 1, .null, 0, 0, 0, 0),
  (14, .i2l, 1, .null, 0, 0, 0, 0), (15, .lconst 0, 1, .null, 0, 0, 0, 0), (16, .ldc2_w 217, 3, .long (2), 0, 0, 12229, 0), (19, .invokestatic 164, 3, .null, 1, 181, 12130, 0),
  (22, .ifCond .ne 6, 3, .null, 15, 0, 0, 0), (25, .bipush (-2), 2, .null, 0, 0, 0, 0), (27, .ireturn, 1, .null, 0, 0, 0, 0), (28, .iload_n 2, 1, .null, 0, 0, 0, 0),
  (29, .ifCond .ne 16, 3, .null, 24, 0, 0, 0), (32, .aload_n 0, 1, .null, 0, 0, 0, 0), (33, .getfield 13, 3, .null, 11, 1, 12001, 0), (36, .sipush 254, 3, .null, 0, 0, 0, 0),
  (39, .iload_n 1, 1, .null, 0, 0, 0, 0), (40, .iadd, 1, .null, 0, 0, 0, 0), (41, .iaload, 1, .null, 0, 0, 0, 0), (42, .goto 26, 3, .null, 37, 0, 0, 0),
  (45, .aload_n 0, 1, .null, 0, 0, 0, 0), (46, .getfield 13, 3, .null, 11, 1, 12001, 0), (49, .iload_n 2, 1, .null, 0, 0, 0, 0), (50, .iconst 1, 1, .null, 0, 0, 0, 0),
  (51, .if_icmp .ne 9, 3, .null, 31, 0, 0, 0), (54, .sipush 268, 3, .null, 0, 0, 0, 0), (57, .goto 6, 3, .null, 32, 0, 0, 0), (60, .sipush 269, 3, .null, 0, 0, 0, 0),
  (63, .iaload, 1, .null, 0, 0, 0, 0), (64, .iload_n 1, 1, .null, 0, 0, 0, 0), (65, .ishr, 1, .null, 0, 0, 0, 0), (66, .iconst 1, 1, .null, 0, 0, 0, 0),
  (67, .iand, 1, .null, 0, 0, 0, 0), (68, .ireturn, 1, .null, 0, 0, 0, 0)]
def ar_217 : List ai_R := [(0, .aload_n 0, 1, .null, 0, 0, 0, 0), (1, .iconst 0, 1, .null, 0, 0, 0, 0), (2, .putfield 1, 3, .null, 11, 0, 12000, 0), (5, .aload_n 0, 1, .null, 0, 0, 0, 0),
  (6, .iload_n 1, 1, .null, 0, 0, 0, 0), (7, .invokevirtual 219, 3, .null, 0, 209, 13002, 0), (10, .ifCond .eq 16, 3, .null, 14, 0, 0, 0), (13, .aload_n 0, 1, .null, 0, 0, 0, 0),
  (14, .getfield 13, 3, .null, 11, 1, 12001, 0), (17, .sipush 272, 3, .null, 0, 0, 0, 0), (20, .iload_n 1, 1, .null, 0, 0, 0, 0), (21, .iadd, 1, .null, 0, 0, 0, 0),
  (22, .iaload, 1, .null, 0, 0, 0, 0), (23, .goto 5, 3, .null, 15, 0, 0, 0), (26, .bipush (-2), 2, .null, 0, 0, 0, 0), (28, .ireturn, 1, .null, 0, 0, 0, 0)]
def ar_218 : List ai_R := [(0, .aload_n 0, 1, .null, 0, 0, 0, 0), (1, .iconst 0, 1, .null, 0, 0, 0, 0), (2, .putfield 1, 3, .null, 11, 0, 12000, 0), (5, .aload_n 0, 1, .null, 0, 0, 0, 0),
  (6, .iload_n 1, 1, .null, 0, 0, 0, 0), (7, .invokevirtual 214, 3, .null, 0, 207, 12225, 0), (10, .ifCond .ne 6, 3, .null, 9, 0, 0, 0), (13, .bipush (-2), 2, .null, 0, 0, 0, 0),
  (15, .ireturn, 1, .null, 0, 0, 0, 0), (16, .iconst 1, 1, .null, 0, 0, 0, 0), (17, .iload_n 1, 1, .null, 0, 0, 0, 0), (18, .ishl, 1, .null, 0, 0, 0, 0),
  (19, .istore_n 2, 1, .null, 0, 0, 0, 0), (20, .iconst 0, 1, .null, 0, 0, 0, 0), (21, .istore_n 3, 1, .null, 0, 0, 0, 0), (22, .iload_n 3, 1, .null, 0, 0, 0, 0),
  (23, .iload_n 2, 1, .null, 0, 0, 0, 0), (24, .if_icmp .eq 38, 3, .null, 38, 0, 0, 0), (27, .iload_n 2, 1, .null, 0, 0, 0, 0), (28, .istore_n 3, 1, .null, 0, 0, 0, 0),
  (29, .iconst 0, 1, .null, 0, 0, 0, 0), (30, .istore 4, 2, .null, 0, 0, 0, 0), (32, .iload 4, 2, .null, 0, 0, 0, 0), (34, .aload_n 0, 1, .null, 0, 0, 0, 0),
  (35, .getfield 13, 3, .null, 11, 1, 12001, 0), (38, .iconst 1, 1, .null, 0, 0, 0, 0), (39, .iaload, 1, .null, 0, 0, 0, 0), (40, .if_icmp .ge 19, 3, .null, 37, 0, 0, 0),
  (43, .iload_n 2, 1, .null, 0, 0, 0, 0), (44, .aload_n 0, 1, .null, 0, 0, 0, 0), (45, .iload_n 3, 1, .null, 0, 0, 0, 0), (46, .iload 4, 2, .null, 0, 0, 0, 0),
  (48, .invokevirtual 222, 3, .null, 0, 211, 13010, 0), (51, .ior, 1, .null, 0, 0, 0, 0), (52, .istore_n 2, 1, .null, 0, 0, 0, 0), (53, .iinc 4 1, 3, .null, 0, 0, 0, 0),
  (56, .goto (-24), 3, .null, 22, 0, 0, 0), (59, .goto (-37), 3, .null, 15, 0, 0, 0), (62, .iload_n 2, 1, .null, 0, 0, 0, 0), (63, .ireturn, 1, .null, 0, 0, 0, 0)]
def ar_219 : List ai_R := [(0, .iconst 0, 1, .null, 0, 0, 0, 0), (1, .istore_n 2, 1, .null, 0, 0, 0, 0), (2, .iload_n 2, 1, .null, 0, 0, 0, 0), (3, .aload_n 0, 1, .null, 0, 0, 0, 0),
  (4, .getfield 95, 3, .null, 11, 38, 12038, 0), (7, .iload_n 1, 1, .null, 0, 0, 0, 0), (8, .iaload, 1, .null, 0, 0, 0, 0), (9, .if_icmp .ge 38, 3, .null, 30, 0, 0, 0),
  (12, .aload_n 0, 1, .null, 0, 0, 0, 0), (13, .getfield 98, 3, .null, 11, 39, 12039, 0), (16, .bipush 40, 2, .null, 0, 0, 0, 0), (18, .iload_n 1, 1, .null, 0, 0, 0, 0),
  (19, .imul, 1, .null, 0, 0, 0, 0), (20, .iload_n 2, 1, .null, 0, 0, 0, 0), (21, .iadd, 1, .null, 0, 0, 0, 0), (22, .laload, 1, .null, 0, 0, 0, 0),
  (23, .lconst 0, 1, .null, 0, 0, 0, 0), (24, .aload_n 0, 1, .null, 0, 0, 0, 0), (25, .getfield 13, 3, .null, 11, 1, 12001, 0), (28, .iconst 1, 1, .null, 0, 0, 0, 0),
  (29, .iaload, 1, .null, 0, 0, 0, 0), (30, .iconst 1, 1, .null, 0, 0, 0, 0), (31, .isub, 1, .null, 0, 0, 0, 0), (32, .i2l, 1, .null, 0, 0, 0, 0),
  (33, .invokestatic 164, 3, .null, 1, 181, 12130, 0), (36, .ifCond .ne 5, 3, .null, 28, 0, 0, 0), (39, .iload_n 2, 1, .null, 0, 0, 0, 0), (40, .ireturn, 1, .null, 0, 0, 0, 0),
  (41, .iinc 2 1, 3, .null, 0, 0, 0, 0), (44, .goto (-42), 3, .null, 2, 0, 0, 0), (47, .iconst (-1), 1, .null, 0, 0, 0, 0), (48, .ireturn, 1, .null, 0, 0, 0, 0)]
def ar_220 : List ai_R := [(0, .aload_n 0, 1, .null, 0, 0, 0, 0), (1, .iconst 0, 1, .null, 0, 0, 0, 0), (2, .putfield 1, 3, .null, 11, 0, 12000, 0), (5, .iload_n 1, 1, .null, 0, 0, 0, 0),
  (6, .i2l, 1, .null, 0, 0, 0, 0), (7, .lconst 0, 1, .null, 0, 0, 0, 0), (8, .ldc2_w 225, 3, .long (3), 0, 0, 13018, 0), (11, .invokestatic 164, 3, .null, 1, 181, 12130, 0),
  (14, .ifCond .ne 6, 3, .null, 11, 0, 0, 0), (17, .bipush (-2), 2, .null, 0, 0, 0, 0), (19, .ireturn, 1, .null, 0, 0, 0, 0), (20, .aload_n 0, 1, .null, 0, 0, 0, 0),
  (21, .getfield 13, 3, .null, 11, 1, 12001, 0), (24, .iconst 1, 1, .null, 0, 0, 0, 0), (25, .iaload, 1, .null, 0, 0, 0, 0), (26, .ifCond .ne 6, 3, .null, 18, 0, 0, 0),
  (29, .bipush (-5), 2, .null, 0, 0, 0, 0), (31, .ireturn, 1, .null, 0, 0, 0, 0), (32, .aload_n 0, 1, .null, 0, 0, 0, 0), (33, .getfield 92, 3, .null, 11, 37, 12037, 0),
  (36, .iload_n 1, 1, .null, 0, 0, 0, 0), (37, .iaload, 1, .null, 0, 0, 0, 0), (38, .iconst (-1), 1, .null, 0, 0, 0, 0), (39, .if_icmp .ne 6, 3, .null, 26, 0, 0, 0),
  (42, .bipush (-6), 2, .null, 0, 0, 0, 0), (44, .ireturn, 1, .null, 0, 0, 0, 0), (45, .aload_n 0, 1, .null, 0, 0, 0, 0), (46, .iload_n 1, 1, .null, 0, 0, 0, 0),
  (47, .invokevirtual 227, 3, .null, 0, 219, 13019, 0), (50, .ireturn, 1, .null, 0, 0, 0, 0)]
def ar_221 : List ai_R := [(0, .aload_n 0, 1, .null, 0, 0, 0, 0), (1, .getfield 92, 3, .null, 11, 37, 12037, 0), (4, .iload_n 1, 1, .null, 0, 0, 0, 0), (5, .iaload, 1, .null, 0, 0, 0, 0),
  (6, .iconst (-1), 1, .null, 0, 0, 0, 0), (7, .if_icmp .ne 8, 3, .null, 8, 0, 0, 0), (10, .bipush (-6), 2, .null, 0, 0, 0, 0), (12, .goto 18, 3, .null, 16, 0, 0, 0),
  (15, .aload_n 0, 1, .null, 0, 0, 0, 0), (16, .iload_n 1, 1, .null, 0, 0, 0, 0), (17, .invokevirtual 227, 3, .null, 0, 219, 13019, 0), (20, .iconst (-1), 1, .null, 0, 0, 0, 0),
  (21, .if_icmp .ne 7, 3, .null, 15, 0, 0, 0), (24, .iconst 0, 1, .null, 0, 0, 0, 0), (25, .goto 5, 3, .null, 16, 0, 0, 0), (28, .bipush (-3), 2, .null, 0, 0, 0, 0),
  (30, .ireturn, 1, .null, 0, 0, 0, 0)]
def ar_222 : List ai_R := [(0, .aload_n 0, 1, .null, 0, 0, 0, 0), (1, .getfield 98, 3, .null, 11, 39, 12039, 0), (4, .bipush 40, 2, .null, 0, 0, 0, 0), (6, .iload_n 1, 1, .null, 0, 0, 0, 0),
  (7, .imul, 1, .null, 0, 0, 0, 0), (8, .iload_n 2, 1, .null, 0, 0, 0, 0), (9, .iadd, 1, .null, 0, 0, 0, 0), (10, .laload, 1, .null, 0, 0, 0, 0),
  (11, .l2i, 1, .null, 0, 0, 0, 0), (12, .ireturn, 1, .null, 0, 0, 0, 0)]
def ar_223 : List ai_R := [(0, .iload_n 2, 1, .null, 0, 0, 0, 0), (1, .istore 4, 2, .null, 0, 0, 0, 0), (3, .iconst 0, 1, .null, 0, 0, 0, 0), (4, .istore 5, 2, .null, 0, 0, 0, 0),
  (6, .iload 5, 2, .null, 0, 0, 0, 0), (8, .iload_n 3, 1, .null, 0, 0, 0, 0), (9, .if_icmp .ge 24, 3, .null, 17, 0, 0, 0), (12, .aload_n 0, 1, .null, 0, 0, 0, 0),
  (13, .iload 4, 2, .null, 0, 0, 0, 0), (15, .aload_n 0, 1, .null, 0, 0, 0, 0), (16, .iload_n 1, 1, .null, 0, 0, 0, 0), (17, .iload 5, 2, .null, 0, 0, 0, 0),
  (19, .invokevirtual 230, 3, .null, 0, 222, 13035, 0), (22, .invokevirtual 211, 3, .null, 0, 210, 12230, 0), (25, .istore 4, 2, .null, 0, 0, 0, 0), (27, .iinc 5 1, 3, .null, 0, 0, 0, 0),
  (30, .goto (-24), 3, .null, 4, 0, 0, 0), (33, .iload 4, 2, .null, 0, 0, 0, 0), (35, .ireturn, 1, .null, 0, 0, 0, 0)]
def ar_224 : List ai_R := [(0, .aload_n 0, 1, .null, 0, 0, 0, 0), (1, .iconst 0, 1, .null, 0, 0, 0, 0), (2, .putfield 1, 3, .null, 11, 0, 12000, 0), (5, .iload_n 1, 1, .null, 0, 0, 0, 0),
  (6, .i2l, 1, .null, 0, 0, 0, 0), (7, .lconst 0, 1, .null, 0, 0, 0, 0), (8, .ldc2_w 225, 3, .long (3), 0, 0, 13018, 0), (11, .invokestatic 164, 3, .null, 1, 181, 12130, 0),
  (14, .ifCond .eq 11, 3, .null, 13, 0, 0, 0), (17, .aload_n 0, 1, .null, 0, 0, 0, 0), (18, .iload_n 2, 1, .null, 0, 0, 0, 0), (19, .invokevirtual 219, 3, .null, 0, 209, 13002, 0),
  (22, .ifCond .ne 6, 3, .null, 15, 0, 0, 0), (25, .bipush (-2), 2, .null, 0, 0, 0, 0), (27, .ireturn, 1, .null, 0, 0, 0, 0), (28, .aload_n 0, 1, .null, 0, 0, 0, 0),
  (29, .iload_n 1, 1, .null, 0, 0, 0, 0), (30, .invokevirtual 233, 3, .null, 0, 221, 13027, 0), (33, .istore 4, 2, .null, 0, 0, 0, 0), (35, .iload 4, 2, .null, 0, 0, 0, 0),
  (37, .ifCond .eq 6, 3, .null, 23, 0, 0, 0), (40, .iload 4, 2, .null, 0, 0, 0, 0), (42, .ireturn, 1, .null, 0, 0, 0, 0), (43, .iload_n 3, 1, .null, 0, 0, 0, 0),
  (44, .i2l, 1, .null, 0, 0, 0, 0), (45, .lconst 0, 1, .null, 0, 0, 0, 0), (46, .aload_n 0, 1, .null, 0, 0, 0, 0), (47, .getfield 95, 3, .null, 11, 38, 12038, 0),
  (50, .iload_n 1, 1, .null, 0, 0, 0, 0), (51, .iaload, 1, .null, 0, 0, 0, 0), (52, .i2l, 1, .null, 0, 0, 0, 0), (53, .invokestatic 164, 3, .null, 1, 181, 12130, 0),
  (56, .ifCond .eq 22, 3, .null, 44, 0, 0, 0), (59, .aload_n 0, 1, .null, 0, 0, 0, 0), (60, .iload_n 1, 1, .null, 0, 0, 0, 0), (61, .aload_n 0, 1, .null, 0, 0, 0, 0),
  (62, .getfield 13, 3, .null, 11, 1, 12001, 0), (65, .sipush 272, 3, .null, 0, 0, 0, 0), (68, .iload_n 2, 1, .null, 0, 0, 0, 0), (69, .iadd, 1, .null, 0, 0, 0, 0),
  (70, .iaload, 1, .null, 0, 0, 0, 0), (71, .iload_n 3, 1, .null, 0, 0, 0, 0), (72, .invokevirtual 236, 3, .null, 0, 223, 13031, 0), (75, .goto 5, 3, .null, 45, 0, 0, 0),
  (78, .bipush (-3), 2, .null, 0, 0, 0, 0), (80, .ireturn, 1, .null, 0, 0, 0, 0)]
def ar_225 : List ai_R := [(0, .iconst 0, 1, .null, 0, 0, 0, 0), (1, .istore_n 3, 1, .null, 0, 0, 0, 0), (2, .iload_n 3, 1, .null, 0, 0, 0, 0), (3, .aload_n 0, 1, .null, 0, 0, 0, 0),
  (4, .getfield 13, 3, .null, 11, 1, 12001, 0), (7, .sipush 271, 3, .null, 0, 0, 0, 0), (10, .iaload, 1, .null, 0, 0, 0, 0), (11, .if_icmp .ge 77, 3, .null, 49, 0, 0, 0),
  (14, .iload_n 3, 1, .null, 0, 0, 0, 0), (15, .iconst 1, 1, .null, 0, 0, 0, 0), (16, .iadd, 1, .null, 0, 0, 0, 0), (17, .istore 4, 2, .null, 0, 0, 0, 0),
  (19, .iload 4, 2, .null, 0, 0, 0, 0), (21, .aload_n 0, 1, .null, 0, 0, 0, 0), (22, .getfield 13, 3, .null, 11, 1, 12001, 0), (25, .sipush 271, 3, .null, 0, 0, 0, 0),
  (28, .iaload, 1, .null, 0, 0, 0, 0), (29, .if_icmp .ge 53, 3, .null, 47, 0, 0, 0), (32, .aload_n 0, 1, .null, 0, 0, 0, 0), (33, .iload_n 1, 1, .null, 0, 0, 0, 0),
  (34, .aload_n 0, 1, .null, 0, 0, 0, 0), (35, .getfield 13, 3, .null, 11, 1, 12001, 0), (38, .sipush 272, 3, .null, 0, 0, 0, 0), (41, .iload_n 3, 1, .null, 0, 0, 0, 0),
  (42, .iadd, 1, .null, 0, 0, 0, 0), (43, .iaload, 1, .null, 0, 0, 0, 0), (44, .iload_n 2, 1, .null, 0, 0, 0, 0), (45, .invokevirtual 236, 3, .null, 0, 223, 13031, 0),
  (48, .aload_n 0, 1, .null, 0, 0, 0, 0), (49, .iload_n 1, 1, .null, 0, 0, 0, 0), (50, .aload_n 0, 1, .null, 0, 0, 0, 0), (51, .getfield 13, 3, .null, 11, 1, 12001, 0),
  (54, .sipush 272, 3, .null, 0, 0, 0, 0), (57, .iload 4, 2, .null, 0, 0, 0, 0), (59, .iadd, 1, .null, 0, 0, 0, 0), (60, .iaload, 1, .null, 0, 0, 0, 0),
  (61, .iload_n 2, 1, .null, 0, 0, 0, 0), (62, .invokevirtual 236, 3, .null, 0, 223, 13031, 0), (65, .if_icmp .ne 11, 3, .null, 45, 0, 0, 0), (68, .bipush 10, 2, .null, 0, 0, 0, 0),
  (70, .iload_n 3, 1, .null, 0, 0, 0, 0), (71, .imul, 1, .null, 0, 0, 0, 0), (72, .iload 4, 2, .null, 0, 0, 0, 0), (74, .iadd, 1, .null, 0, 0, 0, 0),
  (75, .ireturn, 1, .null, 0, 0, 0, 0), (76, .iinc 4 1, 3, .null, 0, 0, 0, 0), (79, .goto (-60), 3, .null, 12, 0, 0, 0), (82, .iinc 3 1, 3, .null, 0, 0, 0, 0),
  (85, .goto (-83), 3, .null, 2, 0, 0, 0), (88, .iconst (-1), 1, .null, 0, 0, 0, 0), (89, .ireturn, 1, .null, 0, 0, 0, 0)]
def ar_226 : List ai_R := [(0, .aload_n 0, 1, .null, 0, 0, 0, 0), (1, .iconst 0, 1, .null, 0, 0, 0, 0), (2, .putfield 1, 3, .null, 11, 0, 12000, 0), (5, .iload_n 1, 1, .null, 0, 0, 0, 0),
  (6, .i2l, 1, .null, 0, 0, 0, 0), (7, .lconst 0, 1, .null, 0, 0, 0, 0), (8, .ldc2_w 225, 3, .long (3), 0, 0, 13018, 0), (11, .invokestatic 164, 3, .null, 1, 181, 12130, 0),
  (14, .ifCond .eq 13, 3, .null, 15, 0, 0, 0), (17, .iload_n 2, 1, .null, 0, 0, 0, 0), (18, .i2l, 1, .null, 0, 0, 0, 0), (19, .lconst 0, 1, .null, 0, 0, 0, 0),
  (20, .lconst 1, 1, .null, 0, 0, 0, 0), (21, .invokestatic 164, 3, .null, 1, 181, 12130, 0), (24, .ifCond .ne 6, 3, .null, 17, 0, 0, 0), (27, .bipush (-2), 2, .null, 0, 0, 0, 0),
  (29, .ireturn, 1, .null, 0, 0, 0, 0), (30, .aload_n 0, 1, .null, 0, 0, 0, 0), (31, .iload_n 1, 1, .null, 0, 0, 0, 0), (32, .invokevirtual 233, 3, .null, 0, 221, 13027, 0),
  (35, .istore_n 3, 1, .null, 0, 0, 0, 0), (36, .iload_n 3, 1, .null, 0, 0, 0, 0), (37, .ifCond .eq 5, 3, .null, 25, 0, 0, 0), (40, .iload_n 3, 1, .null, 0, 0, 0, 0),
  (41, .ireturn, 1, .null, 0, 0, 0, 0), (42, .iconst 1, 1, .null, 0, 0, 0, 0), (43, .istore 4, 2, .null, 0, 0, 0, 0), (45, .iload 4, 2, .null, 0, 0, 0, 0),
  (47, .aload_n 0, 1, .null, 0, 0, 0, 0), (48, .getfield 95, 3, .null, 11, 38, 12038, 0), (51, .iload_n 1, 1, .null, 0, 0, 0, 0), (52, .iaload, 1, .null, 0, 0, 0, 0),
  (53, .if_icmp .gt 37, 3, .null, 50, 0, 0, 0), (56, .aload_n 0, 1, .null, 0, 0, 0, 0), (57, .iload_n 1, 1, .null, 0, 0, 0, 0), (58, .iload 4, 2, .null, 0, 0, 0, 0),
  (60, .invokevirtual 240, 3, .null, 0, 225, 13043, 0), (63, .iconst (-1), 1, .null, 0, 0, 0, 0), (64, .if_icmp .eq 20, 3, .null, 48, 0, 0, 0), (67, .iload_n 2, 1, .null, 0, 0, 0, 0),
  (68, .ifCond .ne 8, 3, .null, 43, 0, 0, 0), (71, .iload 4, 2, .null, 0, 0, 0, 0), (73, .goto 10, 3, .null, 47, 0, 0, 0), (76, .aload_n 0, 1, .null, 0, 0, 0, 0),
  (77, .iload_n 1, 1, .null, 0, 0, 0, 0), (78, .iload 4, 2, .null, 0, 0, 0, 0), (80, .invokevirtual 240, 3, .null, 0, 225, 13043, 0), (83, .ireturn, 1, .null, 0, 0, 0, 0),
  (84, .iinc 4 1, 3, .null, 0, 0, 0, 0), (87, .goto (-42), 3, .null, 27, 0, 0, 0), (90, .iconst (-1), 1, .null, 0, 0, 0, 0), (91, .ireturn, 1, .null, 0, 0, 0, 0)]
def ar_227 : List ai_R := [(0, .iconst 0, 1, .null, 0, 0, 0, 0), (1, .istore_n 3, 1, .null, 0, 0, 0, 0), (2, .iload_n 3, 1, .null, 0, 0, 0, 0), (3, .aload_n 0, 1, .null, 0, 0, 0, 0),
  (4, .getfield 13, 3, .null, 11, 1, 12001, 0), (7, .iconst 0, 1, .null, 0, 0, 0, 0), (8, .iaload, 1, .null, 0, 0, 0, 0), (9, .if_icmp .ge 110, 3, .null, 67, 0, 0, 0),
  (12, .iconst 0, 1, .null, 0, 0, 0, 0), (13, .istore 4, 2, .null, 0, 0, 0, 0), (15, .iconst 0, 1, .null, 0, 0, 0, 0), (16, .istore 5, 2, .null, 0, 0, 0, 0),
  (18, .iload 5, 2, .null, 0, 0, 0, 0), (20, .aload_n 0, 1, .null, 0, 0, 0, 0), (21, .getfield 13, 3, .null, 11, 1, 12001, 0), (24, .sipush 271, 3, .null, 0, 0, 0, 0),
  (27, .iaload, 1, .null, 0, 0, 0, 0), (28, .if_icmp .ge 40, 3, .null, 38, 0, 0, 0), (31, .iload 4, 2, .null, 0, 0, 0, 0), (33, .aload_n 0, 1, .null, 0, 0, 0, 0),
  (34, .iload_n 1, 1, .null, 0, 0, 0, 0), (35, .aload_n 0, 1, .null, 0, 0, 0, 0), (36, .getfield 13, 3, .null, 11, 1, 12001, 0), (39, .sipush 272, 3, .null, 0, 0, 0, 0),
  (42, .iload 5, 2, .null, 0, 0, 0, 0), (44, .iadd, 1, .null, 0, 0, 0, 0), (45, .iaload, 1, .null, 0, 0, 0, 0), (46, .iload_n 2, 1, .null, 0, 0, 0, 0),
  (47, .invokevirtual 236, 3, .null, 0, 223, 13031, 0), (50, .iload_n 3, 1, .null, 0, 0, 0, 0), (51, .if_icmp .ne 7, 3, .null, 33, 0, 0, 0), (54, .iconst 1, 1, .null, 0, 0, 0, 0),
  (55, .goto 4, 3, .null, 34, 0, 0, 0), (58, .iconst 0, 1, .null, 0, 0, 0, 0), (59, .iadd, 1, .null, 0, 0, 0, 0), (60, .istore 4, 2, .null, 0, 0, 0, 0),
  (62, .iinc 5 1, 3, .null, 0, 0, 0, 0), (65, .goto (-47), 3, .null, 12, 0, 0, 0), (68, .iload 4, 2, .null, 0, 0, 0, 0), (70, .ifCond .le 19, 3, .null, 50, 0, 0, 0),
  (73, .aload_n 0, 1, .null, 0, 0, 0, 0), (74, .getfield 13, 3, .null, 11, 1, 12001, 0), (77, .sipush 268, 3, .null, 0, 0, 0, 0), (80, .iaload, 1, .null, 0, 0, 0, 0),
  (81, .iload_n 3, 1, .null, 0, 0, 0, 0), (82, .ishr, 1, .null, 0, 0, 0, 0), (83, .iconst 1, 1, .null, 0, 0, 0, 0), (84, .iand, 1, .null, 0, 0, 0, 0),
  (85, .iconst 1, 1, .null, 0, 0, 0, 0), (86, .if_icmp .eq 25, 3, .null, 63, 0, 0, 0), (89, .iload 4, 2, .null, 0, 0, 0, 0), (91, .iconst 1, 1, .null, 0, 0, 0, 0),
  (92, .if_icmp .le 21, 3, .null, 65, 0, 0, 0), (95, .aload_n 0, 1, .null, 0, 0, 0, 0), (96, .getfield 13, 3, .null, 11, 1, 12001, 0), (99, .sipush 269, 3, .null, 0, 0, 0, 0),
  (102, .iaload, 1, .null, 0, 0, 0, 0), (103, .iload_n 3, 1, .null, 0, 0, 0, 0), (104, .ishr, 1, .null, 0, 0, 0, 0), (105, .iconst 1, 1, .null, 0, 0, 0, 0),
  (106, .iand, 1, .null, 0, 0, 0, 0), (107, .iconst 1, 1, .null, 0, 0, 0, 0), (108, .if_icmp .ne 5, 3, .null, 65, 0, 0, 0), (111, .iload_n 3, 1, .null, 0, 0, 0, 0),
  (112, .ireturn, 1, .null, 0, 0, 0, 0), (113, .iinc 3 1, 3, .null, 0, 0, 0, 0), (116, .goto (-114), 3, .null, 2, 0, 0, 0), (119, .iconst (-1), 1, .null, 0, 0, 0, 0),
  (120, .ireturn, 1, .null, 0, 0, 0, 0)]
def ar_228 : List ai_R := [(0, .aload_n 0, 1, .null, 0, 0, 0, 0), (1, .iconst 0, 1, .null, 0, 0, 0, 0), (2, .putfield 1, 3, .null, 11, 0, 12000, 0), (5, .iload_n 1, 1, .null, 0, 0, 0, 0),
  (6, .i2l, 1, .null, 0, 0, 0, 0), (7, .lconst 0, 1, .null, 0, 0, 0, 0), (8, .ldc2_w 225, 3, .long (3), 0, 0, 13018, 0), (11, .invokestatic 164, 3, .null, 1, 181, 12130, 0),
  (14, .ifCond .eq 13, 3, .null, 15, 0, 0, 0), (17, .iload_n 2, 1, .null, 0, 0, 0, 0), (18, .i2l, 1, .null, 0, 0, 0, 0), (19, .lconst 0, 1, .null, 0, 0, 0, 0),
  (20, .lconst 1, 1, .null, 0, 0, 0, 0), (21, .invokestatic 164, 3, .null, 1, 181, 12130, 0), (24, .ifCond .ne 6, 3, .null, 17, 0, 0, 0), (27, .bipush (-2), 2, .null, 0, 0, 0, 0),
  (29, .ireturn, 1, .null, 0, 0, 0, 0), (30, .aload_n 0, 1, .null, 0, 0, 0, 0), (31, .iload_n 1, 1, .null, 0, 0, 0, 0), (32, .invokevirtual 233, 3, .null, 0, 221, 13027, 0),
  (35, .istore_n 3, 1, .null, 0, 0, 0, 0), (36, .iload_n 3, 1, .null, 0, 0, 0, 0), (37, .ifCond .eq 5, 3, .null, 25, 0, 0, 0), (40, .iload_n 3, 1, .null, 0, 0, 0, 0),
  (41, .ireturn, 1, .null, 0, 0, 0, 0), (42, .iconst 0, 1, .null, 0, 0, 0, 0), (43, .istore 4, 2, .null, 0, 0, 0, 0), (45, .iload 4, 2, .null, 0, 0, 0, 0),
  (47, .aload_n 0, 1, .null, 0, 0, 0, 0), (48, .getfield 95, 3, .null, 11, 38, 12038, 0), (51, .iload_n 1, 1, .null, 0, 0, 0, 0), (52, .iaload, 1, .null, 0, 0, 0, 0),
  (53, .if_icmp .gt 37, 3, .null, 50, 0, 0, 0), (56, .aload_n 0, 1, .null, 0, 0, 0, 0), (57, .iload_n 1, 1, .null, 0, 0, 0, 0), (58, .iload 4, 2, .null, 0, 0, 0, 0),
  (60, .invokevirtual 243, 3, .null, 0, 227, 13051, 0), (63, .iconst (-1), 1, .null, 0, 0, 0, 0), (64, .if_icmp .eq 20, 3, .null, 48, 0, 0, 0), (67, .iload_n 2, 1, .null, 0, 0, 0, 0),
  (68, .ifCond .ne 8, 3, .null, 43, 0, 0, 0), (71, .iload 4, 2, .null, 0, 0, 0, 0), (73, .goto 10, 3, .null, 47, 0, 0, 0), (76, .aload_n 0, 1, .null, 0, 0, 0, 0),
  (77, .iload_n 1, 1, .null, 0, 0, 0, 0), (78, .iload 4, 2, .null, 0, 0, 0, 0), (80, .invokevirtual 243, 3, .null, 0, 227, 13051, 0), (83, .ireturn, 1, .null, 0, 0, 0, 0),
  (84, .iinc 4 1, 3, .null, 0, 0, 0, 0), (87, .goto (-42), 3, .null, 27, 0, 0, 0), (90, .iconst (-1), 1, .null, 0, 0, 0, 0), (91, .ireturn, 1, .null, 0, 0, 0, 0)]
def ar_229 : List ai_R := [(0, .aload_n 0, 1, .null, 0, 0, 0, 0), (1, .iconst 0, 1, .null, 0, 0, 0, 0), (2, .putfield 1, 3, .null, 11, 0, 12000, 0), (5, .iload_n 1, 1, .null, 0, 0, 0, 0),
  (6, .i2l, 1, .null, 0, 0, 0, 0), (7, .lconst 0, 1, .null, 0, 0, 0, 0), (8, .ldc2_w 225, 3, .long (3), 0, 0, 13018, 0), (11, .invokestatic 164, 3, .null, 1, 181, 12130, 0),
  (14, .ifCond .eq 11, 3, .null, 13, 0, 0, 0), (17, .aload_n 0, 1, .null, 0, 0, 0, 0), (18, .iload_n 2, 1, .null, 0, 0, 0, 0), (19, .invokevirtual 219, 3, .null, 0, 209, 13002, 0),
  (22, .ifCond .ne 6, 3, .null, 15, 0, 0, 0), (25, .bipush (-2), 2, .null, 0, 0, 0, 0), (27, .ireturn, 1, .null, 0, 0, 0, 0), (28, .aload_n 0, 1, .null, 0, 0, 0, 0),
  (29, .iload_n 1, 1, .null, 0, 0, 0, 0), (30, .invokevirtual 233, 3, .null, 0, 221, 13027, 0), (33, .istore 4, 2, .null, 0, 0, 0, 0), (35, .iload 4, 2, .null, 0, 0, 0, 0),
  (37, .ifCond .eq 6, 3, .null, 23, 0, 0, 0), (40, .iload 4, 2, .null, 0, 0, 0, 0), (42, .ireturn, 1, .null, 0, 0, 0, 0), (43, .iload_n 3, 1, .null, 0, 0, 0, 0),
  (44, .i2l, 1, .null, 0, 0, 0, 0), (45, .lconst 0, 1, .null, 0, 0, 0, 0), (46, .aload_n 0, 1, .null, 0, 0, 0, 0), (47, .getfield 95, 3, .null, 11, 38, 12038, 0),
  (50, .iload_n 1, 1, .null, 0, 0, 0, 0), (51, .iaload, 1, .null, 0, 0, 0, 0), (52, .i2l, 1, .null, 0, 0, 0, 0), (53, .invokestatic 164, 3, .null, 1, 181, 12130, 0),
  (56, .ifCond .eq 31, 3, .null, 49, 0, 0, 0), (59, .aload_n 0, 1, .null, 0, 0, 0, 0), (60, .getfield 13, 3, .null, 11, 1, 12001, 0), (63, .sipush 254, 3, .null, 0, 0, 0, 0),
  (66, .aload_n 0, 1, .null, 0, 0, 0, 0), (67, .iload_n 1, 1, .null, 0, 0, 0, 0), (68, .aload_n 0, 1, .null, 0, 0, 0, 0), (69, .getfield 13, 3, .null, 11, 1, 12001, 0),
  (72, .sipush 272, 3, .null, 0, 0, 0, 0), (75, .iload_n 2, 1, .null, 0, 0, 0, 0), (76, .iadd, 1, .null, 0, 0, 0, 0), (77, .iaload, 1, .null, 0, 0, 0, 0),
  (78, .iload_n 3, 1, .null, 0, 0, 0, 0), (79, .invokevirtual 236, 3, .null, 0, 223, 13031, 0), (82, .iadd, 1, .null, 0, 0, 0, 0), (83, .iaload, 1, .null, 0, 0, 0, 0),
  (84, .goto 5, 3, .null, 50, 0, 0, 0), (87, .bipush (-3), 2, .null, 0, 0, 0, 0), (89, .ireturn, 1, .null, 0, 0, 0, 0)]
def ar_230 : List ai_R := [(0, .aload_n 0, 1, .null, 0, 0, 0, 0), (1, .iconst 0, 1, .null, 0, 0, 0, 0), (2, .putfield 1, 3, .null, 11, 0, 12000, 0), (5, .iload_n 1, 1, .null, 0, 0, 0, 0),
  (6, .i2l, 1, .null, 0, 0, 0, 0), (7, .lconst 0, 1, .null, 0, 0, 0, 0), (8, .ldc2_w 225, 3, .long (3), 0, 0, 13018, 0), (11, .invokestatic 164, 3, .null, 1, 181, 12130, 0),
  (14, .ifCond .ne 6, 3, .null, 11, 0, 0, 0), (17, .bipush (-2), 2, .null, 0, 0, 0, 0), (19, .ireturn, 1, .null, 0, 0, 0, 0), (20, .aload_n 0, 1, .null, 0, 0, 0, 0),
  (21, .iload_n 1, 1, .null, 0, 0, 0, 0), (22, .invokevirtual 233, 3, .null, 0, 221, 13027, 0), (25, .istore_n 3, 1, .null, 0, 0, 0, 0), (26, .iload_n 3, 1, .null, 0, 0, 0, 0),
  (27, .ifCond .eq 5, 3, .null, 19, 0, 0, 0), (30, .iload_n 3, 1, .null, 0, 0, 0, 0), (31, .ireturn, 1, .null, 0, 0, 0, 0), (32, .aload_n 0, 1, .null, 0, 0, 0, 0),
  (33, .iload_n 2, 1, .null, 0, 0, 0, 0), (34, .invokevirtual 246, 3, .null, 0, 208, 13063, 0), (37, .ifCond .ne 6, 3, .null, 25, 0, 0, 0), (40, .bipush (-3), 2, .null, 0, 0, 0, 0),
  (42, .ireturn, 1, .null, 0, 0, 0, 0), (43, .iload_n 2, 1, .null, 0, 0, 0, 0), (44, .istore 4, 2, .null, 0, 0, 0, 0), (46, .iconst 0, 1, .null, 0, 0, 0, 0),
  (47, .istore 5, 2, .null, 0, 0, 0, 0), (49, .iload 5, 2, .null, 0, 0, 0, 0), (51, .aload_n 0, 1, .null, 0, 0, 0, 0), (52, .getfield 95, 3, .null, 11, 38, 12038, 0),
  (55, .iload_n 1, 1, .null, 0, 0, 0, 0), (56, .iaload, 1, .null, 0, 0, 0, 0), (57, .if_icmp .ge 24, 3, .null, 45, 0, 0, 0), (60, .aload_n 0, 1, .null, 0, 0, 0, 0),
  (61, .iload 4, 2, .null, 0, 0, 0, 0), (63, .aload_n 0, 1, .null, 0, 0, 0, 0), (64, .iload_n 1, 1, .null, 0, 0, 0, 0), (65, .iload 5, 2, .null, 0, 0, 0, 0),
  (67, .invokevirtual 230, 3, .null, 0, 222, 13035, 0), (70, .invokevirtual 222, 3, .null, 0, 211, 13010, 0), (73, .istore 4, 2, .null, 0, 0, 0, 0), (75, .iinc 5 1, 3, .null, 0, 0, 0, 0),
  (78, .goto (-29), 3, .null, 29, 0, 0, 0), (81, .iload 4, 2, .null, 0, 0, 0, 0), (83, .ireturn, 1, .null, 0, 0, 0, 0)]
def ar_231 : List ai_R := [(0, .aload_n 0, 1, .null, 0, 0, 0, 0), (1, .dup, 1, .null, 0, 0, 0, 0), (2, .getfield 249, 3, .null, 11, 22, 12022, 0), (5, .iconst 1, 1, .null, 0, 0, 0, 0),
  (6, .iadd, 1, .null, 0, 0, 0, 0), (7, .putfield 249, 3, .null, 11, 22, 12022, 0), (10, .aload_n 0, 1, .null, 0, 0, 0, 0), (11, .iconst 0, 1, .null, 0, 0, 0, 0),
  (12, .putfield 252, 3, .null, 11, 21, 12021, 0), (15, .return_, 1, .null, 0, 0, 0, 0)]
def ar_232 : List ai_R := [(0, .iload_n 1, 1, .null, 0, 0, 0, 0), (1, .ldc 255, 2, .int (40503), 0, 0, 13087, 0), (3, .imul, 1, .null, 0, 0, 0, 0), (4, .iload_n 2, 1, .null, 0, 0, 0, 0),
  (5, .sipush 25253, 3, .null, 0, 0, 0, 0), (8, .imul, 1, .null, 0, 0, 0, 0), (9, .iadd, 1, .null, 0, 0, 0, 0), (10, .ldc_w 256, 3, .int (2147483647), 0, 0, 13088, 0),
  (13, .iand, 1, .null, 0, 0, 0, 0), (14, .ldc 42, 2, .int (65536), 0, 0, 11239, 0), (16, .irem, 1, .null, 0, 0, 0, 0), (17, .istore 5, 2, .null, 0, 0, 0, 0),
  (19, .aload_n 0, 1, .null, 0, 0, 0, 0), (20, .getfield 46, 3, .null, 11, 20, 12020, 0), (23, .iload 5, 2, .null, 0, 0, 0, 0), (25, .iaload, 1, .null, 0, 0, 0, 0),
  (26, .aload_n 0, 1, .null, 0, 0, 0, 0), (27, .getfield 249, 3, .null, 11, 22, 12022, 0), (30, .if_icmp .ne 49, 3, .null, 46, 0, 0, 0), (33, .aload_n 0, 1, .null, 0, 0, 0, 0),
  (34, .getfield 30, 3, .null, 11, 15, 12015, 0), (37, .aload_n 0, 1, .null, 0, 0, 0, 0), (38, .getfield 43, 3, .null, 11, 19, 12019, 0), (41, .iload 5, 2, .null, 0, 0, 0, 0),
  (43, .iaload, 1, .null, 0, 0, 0, 0), (44, .iaload, 1, .null, 0, 0, 0, 0), (45, .iload_n 1, 1, .null, 0, 0, 0, 0), (46, .if_icmp .ne 21, 3, .null, 39, 0, 0, 0),
  (49, .aload_n 0, 1, .null, 0, 0, 0, 0), (50, .getfield 33, 3, .null, 11, 16, 12016, 0), (53, .aload_n 0, 1, .null, 0, 0, 0, 0), (54, .getfield 43, 3, .null, 11, 19, 12019, 0),
  (57, .iload 5, 2, .null, 0, 0, 0, 0), (59, .iaload, 1, .null, 0, 0, 0, 0), (60, .iaload, 1, .null, 0, 0, 0, 0), (61, .iload_n 2, 1, .null, 0, 0, 0, 0),
  (62, .if_icmp .ne 5, 3, .null, 39, 0, 0, 0), (65, .iconst 0, 1, .null, 0, 0, 0, 0), (66, .ireturn, 1, .null, 0, 0, 0, 0), (67, .iload 5, 2, .null, 0, 0, 0, 0),
  (69, .iconst 1, 1, .null, 0, 0, 0, 0), (70, .iadd, 1, .null, 0, 0, 0, 0), (71, .ldc 42, 2, .int (65536), 0, 0, 11239, 0), (73, .irem, 1, .null, 0, 0, 0, 0),
  (74, .istore 5, 2, .null, 0, 0, 0, 0), (76, .goto (-57), 3, .null, 12, 0, 0, 0), (79, .aload_n 0, 1, .null, 0, 0, 0, 0), (80, .getfield 46, 3, .null, 11, 20, 12020, 0),
  (83, .iload 5, 2, .null, 0, 0, 0, 0), (85, .aload_n 0, 1, .null, 0, 0, 0, 0), (86, .getfield 249, 3, .null, 11, 22, 12022, 0), (89, .iastore, 1, .null, 0, 0, 0, 0),
  (90, .aload_n 0, 1, .null, 0, 0, 0, 0), (91, .getfield 43, 3, .null, 11, 19, 12019, 0), (94, .iload 5, 2, .null, 0, 0, 0, 0), (96, .aload_n 0, 1, .null, 0, 0, 0, 0),
  (97, .getfield 252, 3, .null, 11, 21, 12021, 0), (100, .iastore, 1, .null, 0, 0, 0, 0), (101, .aload_n 0, 1, .null, 0, 0, 0, 0), (102, .getfield 30, 3, .null, 11, 15, 12015, 0),
  (105, .aload_n 0, 1, .null, 0, 0, 0, 0), (106, .getfield 252, 3, .null, 11, 21, 12021, 0), (109, .iload_n 1, 1, .null, 0, 0, 0, 0), (110, .iastore, 1, .null, 0, 0, 0, 0),
  (111, .aload_n 0, 1, .null, 0, 0, 0, 0), (112, .getfield 33, 3, .null, 11, 16, 12016, 0), (115, .aload_n 0, 1, .null, 0, 0, 0, 0), (116, .getfield 252, 3, .null, 11, 21, 12021, 0),
  (119, .iload_n 2, 1, .null, 0, 0, 0, 0), (120, .iastore, 1, .null, 0, 0, 0, 0), (121, .aload_n 0, 1, .null, 0, 0, 0, 0), (122, .getfield 36, 3, .null, 11, 17, 12017, 0),
  (125, .aload_n 0, 1, .null, 0, 0, 0, 0), (126, .getfield 252, 3, .null, 11, 21, 12021, 0), (129, .iload_n 3, 1, .null, 0, 0, 0, 0), (130, .iastore, 1, .null, 0, 0, 0, 0),
  (131, .aload_n 0, 1, .null, 0, 0, 0, 0), (132, .getfield 39, 3, .null, 11, 18, 12018, 0), (135, .aload_n 0, 1, .null, 0, 0, 0, 0), (136, .getfield 252, 3, .null, 11, 21, 12021, 0),
  (139, .iload 4, 2, .null, 0, 0, 0, 0), (141, .iastore, 1, .null, 0, 0, 0, 0), (142, .aload_n 0, 1, .null, 0, 0, 0, 0), (143, .dup, 1, .null, 0, 0, 0, 0),
  (144, .getfield 252, 3, .null, 11, 21, 12021, 0), (147, .iconst 1, 1, .null, 0, 0, 0, 0), (148, .iadd, 1, .null, 0, 0, 0, 0), (149, .putfield 252, 3, .null, 11, 21, 12021, 0),
  (152, .iconst 1, 1, .null, 0, 0, 0, 0), (153, .ireturn, 1, .null, 0, 0, 0, 0)]
def ar_233 : List ai_R := [(0, .iconst 0, 1, .null, 0, 0, 0, 0), (1, .istore_n 2, 1, .null, 0, 0, 0, 0), (2, .iload_n 1, 1, .null, 0, 0, 0, 0), (3, .istore_n 3, 1, .null, 0, 0, 0, 0),
  (4, .aload_n 0, 1, .null, 0, 0, 0, 0), (5, .getfield 36, 3, .null, 11, 17, 12017, 0), (8, .iload_n 3, 1, .null, 0, 0, 0, 0), (9, .iaload, 1, .null, 0, 0, 0, 0),
  (10, .iconst (-1), 1, .null, 0, 0, 0, 0), (11, .if_icmp .eq 16, 3, .null, 17, 0, 0, 0), (14, .iinc 2 1, 3, .null, 0, 0, 0, 0), (17, .aload_n 0, 1, .null, 0, 0, 0, 0),
  (18, .getfield 36, 3, .null, 11, 17, 12017, 0), (21, .iload_n 3, 1, .null, 0, 0, 0, 0), (22, .iaload, 1, .null, 0, 0, 0, 0), (23, .istore_n 3, 1, .null, 0, 0, 0, 0),
  (24, .goto (-20), 3, .null, 4, 0, 0, 0), (27, .aload_n 0, 1, .null, 0, 0, 0, 0), (28, .getfield 13, 3, .null, 11, 1, 12001, 0), (31, .sipush 281, 3, .null, 0, 0, 0, 0),
  (34, .iload_n 2, 1, .null, 0, 0, 0, 0), (35, .iastore, 1, .null, 0, 0, 0, 0), (36, .iload_n 1, 1, .null, 0, 0, 0, 0), (37, .istore_n 3, 1, .null, 0, 0, 0, 0),
  (38, .aload_n 0, 1, .null, 0, 0, 0, 0), (39, .getfield 36, 3, .null, 11, 17, 12017, 0), (42, .iload_n 3, 1, .null, 0, 0, 0, 0), (43, .iaload, 1, .null, 0, 0, 0, 0),
  (44, .iconst (-1), 1, .null, 0, 0, 0, 0), (45, .if_icmp .eq 32, 3, .null, 47, 0, 0, 0), (48, .iinc 2 (-1), 3, .null, 0, 0, 0, 0), (51, .aload_n 0, 1, .null, 0, 0, 0, 0),
  (52, .getfield 13, 3, .null, 11, 1, 12001, 0), (55, .sipush 282, 3, .null, 0, 0, 0, 0), (58, .iload_n 2, 1, .null, 0, 0, 0, 0), (59, .iadd, 1, .null, 0, 0, 0, 0),
  (60, .aload_n 0, 1, .null, 0, 0, 0, 0), (61, .getfield 39, 3, .null, 11, 18, 12018, 0), (64, .iload_n 3, 1, .null, 0, 0, 0, 0), (65, .iaload, 1, .null, 0, 0, 0, 0),
  (66, .iastore, 1, .null, 0, 0, 0, 0), (67, .aload_n 0, 1, .null, 0, 0, 0, 0), (68, .getfield 36, 3, .null, 11, 17, 12017, 0), (71, .iload_n 3, 1, .null, 0, 0, 0, 0),
  (72, .iaload, 1, .null, 0, 0, 0, 0), (73, .istore_n 3, 1, .null, 0, 0, 0, 0), (74, .goto (-36), 3, .null, 24, 0, 0, 0), (77, .aload_n 0, 1, .null, 0, 0, 0, 0),
  (78, .getfield 13, 3, .null, 11, 1, 12001, 0), (81, .sipush 281, 3, .null, 0, 0, 0, 0), (84, .iaload, 1, .null, 0, 0, 0, 0), (85, .ireturn, 1, .null, 0, 0, 0, 0)]
def ar_234 : List ai_R := [(0, .iload_n 2, 1, .null, 0, 0, 0, 0), (1, .iconst (-1), 1, .null, 0, 0, 0, 0), (2, .if_icmp .ne 19, 3, .null, 11, 0, 0, 0), (5, .iload_n 1, 1, .null, 0, 0, 0, 0),
  (6, .invokestatic 257, 3, .null, 1, 213, 13093, 0), (9, .iconst 1, 1, .null, 0, 0, 0, 0), (10, .if_icmp .ne 7, 3, .null, 9, 0, 0, 0), (13, .iconst 1, 1, .null, 0, 0, 0, 0),
  (14, .goto 20, 3, .null, 20, 0, 0, 0), (17, .iconst 0, 1, .null, 0, 0, 0, 0), (18, .goto 16, 3, .null, 20, 0, 0, 0), (21, .iload_n 1, 1, .null, 0, 0, 0, 0),
  (22, .iload_n 2, 1, .null, 0, 0, 0, 0), (23, .iconst (-1), 1, .null, 0, 0, 0, 0), (24, .ixor, 1, .null, 0, 0, 0, 0), (25, .iand, 1, .null, 0, 0, 0, 0),
  (26, .ifCond .ne 7, 3, .null, 19, 0, 0, 0), (29, .iconst 1, 1, .null, 0, 0, 0, 0), (30, .goto 4, 3, .null, 20, 0, 0, 0), (33, .iconst 0, 1, .null, 0, 0, 0, 0),
  (34, .ireturn, 1, .null, 0, 0, 0, 0)]
def ar_235 : List ai_R := [(0, .aload_n 0, 1, .null, 0, 0, 0, 0), (1, .invokevirtual 260, 3, .null, 0, 231, 13079, 0), (4, .aload_n 0, 1, .null, 0, 0, 0, 0), (5, .iload_n 1, 1, .null, 0, 0, 0, 0),
  (6, .iconst 0, 1, .null, 0, 0, 0, 0), (7, .iconst (-1), 1, .null, 0, 0, 0, 0), (8, .iconst (-1), 1, .null, 0, 0, 0, 0), (9, .invokevirtual 263, 3, .null, 0, 232, 13083, 0),
  (12, .pop, 1, .null, 0, 0, 0, 0), (13, .iconst 0, 1, .null, 0, 0, 0, 0), (14, .istore 4, 2, .null, 0, 0, 0, 0), (16, .iload 4, 2, .null, 0, 0, 0, 0),
  (18, .aload_n 0, 1, .null, 0, 0, 0, 0), (19, .getfield 252, 3, .null, 11, 21, 12021, 0), (22, .if_icmp .ge 81, 3, .null, 56, 0, 0, 0), (25, .aload_n 0, 1, .null, 0, 0, 0, 0),
  (26, .aload_n 0, 1, .null, 0, 0, 0, 0), (27, .getfield 30, 3, .null, 11, 15, 12015, 0), (30, .iload 4, 2, .null, 0, 0, 0, 0), (32, .iaload, 1, .null, 0, 0, 0, 0),
  (33, .iload_n 2, 1, .null, 0, 0, 0, 0), (34, .invokevirtual 267, 3, .null, 0, 234, 13089, 0), (37, .ifCond .eq 6, 3, .null, 25, 0, 0, 0), (40, .iload 4, 2, .null, 0, 0, 0, 0),
  (42, .ireturn, 1, .null, 0, 0, 0, 0), (43, .iconst 0, 1, .null, 0, 0, 0, 0), (44, .istore 5, 2, .null, 0, 0, 0, 0), (46, .iload 5, 2, .null, 0, 0, 0, 0),
  (48, .aload_n 0, 1, .null, 0, 0, 0, 0), (49, .getfield 13, 3, .null, 11, 1, 12001, 0), (52, .iconst 1, 1, .null, 0, 0, 0, 0), (53, .iaload, 1, .null, 0, 0, 0, 0),
  (54, .if_icmp .ge 43, 3, .null, 54, 0, 0, 0), (57, .aload_n 0, 1, .null, 0, 0, 0, 0), (58, .aload_n 0, 1, .null, 0, 0, 0, 0), (59, .getfield 30, 3, .null, 11, 15, 12015, 0),
  (62, .iload 4, 2, .null, 0, 0, 0, 0), (64, .iaload, 1, .null, 0, 0, 0, 0), (65, .iload 5, 2, .null, 0, 0, 0, 0), (67, .invokevirtual 222, 3, .null, 0, 211, 13010, 0),
  (70, .istore 6, 2, .null, 0, 0, 0, 0), (72, .iload 6, 2, .null, 0, 0, 0, 0), (74, .iload_n 3, 1, .null, 0, 0, 0, 0), (75, .iand, 1, .null, 0, 0, 0, 0),
  (76, .ifCond .ne 15, 3, .null, 52, 0, 0, 0), (79, .aload_n 0, 1, .null, 0, 0, 0, 0), (80, .iload 6, 2, .null, 0, 0, 0, 0), (82, .iconst 0, 1, .null, 0, 0, 0, 0),
  (83, .iload 4, 2, .null, 0, 0, 0, 0), (85, .iload 5, 2, .null, 0, 0, 0, 0), (87, .invokevirtual 263, 3, .null, 0, 232, 13083, 0), (90, .pop, 1, .null, 0, 0, 0, 0),
  (91, .iinc 5 1, 3, .null, 0, 0, 0, 0), (94, .goto (-48), 3, .null, 27, 0, 0, 0), (97, .iinc 4 1, 3, .null, 0, 0, 0, 0), (100, .goto (-84), 3, .null, 11, 0, 0, 0),
  (103, .iconst (-1), 1, .null, 0, 0, 0, 0), (104, .ireturn, 1, .null, 0, 0, 0, 0)]
def ar_236 : List ai_R := [(0, .aload_n 0, 1, .null, 0, 0, 0, 0), (1, .iload_n 1, 1, .null, 0, 0, 0, 0), (2, .invokevirtual 246, 3, .null, 0, 208, 13063, 0), (5, .ifCond .eq 16, 3, .null, 11, 0, 0, 0),
  (8, .iload_n 2, 1, .null, 0, 0, 0, 0), (9, .iconst (-1), 1, .null, 0, 0, 0, 0), (10, .if_icmp .eq 14, 3, .null, 13, 0, 0, 0), (13, .aload_n 0, 1, .null, 0, 0, 0, 0),
  (14, .iload_n 2, 1, .null, 0, 0, 0, 0), (15, .invokevirtual 246, 3, .null, 0, 208, 13063, 0), (18, .ifCond .ne 6, 3, .null, 13, 0, 0, 0), (21, .bipush (-3), 2, .null, 0, 0, 0, 0),
  (23, .ireturn, 1, .null, 0, 0, 0, 0), (24, .aload_n 0, 1, .null, 0, 0, 0, 0), (25, .iload_n 1, 1, .null, 0, 0, 0, 0), (26, .iload_n 2, 1, .null, 0, 0, 0, 0),
  (27, .iload_n 3, 1, .null, 0, 0, 0, 0), (28, .invokevirtual 271, 3, .null, 0, 235, 13075, 0), (31, .istore 4, 2, .null, 0, 0, 0, 0), (33, .iload 4, 2, .null, 0, 0, 0, 0),
  (35, .iconst (-1), 1, .null, 0, 0, 0, 0), (36, .if_icmp .ne 7, 3, .null, 24, 0, 0, 0), (39, .iconst (-1), 1, .null, 0, 0, 0, 0), (40, .goto 9, 3, .null, 27, 0, 0, 0),
  (43, .aload_n 0, 1, .null, 0, 0, 0, 0), (44, .iload 4, 2, .null, 0, 0, 0, 0), (46, .invokevirtual 274, 3, .null, 0, 237, 13096, 0), (49, .ireturn, 1, .null, 0, 0, 0, 0)]
def ar_237 : List ai_R := [(0, .aload_n 0, 1, .null, 0, 0, 0, 0), (1, .iload_n 1, 1, .null, 0, 0, 0, 0), (2, .invokevirtual 277, 3, .null, 0, 242, 13100, 0), (5, .istore_n 2, 1, .null, 0, 0, 0, 0),
  (6, .iload_n 2, 1, .null, 0, 0, 0, 0), (7, .sipush 500, 3, .null, 0, 0, 0, 0), (10, .if_icmp .le 7, 3, .null, 9, 0, 0, 0), (13, .iload_n 2, 1, .null, 0, 0, 0, 0),
  (14, .goto 8, 3, .null, 12, 0, 0, 0), (17, .aload_n 0, 1, .null, 0, 0, 0, 0), (18, .iload_n 1, 1, .null, 0, 0, 0, 0), (19, .invokevirtual 280, 3, .null, 0, 233, 13104, 0),
  (22, .ireturn, 1, .null, 0, 0, 0, 0)]
def ar_238 : List ai_R := [(0, .aload_n 0, 1, .null, 0, 0, 0, 0), (1, .iconst 0, 1, .null, 0, 0, 0, 0), (2, .putfield 1, 3, .null, 11, 0, 12000, 0), (5, .aload_n 0, 1, .null, 0, 0, 0, 0),
  (6, .iload_n 1, 1, .null, 0, 0, 0, 0), (7, .iload_n 2, 1, .null, 0, 0, 0, 0), (8, .iconst 0, 1, .null, 0, 0, 0, 0), (9, .invokevirtual 283, 3, .null, 0, 236, 13071, 0),
  (12, .ireturn, 1, .null, 0, 0, 0, 0)]
def ar_239 : List ai_R := [(0, .aload_n 0, 1, .null, 0, 0, 0, 0), (1, .iconst 0, 1, .null, 0, 0, 0, 0), (2, .putfield 1, 3, .null, 11, 0, 12000, 0), (5, .aload_n 0, 1, .null, 0, 0, 0, 0),
  (6, .iload_n 1, 1, .null, 0, 0, 0, 0), (7, .iload_n 2, 1, .null, 0, 0, 0, 0), (8, .aload_n 0, 1, .null, 0, 0, 0, 0), (9, .getfield 13, 3, .null, 11, 1, 12001, 0),
  (12, .sipush 268, 3, .null, 0, 0, 0, 0), (15, .iaload, 1, .null, 0, 0, 0, 0), (16, .invokevirtual 283, 3, .null, 0, 236, 13071, 0), (19, .ireturn, 1, .null, 0, 0, 0, 0)]
def ar_240 : List ai_R := [(0, .aload_n 0, 1, .null, 0, 0, 0, 0), (1, .iconst 0, 1, .null, 0, 0, 0, 0), (2, .putfield 1, 3, .null, 11, 0, 12000, 0), (5, .aload_n 0, 1, .null, 0, 0, 0, 0),
  (6, .getfield 13, 3, .null, 11, 1, 12001, 0), (9, .iconst 0, 1, .null, 0, 0, 0, 0), (10, .iaload, 1, .null, 0, 0, 0, 0), (11, .ifCond .ne 6, 3, .null, 10, 0, 0, 0),
  (14, .bipush (-5), 2, .null, 0, 0, 0, 0), (16, .ireturn, 1, .null, 0, 0, 0, 0), (17, .aload_n 0, 1, .null, 0, 0, 0, 0), (18, .invokevirtual 260, 3, .null, 0, 231, 13079, 0),
  (21, .aload_n 0, 1, .null, 0, 0, 0, 0), (22, .iconst 1, 1, .null, 0, 0, 0, 0), (23, .aload_n 0, 1, .null, 0, 0, 0, 0), (24, .getfield 13, 3, .null, 11, 1, 12001, 0),
  (27, .iconst 0, 1, .null, 0, 0, 0, 0), (28, .iaload, 1, .null, 0, 0, 0, 0), (29, .ishl, 1, .null, 0, 0, 0, 0), (30, .iconst 1, 1, .null, 0, 0, 0, 0),
  (31, .isub, 1, .null, 0, 0, 0, 0), (32, .iconst 0, 1, .null, 0, 0, 0, 0), (33, .iconst (-1), 1, .null, 0, 0, 0, 0), (34, .iconst (-1), 1, .null, 0, 0, 0, 0),
  (35, .invokevirtual 263, 3, .null, 0, 232, 13083, 0), (38, .pop, 1, .null, 0, 0, 0, 0), (39, .aload_n 0, 1, .null, 0, 0, 0, 0), (40, .getfield 13, 3, .null, 11, 1, 12001, 0),
  (43, .iconst 0, 1, .null, 0, 0, 0, 0), (44, .iaload, 1, .null, 0, 0, 0, 0), (45, .istore_n 1, 1, .null, 0, 0, 0, 0), (46, .iconst 0, 1, .null, 0, 0, 0, 0),
  (47, .istore_n 2, 1, .null, 0, 0, 0, 0), (48, .iload_n 2, 1, .null, 0, 0, 0, 0), (49, .aload_n 0, 1, .null, 0, 0, 0, 0), (50, .getfield 252, 3, .null, 11, 21, 12021, 0),
  (53, .if_icmp .ge 71, 3, .null, 75, 0, 0, 0), (56, .aload_n 0, 1, .null, 0, 0, 0, 0), (57, .getfield 30, 3, .null, 11, 15, 12015, 0), (60, .iload_n 2, 1, .null, 0, 0, 0, 0),
  (61, .iaload, 1, .null, 0, 0, 0, 0), (62, .invokestatic 257, 3, .null, 1, 213, 13093, 0), (65, .istore_n 3, 1, .null, 0, 0, 0, 0), (66, .iload_n 3, 1, .null, 0, 0, 0, 0),
  (67, .iload_n 1, 1, .null, 0, 0, 0, 0), (68, .if_icmp .ge 7, 3, .null, 48, 0, 0, 0), (71, .iload_n 3, 1, .null, 0, 0, 0, 0), (72, .goto 4, 3, .null, 49, 0, 0, 0),
  (75, .iload_n 1, 1, .null, 0, 0, 0, 0), (76, .istore_n 1, 1, .null, 0, 0, 0, 0), (77, .iconst 0, 1, .null, 0, 0, 0, 0), (78, .istore 4, 2, .null, 0, 0, 0, 0),
  (80, .iload 4, 2, .null, 0, 0, 0, 0), (82, .aload_n 0, 1, .null, 0, 0, 0, 0), (83, .getfield 13, 3, .null, 11, 1, 12001, 0), (86, .iconst 1, 1, .null, 0, 0, 0, 0),
  (87, .iaload, 1, .null, 0, 0, 0, 0), (88, .if_icmp .ge 30, 3, .null, 73, 0, 0, 0), (91, .aload_n 0, 1, .null, 0, 0, 0, 0), (92, .aload_n 0, 1, .null, 0, 0, 0, 0),
  (93, .aload_n 0, 1, .null, 0, 0, 0, 0), (94, .getfield 30, 3, .null, 11, 15, 12015, 0), (97, .iload_n 2, 1, .null, 0, 0, 0, 0), (98, .iaload, 1, .null, 0, 0, 0, 0),
  (99, .iload 4, 2, .null, 0, 0, 0, 0), (101, .invokevirtual 222, 3, .null, 0, 211, 13010, 0), (104, .iconst 0, 1, .null, 0, 0, 0, 0), (105, .iload_n 2, 1, .null, 0, 0, 0, 0),
  (106, .iload 4, 2, .null, 0, 0, 0, 0), (108, .invokevirtual 263, 3, .null, 0, 232, 13083, 0), (111, .pop, 1, .null, 0, 0, 0, 0), (112, .iinc 4 1, 3, .null, 0, 0, 0, 0),
  (115, .goto (-35), 3, .null, 52, 0, 0, 0), (118, .iinc 2 1, 3, .null, 0, 0, 0, 0), (121, .goto (-73), 3, .null, 33, 0, 0, 0), (124, .iload_n 1, 1, .null, 0, 0, 0, 0),
  (125, .ireturn, 1, .null, 0, 0, 0, 0)]
def ar_241 : List ai_R := [(0, .aload_n 0, 1, .null, 0, 0, 0, 0), (1, .invokevirtual 260, 3, .null, 0, 231, 13079, 0), (4, .aload_n 0, 1, .null, 0, 0, 0, 0), (5, .iload_n 1, 1, .null, 0, 0, 0, 0),
  (6, .iload_n 2, 1, .null, 0, 0, 0, 0), (7, .iconst (-1), 1, .null, 0, 0, 0, 0), (8, .iconst (-1), 1, .null, 0, 0, 0, 0), (9, .invokevirtual 263, 3, .null, 0, 232, 13083, 0),
  (12, .pop, 1, .null, 0, 0, 0, 0), (13, .iconst 0, 1, .null, 0, 0, 0, 0), (14, .istore_n 3, 1, .null, 0, 0, 0, 0), (15, .iload_n 3, 1, .null, 0, 0, 0, 0),
  (16, .aload_n 0, 1, .null, 0, 0, 0, 0), (17, .getfield 252, 3, .null, 11, 21, 12021, 0), (20, .if_icmp .ge 78, 3, .null, 57, 0, 0, 0), (23, .aload_n 0, 1, .null, 0, 0, 0, 0),
  (24, .getfield 30, 3, .null, 11, 15, 12015, 0), (27, .iload_n 3, 1, .null, 0, 0, 0, 0), (28, .iaload, 1, .null, 0, 0, 0, 0), (29, .aload_n 0, 1, .null, 0, 0, 0, 0),
  (30, .getfield 33, 3, .null, 11, 16, 12016, 0), (33, .iload_n 3, 1, .null, 0, 0, 0, 0), (34, .iaload, 1, .null, 0, 0, 0, 0), (35, .if_icmp .ne 5, 3, .null, 26, 0, 0, 0),
  (38, .iload_n 3, 1, .null, 0, 0, 0, 0), (39, .ireturn, 1, .null, 0, 0, 0, 0), (40, .iconst 0, 1, .null, 0, 0, 0, 0), (41, .istore 4, 2, .null, 0, 0, 0, 0),
  (43, .iload 4, 2, .null, 0, 0, 0, 0), (45, .aload_n 0, 1, .null, 0, 0, 0, 0), (46, .getfield 13, 3, .null, 11, 1, 12001, 0), (49, .iconst 1, 1, .null, 0, 0, 0, 0),
  (50, .iaload, 1, .null, 0, 0, 0, 0), (51, .if_icmp .ge 41, 3, .null, 55, 0, 0, 0), (54, .aload_n 0, 1, .null, 0, 0, 0, 0), (55, .aload_n 0, 1, .null, 0, 0, 0, 0),
  (56, .aload_n 0, 1, .null, 0, 0, 0, 0), (57, .getfield 30, 3, .null, 11, 15, 12015, 0), (60, .iload_n 3, 1, .null, 0, 0, 0, 0), (61, .iaload, 1, .null, 0, 0, 0, 0),
  (62, .iload 4, 2, .null, 0, 0, 0, 0), (64, .invokevirtual 211, 3, .null, 0, 210, 12230, 0), (67, .aload_n 0, 1, .null, 0, 0, 0, 0), (68, .aload_n 0, 1, .null, 0, 0, 0, 0),
  (69, .getfield 33, 3, .null, 11, 16, 12016, 0), (72, .iload_n 3, 1, .null, 0, 0, 0, 0), (73, .iaload, 1, .null, 0, 0, 0, 0), (74, .iload 4, 2, .null, 0, 0, 0, 0),
  (76, .invokevirtual 211, 3, .null, 0, 210, 12230, 0), (79, .iload_n 3, 1, .null, 0, 0, 0, 0), (80, .iload 4, 2, .null, 0, 0, 0, 0), (82, .invokevirtual 263, 3, .null, 0, 232, 13083, 0),
  (85, .pop, 1, .null, 0, 0, 0, 0), (86, .iinc 4 1, 3, .null, 0, 0, 0, 0), (89, .goto (-46), 3, .null, 28, 0, 0, 0), (92, .iinc 3 1, 3, .null, 0, 0, 0, 0),
  (95, .goto (-80), 3, .null, 11, 0, 0, 0), (98, .iconst (-1), 1, .null, 0, 0, 0, 0), (99, .ireturn, 1, .null, 0, 0, 0, 0)]
def ar_242 : List ai_R := [(0, .iconst 0, 1, .null, 0, 0, 0, 0), (1, .istore_n 2, 1, .null, 0, 0, 0, 0), (2, .iload_n 1, 1, .null, 0, 0, 0, 0), (3, .istore_n 3, 1, .null, 0, 0, 0, 0),
  (4, .aload_n 0, 1, .null, 0, 0, 0, 0), (5, .getfield 36, 3, .null, 11, 17, 12017, 0), (8, .iload_n 3, 1, .null, 0, 0, 0, 0), (9, .iaload, 1, .null, 0, 0, 0, 0),
  (10, .iconst (-1), 1, .null, 0, 0, 0, 0), (11, .if_icmp .eq 16, 3, .null, 17, 0, 0, 0), (14, .iinc 2 1, 3, .null, 0, 0, 0, 0), (17, .aload_n 0, 1, .null, 0, 0, 0, 0),
  (18, .getfield 36, 3, .null, 11, 17, 12017, 0), (21, .iload_n 3, 1, .null, 0, 0, 0, 0), (22, .iaload, 1, .null, 0, 0, 0, 0), (23, .istore_n 3, 1, .null, 0, 0, 0, 0),
  (24, .goto (-20), 3, .null, 4, 0, 0, 0), (27, .iload_n 2, 1, .null, 0, 0, 0, 0), (28, .ireturn, 1, .null, 0, 0, 0, 0)]
def ar_243 : List ai_R := [(0, .aload_n 0, 1, .null, 0, 0, 0, 0), (1, .iconst 0, 1, .null, 0, 0, 0, 0), (2, .putfield 1, 3, .null, 11, 0, 12000, 0), (5, .aload_n 0, 1, .null, 0, 0, 0, 0),
  (6, .iload_n 1, 1, .null, 0, 0, 0, 0), (7, .invokevirtual 214, 3, .null, 0, 207, 12225, 0), (10, .ifCond .eq 11, 3, .null, 11, 0, 0, 0), (13, .aload_n 0, 1, .null, 0, 0, 0, 0),
  (14, .iload_n 2, 1, .null, 0, 0, 0, 0), (15, .invokevirtual 214, 3, .null, 0, 207, 12225, 0), (18, .ifCond .ne 6, 3, .null, 13, 0, 0, 0), (21, .bipush (-2), 2, .null, 0, 0, 0, 0),
  (23, .ireturn, 1, .null, 0, 0, 0, 0), (24, .aload_n 0, 1, .null, 0, 0, 0, 0), (25, .iload_n 1, 1, .null, 0, 0, 0, 0), (26, .iload_n 2, 1, .null, 0, 0, 0, 0),
  (27, .invokevirtual 286, 3, .null, 0, 241, 13120, 0), (30, .istore_n 3, 1, .null, 0, 0, 0, 0), (31, .iload_n 3, 1, .null, 0, 0, 0, 0), (32, .iconst (-1), 1, .null, 0, 0, 0, 0),
  (33, .if_icmp .ne 7, 3, .null, 23, 0, 0, 0), (36, .iconst (-1), 1, .null, 0, 0, 0, 0), (37, .goto 8, 3, .null, 26, 0, 0, 0), (40, .aload_n 0, 1, .null, 0, 0, 0, 0),
  (41, .iload_n 3, 1, .null, 0, 0, 0, 0), (42, .invokevirtual 277, 3, .null, 0, 242, 13100, 0), (45, .ireturn, 1, .null, 0, 0, 0, 0)]
def ar_244 : List ai_R := [(0, .aload_n 0, 1, .null, 0, 0, 0, 0), (1, .iconst 0, 1, .null, 0, 0, 0, 0), (2, .putfield 1, 3, .null, 11, 0, 12000, 0), (5, .iconst 0, 1, .null, 0, 0, 0, 0),
  (6, .istore_n 1, 1, .null, 0, 0, 0, 0), (7, .iload_n 1, 1, .null, 0, 0, 0, 0), (8, .aload_n 0, 1, .null, 0, 0, 0, 0), (9, .getfield 13, 3, .null, 11, 1, 12001, 0),
  (12, .iconst 0, 1, .null, 0, 0, 0, 0), (13, .iaload, 1, .null, 0, 0, 0, 0), (14, .if_icmp .ge 46, 3, .null, 37, 0, 0, 0), (17, .iload_n 1, 1, .null, 0, 0, 0, 0),
  (18, .iconst 1, 1, .null, 0, 0, 0, 0), (19, .iadd, 1, .null, 0, 0, 0, 0), (20, .istore_n 2, 1, .null, 0, 0, 0, 0), (21, .iload_n 2, 1, .null, 0, 0, 0, 0),
  (22, .aload_n 0, 1, .null, 0, 0, 0, 0), (23, .getfield 13, 3, .null, 11, 1, 12001, 0), (26, .iconst 0, 1, .null, 0, 0, 0, 0), (27, .iaload, 1, .null, 0, 0, 0, 0),
  (28, .if_icmp .ge 26, 3, .null, 35, 0, 0, 0), (31, .aload_n 0, 1, .null, 0, 0, 0, 0), (32, .iload_n 1, 1, .null, 0, 0, 0, 0), (33, .iload_n 2, 1, .null, 0, 0, 0, 0),
  (34, .invokevirtual 286, 3, .null, 0, 241, 13120, 0), (37, .iconst (-1), 1, .null, 0, 0, 0, 0), (38, .if_icmp .ne 10, 3, .null, 33, 0, 0, 0), (41, .bipush 100, 2, .null, 0, 0, 0, 0),
  (43, .iload_n 1, 1, .null, 0, 0, 0, 0), (44, .imul, 1, .null, 0, 0, 0, 0), (45, .iload_n 2, 1, .null, 0, 0, 0, 0), (46, .iadd, 1, .null, 0, 0, 0, 0),
  (47, .ireturn, 1, .null, 0, 0, 0, 0), (48, .iinc 2 1, 3, .null, 0, 0, 0, 0), (51, .goto (-30), 3, .null, 15, 0, 0, 0), (54, .iinc 1 1, 3, .null, 0, 0, 0, 0),
  (57, .goto (-50), 3, .null, 5, 0, 0, 0), (60, .iconst (-1), 1, .null, 0, 0, 0, 0), (61, .ireturn, 1, .null, 0, 0, 0, 0)]
def ar_245 : List ai_R := [(0, .aload_n 0, 1, .null, 0, 0, 0, 0), (1, .iconst 0, 1, .null, 0, 0, 0, 0), (2, .putfield 1, 3, .null, 11, 0, 12000, 0), (5, .aload_n 0, 1, .null, 0, 0, 0, 0),
  (6, .iload_n 1, 1, .null, 0, 0, 0, 0), (7, .invokevirtual 246, 3, .null, 0, 208, 13063, 0), (10, .ifCond .ne 6, 3, .null, 9, 0, 0, 0), (13, .bipush (-3), 2, .null, 0, 0, 0, 0),
  (15, .ireturn, 1, .null, 0, 0, 0, 0), (16, .iload_n 1, 1, .null, 0, 0, 0, 0), (17, .istore_n 2, 1, .null, 0, 0, 0, 0), (18, .iconst 0, 1, .null, 0, 0, 0, 0),
  (19, .istore_n 3, 1, .null, 0, 0, 0, 0), (20, .iload_n 2, 1, .null, 0, 0, 0, 0), (21, .invokestatic 257, 3, .null, 1, 213, 13093, 0), (24, .iconst 1, 1, .null, 0, 0, 0, 0),
  (25, .if_icmp .le 242, 3, .null, 145, 0, 0, 0), (28, .iconst (-1), 1, .null, 0, 0, 0, 0), (29, .istore 4, 2, .null, 0, 0, 0, 0), (31, .iconst (-1), 1, .null, 0, 0, 0, 0),
  (32, .istore 5, 2, .null, 0, 0, 0, 0), (34, .iconst 0, 1, .null, 0, 0, 0, 0), (35, .istore 6, 2, .null, 0, 0, 0, 0), (37, .iconst 0, 1, .null, 0, 0, 0, 0),
  (38, .istore 7, 2, .null, 0, 0, 0, 0), (40, .iload 7, 2, .null, 0, 0, 0, 0), (42, .aload_n 0, 1, .null, 0, 0, 0, 0), (43, .getfield 13, 3, .null, 11, 1, 12001, 0),
  (46, .iconst 0, 1, .null, 0, 0, 0, 0), (47, .iaload, 1, .null, 0, 0, 0, 0), (48, .if_icmp .ge 105, 3, .null, 83, 0, 0, 0), (51, .iload 7, 2, .null, 0, 0, 0, 0),
  (53, .iconst 1, 1, .null, 0, 0, 0, 0), (54, .iadd, 1, .null, 0, 0, 0, 0), (55, .istore 8, 2, .null, 0, 0, 0, 0), (57, .iload 8, 2, .null, 0, 0, 0, 0),
  (59, .aload_n 0, 1, .null, 0, 0, 0, 0), (60, .getfield 13, 3, .null, 11, 1, 12001, 0), (63, .iconst 0, 1, .null, 0, 0, 0, 0), (64, .iaload, 1, .null, 0, 0, 0, 0),
  (65, .if_icmp .ge 82, 3, .null, 81, 0, 0, 0), (68, .iload_n 2, 1, .null, 0, 0, 0, 0), (69, .iload 7, 2, .null, 0, 0, 0, 0), (71, .ishr, 1, .null, 0, 0, 0, 0),
  (72, .iconst 1, 1, .null, 0, 0, 0, 0), (73, .iand, 1, .null, 0, 0, 0, 0), (74, .ifCond .eq 67, 3, .null, 79, 0, 0, 0), (77, .iload_n 2, 1, .null, 0, 0, 0, 0),
  (78, .iload 8, 2, .null, 0, 0, 0, 0), (80, .ishr, 1, .null, 0, 0, 0, 0), (81, .iconst 1, 1, .null, 0, 0, 0, 0), (82, .iand, 1, .null, 0, 0, 0, 0),
  (83, .ifCond .ne 6, 3, .null, 54, 0, 0, 0), (86, .goto 55, 3, .null, 79, 0, 0, 0), (89, .aload_n 0, 1, .null, 0, 0, 0, 0), (90, .iload 7, 2, .null, 0, 0, 0, 0),
  (92, .iload 8, 2, .null, 0, 0, 0, 0), (94, .invokevirtual 286, 3, .null, 0, 241, 13120, 0), (97, .istore 9, 2, .null, 0, 0, 0, 0), (99, .iload 9, 2, .null, 0, 0, 0, 0),
  (101, .iconst (-1), 1, .null, 0, 0, 0, 0), (102, .if_icmp .eq 39, 3, .null, 79, 0, 0, 0), (105, .iload 4, 2, .null, 0, 0, 0, 0), (107, .iconst (-1), 1, .null, 0, 0, 0, 0),
  (108, .if_icmp .eq 17, 3, .null, 71, 0, 0, 0), (111, .aload_n 0, 1, .null, 0, 0, 0, 0), (112, .iload 9, 2, .null, 0, 0, 0, 0), (114, .invokevirtual 277, 3, .null, 0, 242, 13100, 0),
  (117, .iload 6, 2, .null, 0, 0, 0, 0), (119, .if_icmp .lt 6, 3, .null, 71, 0, 0, 0), (122, .goto 19, 3, .null, 79, 0, 0, 0), (125, .iload 7, 2, .null, 0, 0, 0, 0),
  (127, .istore 4, 2, .null, 0, 0, 0, 0), (129, .iload 8, 2, .null, 0, 0, 0, 0), (131, .istore 5, 2, .null, 0, 0, 0, 0), (133, .aload_n 0, 1, .null, 0, 0, 0, 0),
  (134, .iload 9, 2, .null, 0, 0, 0, 0), (136, .invokevirtual 277, 3, .null, 0, 242, 13100, 0), (139, .istore 6, 2, .null, 0, 0, 0, 0), (141, .iinc 8 1, 3, .null, 0, 0, 0, 0),
  (144, .goto (-87), 3, .null, 35, 0, 0, 0), (147, .iinc 7 1, 3, .null, 0, 0, 0, 0), (150, .goto (-110), 3, .null, 25, 0, 0, 0), (153, .iload 4, 2, .null, 0, 0, 0, 0),
  (155, .iconst (-1), 1, .null, 0, 0, 0, 0), (156, .if_icmp .eq 13, 3, .null, 91, 0, 0, 0), (159, .iload_n 3, 1, .null, 0, 0, 0, 0), (160, .iload 6, 2, .null, 0, 0, 0, 0),
  (162, .iadd, 1, .null, 0, 0, 0, 0), (163, .sipush 500, 3, .null, 0, 0, 0, 0), (166, .if_icmp .le 5, 3, .null, 93, 0, 0, 0), (169, .iconst (-1), 1, .null, 0, 0, 0, 0),
  (170, .ireturn, 1, .null, 0, 0, 0, 0), (171, .aload_n 0, 1, .null, 0, 0, 0, 0), (172, .iload 4, 2, .null, 0, 0, 0, 0), (174, .iload 5, 2, .null, 0, 0, 0, 0),
  (176, .invokevirtual 286, 3, .null, 0, 241, 13120, 0), (179, .istore 7, 2, .null, 0, 0, 0, 0), (181, .iload_n 3, 1, .null, 0, 0, 0, 0), (182, .iload 6, 2, .null, 0, 0, 0, 0),
  (184, .iadd, 1, .null, 0, 0, 0, 0), (185, .istore_n 3, 1, .null, 0, 0, 0, 0), (186, .iload_n 3, 1, .null, 0, 0, 0, 0), (187, .istore 8, 2, .null, 0, 0, 0, 0),
  (189, .iload 7, 2, .null, 0, 0, 0, 0), (191, .istore 9, 2, .null, 0, 0, 0, 0), (193, .aload_n 0, 1, .null, 0, 0, 0, 0), (194, .getfield 36, 3, .null, 11, 17, 12017, 0),
  (197, .iload 9, 2, .null, 0, 0, 0, 0), (199, .iaload, 1, .null, 0, 0, 0, 0), (200, .iconst (-1), 1, .null, 0, 0, 0, 0), (201, .if_icmp .eq 32, 3, .null, 127, 0, 0, 0),
  (204, .iinc 8 (-1), 3, .null, 0, 0, 0, 0), (207, .aload_n 0, 1, .null, 0, 0, 0, 0), (208, .getfield 49, 3, .null, 11, 23, 12023, 0), (211, .iload 8, 2, .null, 0, 0, 0, 0),
  (213, .aload_n 0, 1, .null, 0, 0, 0, 0), (214, .getfield 39, 3, .null, 11, 18, 12018, 0), (217, .iload 9, 2, .null, 0, 0, 0, 0), (219, .iaload, 1, .null, 0, 0, 0, 0),
  (220, .iastore, 1, .null, 0, 0, 0, 0), (221, .aload_n 0, 1, .null, 0, 0, 0, 0), (222, .getfield 36, 3, .null, 11, 17, 12017, 0), (225, .iload 9, 2, .null, 0, 0, 0, 0),
  (227, .iaload, 1, .null, 0, 0, 0, 0), (228, .istore 9, 2, .null, 0, 0, 0, 0), (230, .goto (-37), 3, .null, 106, 0, 0, 0), (233, .iload_n 3, 1, .null, 0, 0, 0, 0),
  (234, .iload 6, 2, .null, 0, 0, 0, 0), (236, .isub, 1, .null, 0, 0, 0, 0), (237, .istore 9, 2, .null, 0, 0, 0, 0), (239, .iload 9, 2, .null, 0, 0, 0, 0),
  (241, .iload_n 3, 1, .null, 0, 0, 0, 0), (242, .if_icmp .ge 22, 3, .null, 144, 0, 0, 0), (245, .aload_n 0, 1, .null, 0, 0, 0, 0), (246, .iload_n 2, 1, .null, 0, 0, 0, 0),
  (247, .aload_n 0, 1, .null, 0, 0, 0, 0), (248, .getfield 49, 3, .null, 11, 23, 12023, 0), (251, .iload 9, 2, .null, 0, 0, 0, 0), (253, .iaload, 1, .null, 0, 0, 0, 0),
  (254, .invokevirtual 289, 3, .null, 0, 212, 13132, 0), (257, .istore_n 2, 1, .null, 0, 0, 0, 0), (258, .iinc 9 1, 3, .null, 0, 0, 0, 0), (261, .goto (-22), 3, .null, 131, 0, 0, 0),
  (264, .goto (-244), 3, .null, 13, 0, 0, 0), (267, .aload_n 0, 1, .null, 0, 0, 0, 0), (268, .getfield 13, 3, .null, 11, 1, 12001, 0), (271, .sipush 281, 3, .null, 0, 0, 0, 0),
  (274, .iload_n 3, 1, .null, 0, 0, 0, 0), (275, .iastore, 1, .null, 0, 0, 0, 0), (276, .iconst 0, 1, .null, 0, 0, 0, 0), (277, .istore 4, 2, .null, 0, 0, 0, 0),
  (279, .iload 4, 2, .null, 0, 0, 0, 0), (281, .iload_n 3, 1, .null, 0, 0, 0, 0), (282, .if_icmp .ge 27, 3, .null, 167, 0, 0, 0), (285, .aload_n 0, 1, .null, 0, 0, 0, 0),
  (286, .getfield 13, 3, .null, 11, 1, 12001, 0), (289, .sipush 282, 3, .null, 0, 0, 0, 0), (292, .iload 4, 2, .null, 0, 0, 0, 0), (294, .iadd, 1, .null, 0, 0, 0, 0),
  (295, .aload_n 0, 1, .null, 0, 0, 0, 0), (296, .getfield 49, 3, .null, 11, 23, 12023, 0), (299, .iload 4, 2, .null, 0, 0, 0, 0), (301, .iaload, 1, .null, 0, 0, 0, 0),
  (302, .iastore, 1, .null, 0, 0, 0, 0), (303, .iinc 4 1, 3, .null, 0, 0, 0, 0), (306, .goto (-27), 3, .null, 152, 0, 0, 0), (309, .iload_n 3, 1, .null, 0, 0, 0, 0),
  (310, .ireturn, 1, .null, 0, 0, 0, 0)]
def ar_246 : List ai_R := [(0, .aload_n 0, 1, .null, 0, 0, 0, 0), (1, .iconst 0, 1, .null, 0, 0, 0, 0), (2, .putfield 1, 3, .null, 11, 0, 12000, 0), (5, .aload_n 0, 1, .null, 0, 0, 0, 0),
  (6, .iload_n 1, 1, .null, 0, 0, 0, 0), (7, .invokevirtual 246, 3, .null, 0, 208, 13063, 0), (10, .ifCond .ne 6, 3, .null, 9, 0, 0, 0), (13, .bipush (-3), 2, .null, 0, 0, 0, 0),
  (15, .ireturn, 1, .null, 0, 0, 0, 0), (16, .iconst 1, 1, .null, 0, 0, 0, 0), (17, .aload_n 0, 1, .null, 0, 0, 0, 0), (18, .getfield 13, 3, .null, 11, 1, 12001, 0),
  (21, .sipush 270, 3, .null, 0, 0, 0, 0), (24, .iaload, 1, .null, 0, 0, 0, 0), (25, .ishl, 1, .null, 0, 0, 0, 0), (26, .istore_n 2, 1, .null, 0, 0, 0, 0),
  (27, .aload_n 0, 1, .null, 0, 0, 0, 0), (28, .invokevirtual 260, 3, .null, 0, 231, 13079, 0), (31, .aload_n 0, 1, .null, 0, 0, 0, 0), (32, .iload_n 1, 1, .null, 0, 0, 0, 0),
  (33, .iconst 0, 1, .null, 0, 0, 0, 0), (34, .iconst (-1), 1, .null, 0, 0, 0, 0), (35, .iconst (-1), 1, .null, 0, 0, 0, 0), (36, .invokevirtual 263, 3, .null, 0, 232, 13083, 0),
  (39, .pop, 1, .null, 0, 0, 0, 0), (40, .iload_n 1, 1, .null, 0, 0, 0, 0), (41, .iload_n 2, 1, .null, 0, 0, 0, 0), (42, .if_icmp .ne 9, 3, .null, 32, 0, 0, 0),
  (45, .aload_n 0, 1, .null, 0, 0, 0, 0), (46, .iconst 0, 1, .null, 0, 0, 0, 0), (47, .invokevirtual 274, 3, .null, 0, 237, 13096, 0), (50, .ireturn, 1, .null, 0, 0, 0, 0),
  (51, .iconst 0, 1, .null, 0, 0, 0, 0), (52, .istore_n 3, 1, .null, 0, 0, 0, 0), (53, .iload_n 3, 1, .null, 0, 0, 0, 0), (54, .aload_n 0, 1, .null, 0, 0, 0, 0),
  (55, .getfield 252, 3, .null, 11, 21, 12021, 0), (58, .if_icmp .ge 123, 3, .null, 104, 0, 0, 0), (61, .iconst 0, 1, .null, 0, 0, 0, 0), (62, .istore 4, 2, .null, 0, 0, 0, 0),
  (64, .iload 4, 2, .null, 0, 0, 0, 0), (66, .aload_n 0, 1, .null, 0, 0, 0, 0), (67, .getfield 13, 3, .null, 11, 1, 12001, 0), (70, .iconst 1, 1, .null, 0, 0, 0, 0),
  (71, .iaload, 1, .null, 0, 0, 0, 0), (72, .if_icmp .ge 103, 3, .null, 102, 0, 0, 0), (75, .aload_n 0, 1, .null, 0, 0, 0, 0), (76, .aload_n 0, 1, .null, 0, 0, 0, 0),
  (77, .getfield 30, 3, .null, 11, 15, 12015, 0), (80, .iload_n 3, 1, .null, 0, 0, 0, 0), (81, .iaload, 1, .null, 0, 0, 0, 0), (82, .iload 4, 2, .null, 0, 0, 0, 0),
  (84, .invokevirtual 222, 3, .null, 0, 211, 13010, 0), (87, .istore 5, 2, .null, 0, 0, 0, 0), (89, .aload_n 0, 1, .null, 0, 0, 0, 0), (90, .aload_n 0, 1, .null, 0, 0, 0, 0),
  (91, .getfield 33, 3, .null, 11, 16, 12016, 0), (94, .iload_n 3, 1, .null, 0, 0, 0, 0), (95, .iaload, 1, .null, 0, 0, 0, 0), (96, .iload 4, 2, .null, 0, 0, 0, 0),
  (98, .invokevirtual 222, 3, .null, 0, 211, 13010, 0), (101, .aload_n 0, 1, .null, 0, 0, 0, 0), (102, .getfield 30, 3, .null, 11, 15, 12015, 0), (105, .iload_n 3, 1, .null, 0, 0, 0, 0),
  (106, .iaload, 1, .null, 0, 0, 0, 0), (107, .ior, 1, .null, 0, 0, 0, 0), (108, .istore 6, 2, .null, 0, 0, 0, 0), (110, .aload_n 0, 1, .null, 0, 0, 0, 0),
  (111, .iload 5, 2, .null, 0, 0, 0, 0), (113, .iload 6, 2, .null, 0, 0, 0, 0), (115, .iload_n 3, 1, .null, 0, 0, 0, 0), (116, .iload 4, 2, .null, 0, 0, 0, 0),
  (118, .invokevirtual 263, 3, .null, 0, 232, 13083, 0), (121, .ifCond .ne 6, 3, .null, 75, 0, 0, 0), (124, .goto 45, 3, .null, 100, 0, 0, 0), (127, .iload 5, 2, .null, 0, 0, 0, 0),
  (129, .iload_n 2, 1, .null, 0, 0, 0, 0), (130, .iconst (-1), 1, .null, 0, 0, 0, 0), (131, .ixor, 1, .null, 0, 0, 0, 0), (132, .iand, 1, .null, 0, 0, 0, 0),
  (133, .ifCond .ne 23, 3, .null, 94, 0, 0, 0), (136, .iload 6, 2, .null, 0, 0, 0, 0), (138, .iload_n 2, 1, .null, 0, 0, 0, 0), (139, .iconst (-1), 1, .null, 0, 0, 0, 0),
  (140, .ixor, 1, .null, 0, 0, 0, 0), (141, .iand, 1, .null, 0, 0, 0, 0), (142, .ifCond .ne 14, 3, .null, 94, 0, 0, 0), (145, .aload_n 0, 1, .null, 0, 0, 0, 0),
  (146, .aload_n 0, 1, .null, 0, 0, 0, 0), (147, .getfield 252, 3, .null, 11, 21, 12021, 0), (150, .iconst 1, 1, .null, 0, 0, 0, 0), (151, .isub, 1, .null, 0, 0, 0, 0),
  (152, .invokevirtual 274, 3, .null, 0, 237, 13096, 0), (155, .ireturn, 1, .null, 0, 0, 0, 0), (156, .aload_n 0, 1, .null, 0, 0, 0, 0), (157, .getfield 252, 3, .null, 11, 21, 12021, 0),
  (160, .sipush 30000, 3, .null, 0, 0, 0, 0), (163, .if_icmp .le 6, 3, .null, 100, 0, 0, 0), (166, .bipush (-4), 2, .null, 0, 0, 0, 0), (168, .ireturn, 1, .null, 0, 0, 0, 0),
  (169, .iinc 4 1, 3, .null, 0, 0, 0, 0), (172, .goto (-108), 3, .null, 40, 0, 0, 0), (175, .iinc 3 1, 3, .null, 0, 0, 0, 0), (178, .goto (-125), 3, .null, 34, 0, 0, 0),
  (181, .iconst (-1), 1, .null, 0, 0, 0, 0), (182, .ireturn, 1, .null, 0, 0, 0, 0)]
def ar_247 : List ai_R := [(0, .iconst 0, 1, .null, 0, 0, 0, 0), (1, .istore 4, 2, .null, 0, 0, 0, 0), (3, .iload 4, 2, .null, 0, 0, 0, 0), (5, .aload_n 0, 1, .null, 0, 0, 0, 0),
  (6, .getfield 13, 3, .null, 11, 1, 12001, 0), (9, .iconst 1, 1, .null, 0, 0, 0, 0), (10, .iaload, 1, .null, 0, 0, 0, 0), (11, .if_icmp .ge 43, 3, .null, 30, 0, 0, 0),
  (14, .iload 4, 2, .null, 0, 0, 0, 0), (16, .iload_n 3, 1, .null, 0, 0, 0, 0), (17, .if_icmp .eq 31, 3, .null, 28, 0, 0, 0), (20, .aload_n 0, 1, .null, 0, 0, 0, 0),
  (21, .getfield 52, 3, .null, 11, 24, 12024, 0), (24, .bipush 14, 2, .null, 0, 0, 0, 0), (26, .aload_n 0, 1, .null, 0, 0, 0, 0), (27, .iload_n 1, 1, .null, 0, 0, 0, 0),
  (28, .iload 4, 2, .null, 0, 0, 0, 0), (30, .invokevirtual 211, 3, .null, 0, 210, 12230, 0), (33, .imul, 1, .null, 0, 0, 0, 0), (34, .aload_n 0, 1, .null, 0, 0, 0, 0),
  (35, .iload_n 2, 1, .null, 0, 0, 0, 0), (36, .iload 4, 2, .null, 0, 0, 0, 0), (38, .invokevirtual 211, 3, .null, 0, 210, 12230, 0), (41, .iadd, 1, .null, 0, 0, 0, 0),
  (42, .baload, 1, .null, 0, 0, 0, 0), (43, .ifCond .eq 5, 3, .null, 28, 0, 0, 0), (46, .iconst 1, 1, .null, 0, 0, 0, 0), (47, .ireturn, 1, .null, 0, 0, 0, 0),
  (48, .iinc 4 1, 3, .null, 0, 0, 0, 0), (51, .goto (-48), 3, .null, 2, 0, 0, 0), (54, .iconst 0, 1, .null, 0, 0, 0, 0), (55, .ireturn, 1, .null, 0, 0, 0, 0)]
def ar_248 : List ai_R := [(0, .iconst 0, 1, .null, 0, 0, 0, 0), (1, .istore_n 2, 1, .null, 0, 0, 0, 0), (2, .iload_n 2, 1, .null, 0, 0, 0, 0), (3, .aload_n 0, 1, .null, 0, 0, 0, 0),
  (4, .getfield 13, 3, .null, 11, 1, 12001, 0), (7, .iconst 0, 1, .null, 0, 0, 0, 0), (8, .iaload, 1, .null, 0, 0, 0, 0), (9, .if_icmp .ge 48, 3, .null, 34, 0, 0, 0),
  (12, .iconst 0, 1, .null, 0, 0, 0, 0), (13, .istore_n 3, 1, .null, 0, 0, 0, 0), (14, .iload_n 3, 1, .null, 0, 0, 0, 0), (15, .aload_n 0, 1, .null, 0, 0, 0, 0),
  (16, .getfield 13, 3, .null, 11, 1, 12001, 0), (19, .iconst 0, 1, .null, 0, 0, 0, 0), (20, .iaload, 1, .null, 0, 0, 0, 0), (21, .if_icmp .ge 30, 3, .null, 32, 0, 0, 0),
  (24, .aload_n 0, 1, .null, 0, 0, 0, 0), (25, .getfield 52, 3, .null, 11, 24, 12024, 0), (28, .bipush 14, 2, .null, 0, 0, 0, 0), (30, .iload_n 2, 1, .null, 0, 0, 0, 0),
  (31, .imul, 1, .null, 0, 0, 0, 0), (32, .iload_n 3, 1, .null, 0, 0, 0, 0), (33, .iadd, 1, .null, 0, 0, 0, 0), (34, .iload_n 2, 1, .null, 0, 0, 0, 0),
  (35, .iload_n 3, 1, .null, 0, 0, 0, 0), (36, .if_icmp .ne 7, 3, .null, 28, 0, 0, 0), (39, .iconst 1, 1, .null, 0, 0, 0, 0), (40, .goto 4, 3, .null, 29, 0, 0, 0),
  (43, .iconst 0, 1, .null, 0, 0, 0, 0), (44, .bastore, 1, .null, 0, 0, 0, 0), (45, .iinc 3 1, 3, .null, 0, 0, 0, 0), (48, .goto (-34), 3, .null, 10, 0, 0, 0),
  (51, .iinc 2 1, 3, .null, 0, 0, 0, 0), (54, .goto (-52), 3, .null, 2, 0, 0, 0), (57, .iconst 1, 1, .null, 0, 0, 0, 0), (58, .istore_n 2, 1, .null, 0, 0, 0, 0),
  (59, .iload_n 2, 1, .null, 0, 0, 0, 0), (60, .ifCond .eq 90, 3, .null, 88, 0, 0, 0), (63, .iconst 0, 1, .null, 0, 0, 0, 0), (64, .istore_n 2, 1, .null, 0, 0, 0, 0),
  (65, .iconst 0, 1, .null, 0, 0, 0, 0), (66, .istore_n 3, 1, .null, 0, 0, 0, 0), (67, .iload_n 3, 1, .null, 0, 0, 0, 0), (68, .aload_n 0, 1, .null, 0, 0, 0, 0),
  (69, .getfield 13, 3, .null, 11, 1, 12001, 0), (72, .iconst 0, 1, .null, 0, 0, 0, 0), (73, .iaload, 1, .null, 0, 0, 0, 0), (74, .if_icmp .ge 73, 3, .null, 87, 0, 0, 0),
  (77, .iconst 0, 1, .null, 0, 0, 0, 0), (78, .istore 4, 2, .null, 0, 0, 0, 0), (80, .iload 4, 2, .null, 0, 0, 0, 0), (82, .aload_n 0, 1, .null, 0, 0, 0, 0),
  (83, .getfield 13, 3, .null, 11, 1, 12001, 0), (86, .iconst 0, 1, .null, 0, 0, 0, 0), (87, .iaload, 1, .null, 0, 0, 0, 0), (88, .if_icmp .ge 53, 3, .null, 85, 0, 0, 0),
  (91, .aload_n 0, 1, .null, 0, 0, 0, 0), (92, .getfield 52, 3, .null, 11, 24, 12024, 0), (95, .bipush 14, 2, .null, 0, 0, 0, 0), (97, .iload_n 3, 1, .null, 0, 0, 0, 0),
  (98, .imul, 1, .null, 0, 0, 0, 0), (99, .iload 4, 2, .null, 0, 0, 0, 0), (101, .iadd, 1, .null, 0, 0, 0, 0), (102, .baload, 1, .null, 0, 0, 0, 0),
  (103, .ifCond .ne 32, 3, .null, 83, 0, 0, 0), (106, .aload_n 0, 1, .null, 0, 0, 0, 0), (107, .iload_n 3, 1, .null, 0, 0, 0, 0), (108, .iload 4, 2, .null, 0, 0, 0, 0),
  (110, .iload_n 1, 1, .null, 0, 0, 0, 0), (111, .invokevirtual 292, 3, .null, 0, 247, 13148, 0), (114, .ifCond .ne 6, 3, .null, 72, 0, 0, 0), (117, .goto 18, 3, .null, 83, 0, 0, 0),
  (120, .aload_n 0, 1, .null, 0, 0, 0, 0), (121, .getfield 52, 3, .null, 11, 24, 12024, 0), (124, .bipush 14, 2, .null, 0, 0, 0, 0), (126, .iload_n 3, 1, .null, 0, 0, 0, 0),
  (127, .imul, 1, .null, 0, 0, 0, 0), (128, .iload 4, 2, .null, 0, 0, 0, 0), (130, .iadd, 1, .null, 0, 0, 0, 0), (131, .iconst 1, 1, .null, 0, 0, 0, 0),
  (132, .bastore, 1, .null, 0, 0, 0, 0), (133, .iconst 1, 1, .null, 0, 0, 0, 0), (134, .istore_n 2, 1, .null, 0, 0, 0, 0), (135, .iinc 4 1, 3, .null, 0, 0, 0, 0),
  (138, .goto (-58), 3, .null, 50, 0, 0, 0), (141, .iinc 3 1, 3, .null, 0, 0, 0, 0), (144, .goto (-77), 3, .null, 42, 0, 0, 0), (147, .goto (-88), 3, .null, 36, 0, 0, 0),
  (150, .iconst 0, 1, .null, 0, 0, 0, 0), (151, .istore_n 3, 1, .null, 0, 0, 0, 0), (152, .iload_n 3, 1, .null, 0, 0, 0, 0), (153, .aload_n 0, 1, .null, 0, 0, 0, 0),
  (154, .getfield 13, 3, .null, 11, 1, 12001, 0), (157, .iconst 0, 1, .null, 0, 0, 0, 0), (158, .iaload, 1, .null, 0, 0, 0, 0), (159, .if_icmp .ge 46, 3, .null, 119, 0, 0, 0),
  (162, .iconst 0, 1, .null, 0, 0, 0, 0), (163, .istore 4, 2, .null, 0, 0, 0, 0), (165, .iload 4, 2, .null, 0, 0, 0, 0), (167, .aload_n 0, 1, .null, 0, 0, 0, 0),
  (168, .getfield 13, 3, .null, 11, 1, 12001, 0), (171, .iconst 0, 1, .null, 0, 0, 0, 0), (172, .iaload, 1, .null, 0, 0, 0, 0), (173, .if_icmp .ge 26, 3, .null, 117, 0, 0, 0),
  (176, .aload_n 0, 1, .null, 0, 0, 0, 0), (177, .getfield 52, 3, .null, 11, 24, 12024, 0), (180, .bipush 14, 2, .null, 0, 0, 0, 0), (182, .iload_n 3, 1, .null, 0, 0, 0, 0),
  (183, .imul, 1, .null, 0, 0, 0, 0), (184, .iload 4, 2, .null, 0, 0, 0, 0), (186, .iadd, 1, .null, 0, 0, 0, 0), (187, .baload, 1, .null, 0, 0, 0, 0),
  (188, .ifCond .ne 5, 3, .null, 115, 0, 0, 0), (191, .iconst 0, 1, .null, 0, 0, 0, 0), (192, .ireturn, 1, .null, 0, 0, 0, 0), (193, .iinc 4 1, 3, .null, 0, 0, 0, 0),
  (196, .goto (-31), 3, .null, 98, 0, 0, 0), (199, .iinc 3 1, 3, .null, 0, 0, 0, 0), (202, .goto (-50), 3, .null, 90, 0, 0, 0), (205, .iconst 1, 1, .null, 0, 0, 0, 0),
  (206, .aload_n 0, 1, .null, 0, 0, 0, 0), (207, .getfield 13, 3, .null, 11, 1, 12001, 0), (210, .sipush 270, 3, .null, 0, 0, 0, 0), (213, .iaload, 1, .null, 0, 0, 0, 0),
  (214, .ishl, 1, .null, 0, 0, 0, 0), (215, .istore_n 3, 1, .null, 0, 0, 0, 0), (216, .iconst 0, 1, .null, 0, 0, 0, 0), (217, .istore 4, 2, .null, 0, 0, 0, 0),
  (219, .iload 4, 2, .null, 0, 0, 0, 0), (221, .iload_n 3, 1, .null, 0, 0, 0, 0), (222, .if_icmp .eq 83, 3, .null, 175, 0, 0, 0), (225, .iload_n 3, 1, .null, 0, 0, 0, 0),
  (226, .istore 4, 2, .null, 0, 0, 0, 0), (228, .iconst 0, 1, .null, 0, 0, 0, 0), (229, .istore 5, 2, .null, 0, 0, 0, 0), (231, .iload 5, 2, .null, 0, 0, 0, 0),
  (233, .aload_n 0, 1, .null, 0, 0, 0, 0), (234, .getfield 13, 3, .null, 11, 1, 12001, 0), (237, .iconst 0, 1, .null, 0, 0, 0, 0), (238, .iaload, 1, .null, 0, 0, 0, 0),
  (239, .if_icmp .ge 63, 3, .null, 174, 0, 0, 0), (242, .iconst 0, 1, .null, 0, 0, 0, 0), (243, .istore 6, 2, .null, 0, 0, 0, 0), (245, .iload 6, 2, .null, 0, 0, 0, 0),
  (247, .aload_n 0, 1, .null, 0, 0, 0, 0), (248, .getfield 13, 3, .null, 11, 1, 12001, 0), (251, .iconst 1, 1, .null, 0, 0, 0, 0), (252, .iaload, 1, .null, 0, 0, 0, 0),
  (253, .if_icmp .ge 43, 3, .null, 172, 0, 0, 0), (256, .iload_n 3, 1, .null, 0, 0, 0, 0), (257, .iload 6, 2, .null, 0, 0, 0, 0), (259, .iload_n 1, 1, .null, 0, 0, 0, 0),
  (260, .if_icmp .eq 27, 3, .null, 167, 0, 0, 0), (263, .iload 4, 2, .null, 0, 0, 0, 0), (265, .aload_n 0, 1, .null, 0, 0, 0, 0), (266, .iload 5, 2, .null, 0, 0, 0, 0),
  (268, .iload 6, 2, .null, 0, 0, 0, 0), (270, .invokevirtual 211, 3, .null, 0, 210, 12230, 0), (273, .ishr, 1, .null, 0, 0, 0, 0), (274, .iconst 1, 1, .null, 0, 0, 0, 0),
  (275, .iand, 1, .null, 0, 0, 0, 0), (276, .iconst 1, 1, .null, 0, 0, 0, 0), (277, .if_icmp .ne 10, 3, .null, 167, 0, 0, 0), (280, .iconst 1, 1, .null, 0, 0, 0, 0),
  (281, .iload 5, 2, .null, 0, 0, 0, 0), (283, .ishl, 1, .null, 0, 0, 0, 0), (284, .goto 4, 3, .null, 168, 0, 0, 0), (287, .iconst 0, 1, .null, 0, 0, 0, 0),
  (288, .ior, 1, .null, 0, 0, 0, 0), (289, .istore_n 3, 1, .null, 0, 0, 0, 0), (290, .iinc 6 1, 3, .null, 0, 0, 0, 0), (293, .goto (-48), 3, .null, 143, 0, 0, 0),
  (296, .iinc 5 1, 3, .null, 0, 0, 0, 0), (299, .goto (-68), 3, .null, 135, 0, 0, 0), (302, .goto (-83), 3, .null, 128, 0, 0, 0), (305, .iload_n 3, 1, .null, 0, 0, 0, 0),
  (306, .iconst 1, 1, .null, 0, 0, 0, 0), (307, .aload_n 0, 1, .null, 0, 0, 0, 0), (308, .getfield 13, 3, .null, 11, 1, 12001, 0), (311, .iconst 0, 1, .null, 0, 0, 0, 0),
  (312, .iaload, 1, .null, 0, 0, 0, 0), (313, .ishl, 1, .null, 0, 0, 0, 0), (314, .iconst 1, 1, .null, 0, 0, 0, 0), (315, .isub, 1, .null, 0, 0, 0, 0),
  (316, .if_icmp .ne 7, 3, .null, 187, 0, 0, 0), (319, .iconst 1, 1, .null, 0, 0, 0, 0), (320, .goto 4, 3, .null, 188, 0, 0, 0), (323, .iconst 0, 1, .null, 0, 0, 0, 0),
  (324, .ireturn, 1, .null, 0, 0, 0, 0)]
def ar_249 : List ai_R := [(0, .aload_n 0, 1, .null, 0, 0, 0, 0), (1, .iconst 0, 1, .null, 0, 0, 0, 0), (2, .putfield 1, 3, .null, 11, 0, 12000, 0), (5, .aload_n 0, 1, .null, 0, 0, 0, 0),
  (6, .getfield 13, 3, .null, 11, 1, 12001, 0), (9, .iconst 0, 1, .null, 0, 0, 0, 0), (10, .iaload, 1, .null, 0, 0, 0, 0), (11, .ifCond .ne 6, 3, .null, 10, 0, 0, 0),
  (14, .bipush (-5), 2, .null, 0, 0, 0, 0), (16, .ireturn, 1, .null, 0, 0, 0, 0), (17, .iconst 0, 1, .null, 0, 0, 0, 0), (18, .istore_n 1, 1, .null, 0, 0, 0, 0),
  (19, .iconst 0, 1, .null, 0, 0, 0, 0), (20, .istore_n 2, 1, .null, 0, 0, 0, 0), (21, .iload_n 2, 1, .null, 0, 0, 0, 0), (22, .aload_n 0, 1, .null, 0, 0, 0, 0),
  (23, .getfield 13, 3, .null, 11, 1, 12001, 0), (26, .iconst 1, 1, .null, 0, 0, 0, 0), (27, .iaload, 1, .null, 0, 0, 0, 0), (28, .if_icmp .ge 27, 3, .null, 34, 0, 0, 0),
  (31, .iload_n 1, 1, .null, 0, 0, 0, 0), (32, .aload_n 0, 1, .null, 0, 0, 0, 0), (33, .iload_n 2, 1, .null, 0, 0, 0, 0), (34, .invokevirtual 296, 3, .null, 0, 248, 13144, 0),
  (37, .ifCond .eq 9, 3, .null, 29, 0, 0, 0), (40, .iconst 1, 1, .null, 0, 0, 0, 0), (41, .iload_n 2, 1, .null, 0, 0, 0, 0), (42, .ishl, 1, .null, 0, 0, 0, 0),
  (43, .goto 4, 3, .null, 30, 0, 0, 0), (46, .iconst 0, 1, .null, 0, 0, 0, 0), (47, .ior, 1, .null, 0, 0, 0, 0), (48, .istore_n 1, 1, .null, 0, 0, 0, 0),
  (49, .iinc 2 1, 3, .null, 0, 0, 0, 0), (52, .goto (-31), 3, .null, 14, 0, 0, 0), (55, .iload_n 1, 1, .null, 0, 0, 0, 0), (56, .ireturn, 1, .null, 0, 0, 0, 0)]
def ar_250 : List ai_R := [(0, .aload_n 0, 1, .null, 0, 0, 0, 0), (1, .iconst 0, 1, .null, 0, 0, 0, 0), (2, .putfield 1, 3, .null, 11, 0, 12000, 0), (5, .iload_n 1, 1, .null, 0, 0, 0, 0),
  (6, .i2l, 1, .null, 0, 0, 0, 0), (7, .lconst 0, 1, .null, 0, 0, 0, 0), (8, .ldc2_w 217, 3, .long (2), 0, 0, 12229, 0), (11, .invokestatic 164, 3, .null, 1, 181, 12130, 0),
  (14, .ifCond .ne 6, 3, .null, 11, 0, 0, 0), (17, .bipush (-2), 2, .null, 0, 0, 0, 0), (19, .ireturn, 1, .null, 0, 0, 0, 0), (20, .aload_n 0, 1, .null, 0, 0, 0, 0),
  (21, .getfield 13, 3, .null, 11, 1, 12001, 0), (24, .iconst 0, 1, .null, 0, 0, 0, 0), (25, .iaload, 1, .null, 0, 0, 0, 0), (26, .ifCond .eq 11, 3, .null, 20, 0, 0, 0),
  (29, .aload_n 0, 1, .null, 0, 0, 0, 0), (30, .iconst (-1), 1, .null, 0, 0, 0, 0), (31, .invokevirtual 296, 3, .null, 0, 248, 13144, 0), (34, .ifCond .eq 6, 3, .null, 22, 0, 0, 0),
  (37, .bipush (-5), 2, .null, 0, 0, 0, 0), (39, .ireturn, 1, .null, 0, 0, 0, 0), (40, .iconst 0, 1, .null, 0, 0, 0, 0), (41, .istore_n 2, 1, .null, 0, 0, 0, 0),
  (42, .iload_n 2, 1, .null, 0, 0, 0, 0), (43, .aload_n 0, 1, .null, 0, 0, 0, 0), (44, .getfield 13, 3, .null, 11, 1, 12001, 0), (47, .iconst 0, 1, .null, 0, 0, 0, 0),
  (48, .iaload, 1, .null, 0, 0, 0, 0), (49, .if_icmp .ge 125, 3, .null, 96, 0, 0, 0), (52, .iconst 0, 1, .null, 0, 0, 0, 0), (53, .istore_n 3, 1, .null, 0, 0, 0, 0),
  (54, .iload_n 3, 1, .null, 0, 0, 0, 0), (55, .aload_n 0, 1, .null, 0, 0, 0, 0), (56, .getfield 13, 3, .null, 11, 1, 12001, 0), (59, .iconst 1, 1, .null, 0, 0, 0, 0),
  (60, .iaload, 1, .null, 0, 0, 0, 0), (61, .if_icmp .ge 107, 3, .null, 94, 0, 0, 0), (64, .aload_n 0, 1, .null, 0, 0, 0, 0), (65, .iload_n 2, 1, .null, 0, 0, 0, 0),
  (66, .iload_n 3, 1, .null, 0, 0, 0, 0), (67, .invokevirtual 211, 3, .null, 0, 210, 12230, 0), (70, .istore 4, 2, .null, 0, 0, 0, 0), (72, .iconst 0, 1, .null, 0, 0, 0, 0),
  (73, .istore 5, 2, .null, 0, 0, 0, 0), (75, .iload 5, 2, .null, 0, 0, 0, 0), (77, .aload_n 0, 1, .null, 0, 0, 0, 0), (78, .getfield 13, 3, .null, 11, 1, 12001, 0),
  (81, .iconst 0, 1, .null, 0, 0, 0, 0), (82, .iaload, 1, .null, 0, 0, 0, 0), (83, .if_icmp .ge 79, 3, .null, 92, 0, 0, 0), (86, .iload 5, 2, .null, 0, 0, 0, 0),
  (88, .iload 4, 2, .null, 0, 0, 0, 0), (90, .if_icmp .ne 6, 3, .null, 55, 0, 0, 0), (93, .goto 63, 3, .null, 90, 0, 0, 0), (96, .aload_n 0, 1, .null, 0, 0, 0, 0),
  (97, .getfield 13, 3, .null, 11, 1, 12001, 0), (100, .iconst 2, 1, .null, 0, 0, 0, 0), (101, .iload_n 2, 1, .null, 0, 0, 0, 0), (102, .iload_n 3, 1, .null, 0, 0, 0, 0),
  (103, .invokestatic 172, 3, .null, 1, 196, 12178, 0), (106, .iadd, 1, .null, 0, 0, 0, 0), (107, .iload 5, 2, .null, 0, 0, 0, 0), (109, .iastore, 1, .null, 0, 0, 0, 0),
  (110, .aload_n 0, 1, .null, 0, 0, 0, 0), (111, .iconst (-1), 1, .null, 0, 0, 0, 0), (112, .invokevirtual 296, 3, .null, 0, 248, 13144, 0), (115, .istore 6, 2, .null, 0, 0, 0, 0),
  (117, .aload_n 0, 1, .null, 0, 0, 0, 0), (118, .getfield 13, 3, .null, 11, 1, 12001, 0), (121, .iconst 2, 1, .null, 0, 0, 0, 0), (122, .iload_n 2, 1, .null, 0, 0, 0, 0),
  (123, .iload_n 3, 1, .null, 0, 0, 0, 0), (124, .invokestatic 172, 3, .null, 1, 196, 12178, 0), (127, .iadd, 1, .null, 0, 0, 0, 0), (128, .iload 4, 2, .null, 0, 0, 0, 0),
  (130, .iastore, 1, .null, 0, 0, 0, 0), (131, .iload 6, 2, .null, 0, 0, 0, 0), (133, .ifCond .eq 23, 3, .null, 90, 0, 0, 0), (136, .iload_n 1, 1, .null, 0, 0, 0, 0),
  (137, .ifCond .ne 7, 3, .null, 83, 0, 0, 0), (140, .iload_n 2, 1, .null, 0, 0, 0, 0), (141, .goto 14, 3, .null, 89, 0, 0, 0), (144, .iload_n 1, 1, .null, 0, 0, 0, 0),
  (145, .iconst 1, 1, .null, 0, 0, 0, 0), (146, .if_icmp .ne 7, 3, .null, 88, 0, 0, 0), (149, .iload_n 3, 1, .null, 0, 0, 0, 0), (150, .goto 5, 3, .null, 89, 0, 0, 0),
  (153, .iload 5, 2, .null, 0, 0, 0, 0), (155, .ireturn, 1, .null, 0, 0, 0, 0), (156, .iinc 5 1, 3, .null, 0, 0, 0, 0), (159, .goto (-84), 3, .null, 45, 0, 0, 0),
  (162, .iinc 3 1, 3, .null, 0, 0, 0, 0), (165, .goto (-111), 3, .null, 32, 0, 0, 0), (168, .iinc 2 1, 3, .null, 0, 0, 0, 0), (171, .goto (-129), 3, .null, 24, 0, 0, 0),
  (174, .iconst (-1), 1, .null, 0, 0, 0, 0), (175, .ireturn, 1, .null, 0, 0, 0, 0)]
def ar_251 : List ai_R := [(0, .aload_n 0, 1, .null, 0, 0, 0, 0), (1, .iconst 0, 1, .null, 0, 0, 0, 0), (2, .putfield 1, 3, .null, 11, 0, 12000, 0), (5, .iload_n 1, 1, .null, 0, 0, 0, 0),
  (6, .i2l, 1, .null, 0, 0, 0, 0), (7, .lconst 0, 1, .null, 0, 0, 0, 0), (8, .ldc2_w 225, 3, .long (3), 0, 0, 13018, 0), (11, .invokestatic 164, 3, .null, 1, 181, 12130, 0),
  (14, .ifCond .eq 11, 3, .null, 13, 0, 0, 0), (17, .aload_n 0, 1, .null, 0, 0, 0, 0), (18, .iload_n 2, 1, .null, 0, 0, 0, 0), (19, .invokevirtual 214, 3, .null, 0, 207, 12225, 0),
  (22, .ifCond .ne 6, 3, .null, 15, 0, 0, 0), (25, .bipush (-2), 2, .null, 0, 0, 0, 0), (27, .ireturn, 1, .null, 0, 0, 0, 0), (28, .aload_n 0, 1, .null, 0, 0, 0, 0),
  (29, .iload_n 1, 1, .null, 0, 0, 0, 0), (30, .invokevirtual 233, 3, .null, 0, 221, 13027, 0), (33, .istore_n 3, 1, .null, 0, 0, 0, 0), (34, .iload_n 3, 1, .null, 0, 0, 0, 0),
  (35, .ifCond .eq 5, 3, .null, 23, 0, 0, 0), (38, .iload_n 3, 1, .null, 0, 0, 0, 0), (39, .ireturn, 1, .null, 0, 0, 0, 0), (40, .iconst 0, 1, .null, 0, 0, 0, 0),
  (41, .istore 4, 2, .null, 0, 0, 0, 0), (43, .iconst 0, 1, .null, 0, 0, 0, 0), (44, .istore 5, 2, .null, 0, 0, 0, 0), (46, .iload 5, 2, .null, 0, 0, 0, 0),
  (48, .aload_n 0, 1, .null, 0, 0, 0, 0), (49, .getfield 13, 3, .null, 11, 1, 12001, 0), (52, .iconst 0, 1, .null, 0, 0, 0, 0), (53, .iaload, 1, .null, 0, 0, 0, 0),
  (54, .if_icmp .ge 50, 3, .null, 60, 0, 0, 0), (57, .iload 4, 2, .null, 0, 0, 0, 0), (59, .aload_n 0, 1, .null, 0, 0, 0, 0), (60, .iload_n 1, 1, .null, 0, 0, 0, 0),
  (61, .iload 5, 2, .null, 0, 0, 0, 0), (63, .aload_n 0, 1, .null, 0, 0, 0, 0), (64, .getfield 95, 3, .null, 11, 38, 12038, 0), (67, .iload_n 1, 1, .null, 0, 0, 0, 0),
  (68, .iaload, 1, .null, 0, 0, 0, 0), (69, .invokevirtual 236, 3, .null, 0, 223, 13031, 0), (72, .aload_n 0, 1, .null, 0, 0, 0, 0), (73, .iload_n 1, 1, .null, 0, 0, 0, 0),
  (74, .iload_n 2, 1, .null, 0, 0, 0, 0), (75, .aload_n 0, 1, .null, 0, 0, 0, 0), (76, .getfield 95, 3, .null, 11, 38, 12038, 0), (79, .iload_n 1, 1, .null, 0, 0, 0, 0),
  (80, .iaload, 1, .null, 0, 0, 0, 0), (81, .invokevirtual 236, 3, .null, 0, 223, 13031, 0), (84, .if_icmp .ne 10, 3, .null, 55, 0, 0, 0), (87, .iconst 1, 1, .null, 0, 0, 0, 0),
  (88, .iload 5, 2, .null, 0, 0, 0, 0), (90, .ishl, 1, .null, 0, 0, 0, 0), (91, .goto 4, 3, .null, 56, 0, 0, 0), (94, .iconst 0, 1, .null, 0, 0, 0, 0),
  (95, .ior, 1, .null, 0, 0, 0, 0), (96, .istore 4, 2, .null, 0, 0, 0, 0), (98, .iinc 5 1, 3, .null, 0, 0, 0, 0), (101, .goto (-55), 3, .null, 27, 0, 0, 0),
  (104, .iload 4, 2, .null, 0, 0, 0, 0), (106, .ireturn, 1, .null, 0, 0, 0, 0)]
def ar_252 : List ai_R := [(0, .aload_n 0, 1, .null, 0, 0, 0, 0), (1, .iconst 0, 1, .null, 0, 0, 0, 0), (2, .putfield 1, 3, .null, 11, 0, 12000, 0), (5, .aload_n 0, 1, .null, 0, 0, 0, 0),
  (6, .getfield 13, 3, .null, 11, 1, 12001, 0), (9, .iconst 0, 1, .null, 0, 0, 0, 0), (10, .iaload, 1, .null, 0, 0, 0, 0), (11, .ifCond .ne 6, 3, .null, 10, 0, 0, 0),
  (14, .bipush (-5), 2, .null, 0, 0, 0, 0), (16, .ireturn, 1, .null, 0, 0, 0, 0), (17, .iload_n 1, 1, .null, 0, 0, 0, 0), (18, .i2l, 1, .null, 0, 0, 0, 0),
  (19, .lconst 0, 1, .null, 0, 0, 0, 0), (20, .ldc2_w 299, 3, .long (12), 0, 0, 13164, 0), (23, .invokestatic 164, 3, .null, 1, 181, 12130, 0), (26, .ifCond .ne 6, 3, .null, 18, 0, 0, 0),
  (29, .bipush (-3), 2, .null, 0, 0, 0, 0), (31, .ireturn, 1, .null, 0, 0, 0, 0), (32, .iconst 1, 1, .null, 0, 0, 0, 0), (33, .aload_n 0, 1, .null, 0, 0, 0, 0),
  (34, .getfield 13, 3, .null, 11, 1, 12001, 0), (37, .iconst 0, 1, .null, 0, 0, 0, 0), (38, .iaload, 1, .null, 0, 0, 0, 0), (39, .ishl, 1, .null, 0, 0, 0, 0),
  (40, .istore_n 2, 1, .null, 0, 0, 0, 0), (41, .iconst 0, 1, .null, 0, 0, 0, 0), (42, .istore_n 3, 1, .null, 0, 0, 0, 0), (43, .iload_n 3, 1, .null, 0, 0, 0, 0),
  (44, .iload_n 2, 1, .null, 0, 0, 0, 0), (45, .if_icmp .ge 27, 3, .null, 44, 0, 0, 0), (48, .aload_n 0, 1, .null, 0, 0, 0, 0), (49, .getfield 55, 3, .null, 11, 25, 12025, 0),
  (52, .iload_n 3, 1, .null, 0, 0, 0, 0), (53, .iload_n 3, 1, .null, 0, 0, 0, 0), (54, .iload_n 2, 1, .null, 0, 0, 0, 0), (55, .iconst 1, 1, .null, 0, 0, 0, 0),
  (56, .isub, 1, .null, 0, 0, 0, 0), (57, .if_icmp .ne 7, 3, .null, 40, 0, 0, 0), (60, .lconst 1, 1, .null, 0, 0, 0, 0), (61, .goto 4, 3, .null, 41, 0, 0, 0),
  (64, .lconst 0, 1, .null, 0, 0, 0, 0), (65, .lastore, 1, .null, 0, 0, 0, 0), (66, .iinc 3 1, 3, .null, 0, 0, 0, 0), (69, .goto (-26), 3, .null, 27, 0, 0, 0),
  (72, .iconst 0, 1, .null, 0, 0, 0, 0), (73, .istore_n 3, 1, .null, 0, 0, 0, 0), (74, .iload_n 3, 1, .null, 0, 0, 0, 0), (75, .iload_n 1, 1, .null, 0, 0, 0, 0),
  (76, .if_icmp .ge 147, 3, .null, 123, 0, 0, 0), (79, .iconst 0, 1, .null, 0, 0, 0, 0), (80, .istore 4, 2, .null, 0, 0, 0, 0), (82, .iload 4, 2, .null, 0, 0, 0, 0),
  (84, .iload_n 2, 1, .null, 0, 0, 0, 0), (85, .if_icmp .ge 17, 3, .null, 61, 0, 0, 0), (88, .aload_n 0, 1, .null, 0, 0, 0, 0), (89, .getfield 59, 3, .null, 11, 26, 12026, 0),
  (92, .iload 4, 2, .null, 0, 0, 0, 0), (94, .lconst 0, 1, .null, 0, 0, 0, 0), (95, .lastore, 1, .null, 0, 0, 0, 0), (96, .iinc 4 1, 3, .null, 0, 0, 0, 0),
  (99, .goto (-17), 3, .null, 51, 0, 0, 0), (102, .iconst 0, 1, .null, 0, 0, 0, 0), (103, .istore 4, 2, .null, 0, 0, 0, 0), (105, .iload 4, 2, .null, 0, 0, 0, 0),
  (107, .iload_n 2, 1, .null, 0, 0, 0, 0), (108, .if_icmp .ge 80, 3, .null, 106, 0, 0, 0), (111, .aload_n 0, 1, .null, 0, 0, 0, 0), (112, .getfield 55, 3, .null, 11, 25, 12025, 0),
  (115, .iload 4, 2, .null, 0, 0, 0, 0), (117, .laload, 1, .null, 0, 0, 0, 0), (118, .lconst 0, 1, .null, 0, 0, 0, 0), (119, .lcmp, 1, .null, 0, 0, 0, 0),
  (120, .ifCond .ne 6, 3, .null, 74, 0, 0, 0), (123, .goto 59, 3, .null, 104, 0, 0, 0), (126, .iconst 0, 1, .null, 0, 0, 0, 0), (127, .istore 5, 2, .null, 0, 0, 0, 0),
  (129, .iload 5, 2, .null, 0, 0, 0, 0), (131, .aload_n 0, 1, .null, 0, 0, 0, 0), (132, .getfield 13, 3, .null, 11, 1, 12001, 0), (135, .iconst 1, 1, .null, 0, 0, 0, 0),
  (136, .iaload, 1, .null, 0, 0, 0, 0), (137, .if_icmp .ge 45, 3, .null, 104, 0, 0, 0), (140, .aload_n 0, 1, .null, 0, 0, 0, 0), (141, .iload 4, 2, .null, 0, 0, 0, 0),
  (143, .iload 5, 2, .null, 0, 0, 0, 0), (145, .invokevirtual 222, 3, .null, 0, 211, 13010, 0), (148, .istore 6, 2, .null, 0, 0, 0, 0), (150, .aload_n 0, 1, .null, 0, 0, 0, 0),
  (151, .getfield 59, 3, .null, 11, 26, 12026, 0), (154, .iload 6, 2, .null, 0, 0, 0, 0), (156, .aload_n 0, 1, .null, 0, 0, 0, 0), (157, .getfield 59, 3, .null, 11, 26, 12026, 0),
  (160, .iload 6, 2, .null, 0, 0, 0, 0), (162, .laload, 1, .null, 0, 0, 0, 0), (163, .aload_n 0, 1, .null, 0, 0, 0, 0), (164, .getfield 55, 3, .null, 11, 25, 12025, 0),
  (167, .iload 4, 2, .null, 0, 0, 0, 0), (169, .laload, 1, .null, 0, 0, 0, 0), (170, .ladd, 1, .null, 0, 0, 0, 0), (171, .ldc2_w 301, 3, .long (1000000007), 0, 0, 13165, 0),
  (174, .lrem, 1, .null, 0, 0, 0, 0), (175, .lastore, 1, .null, 0, 0, 0, 0), (176, .iinc 5 1, 3, .null, 0, 0, 0, 0), (179, .goto (-50), 3, .null, 76, 0, 0, 0),
  (182, .iinc 4 1, 3, .null, 0, 0, 0, 0), (185, .goto (-80), 3, .null, 63, 0, 0, 0), (188, .iconst 0, 1, .null, 0, 0, 0, 0), (189, .istore 4, 2, .null, 0, 0, 0, 0),
  (191, .iload 4, 2, .null, 0, 0, 0, 0), (193, .iload_n 2, 1, .null, 0, 0, 0, 0), (194, .if_icmp .ge 23, 3, .null, 121, 0, 0, 0), (197, .aload_n 0, 1, .null, 0, 0, 0, 0),
  (198, .getfield 55, 3, .null, 11, 25, 12025, 0), (201, .iload 4, 2, .null, 0, 0, 0, 0), (203, .aload_n 0, 1, .null, 0, 0, 0, 0), (204, .getfield 59, 3, .null, 11, 26, 12026, 0),
  (207, .iload 4, 2, .null, 0, 0, 0, 0), (209, .laload, 1, .null, 0, 0, 0, 0), (210, .lastore, 1, .null, 0, 0, 0, 0), (211, .iinc 4 1, 3, .null, 0, 0, 0, 0),
  (214, .goto (-23), 3, .null, 108, 0, 0, 0), (217, .iinc 3 1, 3, .null, 0, 0, 0, 0), (220, .goto (-146), 3, .null, 46, 0, 0, 0), (223, .lconst 0, 1, .null, 0, 0, 0, 0),
  (224, .lstore_n 3, 1, .null, 0, 0, 0, 0), (225, .iconst 1, 1, .null, 0, 0, 0, 0), (226, .istore 5, 2, .null, 0, 0, 0, 0), (228, .iload 5, 2, .null, 0, 0, 0, 0),
  (230, .iload_n 2, 1, .null, 0, 0, 0, 0), (231, .if_icmp .ge 32, 3, .null, 145, 0, 0, 0), (234, .lload_n 3, 1, .null, 0, 0, 0, 0), (235, .iload 5, 2, .null, 0, 0, 0, 0),
  (237, .invokestatic 257, 3, .null, 1, 213, 13093, 0), (240, .iconst 1, 1, .null, 0, 0, 0, 0), (241, .if_icmp .ne 13, 3, .null, 140, 0, 0, 0), (244, .aload_n 0, 1, .null, 0, 0, 0, 0),
  (245, .getfield 55, 3, .null, 11, 25, 12025, 0), (248, .iload 5, 2, .null, 0, 0, 0, 0), (250, .laload, 1, .null, 0, 0, 0, 0), (251, .goto 4, 3, .null, 141, 0, 0, 0),
  (254, .lconst 0, 1, .null, 0, 0, 0, 0), (255, .ladd, 1, .null, 0, 0, 0, 0), (256, .lstore_n 3, 1, .null, 0, 0, 0, 0), (257, .iinc 5 1, 3, .null, 0, 0, 0, 0),
  (260, .goto (-32), 3, .null, 127, 0, 0, 0), (263, .lload_n 3, 1, .null, 0, 0, 0, 0), (264, .ldc2_w 301, 3, .long (1000000007), 0, 0, 13165, 0), (267, .lrem, 1, .null, 0, 0, 0, 0),
  (268, .l2i, 1, .null, 0, 0, 0, 0), (269, .ireturn, 1, .null, 0, 0, 0, 0)]
def ar_253 : List ai_R := [(0, .iconst 0, 1, .null, 0, 0, 0, 0), (1, .istore_n 1, 1, .null, 0, 0, 0, 0), (2, .iload_n 1, 1, .null, 0, 0, 0, 0), (3, .aload_n 0, 1, .null, 0, 0, 0, 0),
  (4, .getfield 13, 3, .null, 11, 1, 12001, 0), (7, .iconst 0, 1, .null, 0, 0, 0, 0), (8, .iaload, 1, .null, 0, 0, 0, 0), (9, .if_icmp .ge 32, 3, .null, 25, 0, 0, 0),
  (12, .aload_n 0, 1, .null, 0, 0, 0, 0), (13, .getfield 62, 3, .null, 11, 27, 12027, 0), (16, .iload_n 1, 1, .null, 0, 0, 0, 0), (17, .iload_n 1, 1, .null, 0, 0, 0, 0),
  (18, .iastore, 1, .null, 0, 0, 0, 0), (19, .aload_n 0, 1, .null, 0, 0, 0, 0), (20, .getfield 65, 3, .null, 11, 28, 12028, 0), (23, .iload_n 1, 1, .null, 0, 0, 0, 0),
  (24, .aload_n 0, 1, .null, 0, 0, 0, 0), (25, .getfield 13, 3, .null, 11, 1, 12001, 0), (28, .sipush 254, 3, .null, 0, 0, 0, 0), (31, .iload_n 1, 1, .null, 0, 0, 0, 0),
  (32, .iadd, 1, .null, 0, 0, 0, 0), (33, .iaload, 1, .null, 0, 0, 0, 0), (34, .iastore, 1, .null, 0, 0, 0, 0), (35, .iinc 1 1, 3, .null, 0, 0, 0, 0),
  (38, .goto (-36), 3, .null, 2, 0, 0, 0), (41, .aload_n 0, 1, .null, 0, 0, 0, 0), (42, .invokevirtual 303, 3, .null, 0, 254, 13174, 0), (45, .return_, 1, .null, 0, 0, 0, 0)]
def ar_254 : List ai_R := [(0, .aload_n 0, 1, .null, 0, 0, 0, 0), (1, .getfield 68, 3, .null, 11, 29, 12029, 0), (4, .astore_n 1, 1, .null, 0, 0, 0, 0), (5, .iconst 0, 1, .null, 0, 0, 0, 0),
  (6, .istore_n 2, 1, .null, 0, 0, 0, 0), (7, .iload_n 2, 1, .null, 0, 0, 0, 0), (8, .aload_n 0, 1, .null, 0, 0, 0, 0), (9, .getfield 13, 3, .null, 11, 1, 12001, 0),
  (12, .iconst 0, 1, .null, 0, 0, 0, 0), (13, .iaload, 1, .null, 0, 0, 0, 0), (14, .if_icmp .ge 18, 3, .null, 20, 0, 0, 0), (17, .aload_n 1, 1, .null, 0, 0, 0, 0),
  (18, .iload_n 2, 1, .null, 0, 0, 0, 0), (19, .aload_n 0, 1, .null, 0, 0, 0, 0), (20, .getfield 65, 3, .null, 11, 28, 12028, 0), (23, .iload_n 2, 1, .null, 0, 0, 0, 0),
  (24, .iaload, 1, .null, 0, 0, 0, 0), (25, .iastore, 1, .null, 0, 0, 0, 0), (26, .iinc 2 1, 3, .null, 0, 0, 0, 0), (29, .goto (-22), 3, .null, 5, 0, 0, 0),
  (32, .iconst 0, 1, .null, 0, 0, 0, 0), (33, .istore_n 2, 1, .null, 0, 0, 0, 0), (34, .iload_n 2, 1, .null, 0, 0, 0, 0), (35, .aload_n 0, 1, .null, 0, 0, 0, 0),
  (36, .getfield 13, 3, .null, 11, 1, 12001, 0), (39, .iconst 0, 1, .null, 0, 0, 0, 0), (40, .iaload, 1, .null, 0, 0, 0, 0), (41, .if_icmp .ge 33, 3, .null, 46, 0, 0, 0),
  (44, .iconst 0, 1, .null, 0, 0, 0, 0), (45, .istore_n 3, 1, .null, 0, 0, 0, 0), (46, .aload_n 1, 1, .null, 0, 0, 0, 0), (47, .iload_n 3, 1, .null, 0, 0, 0, 0),
  (48, .iaload, 1, .null, 0, 0, 0, 0), (49, .aload_n 1, 1, .null, 0, 0, 0, 0), (50, .iload_n 2, 1, .null, 0, 0, 0, 0), (51, .iaload, 1, .null, 0, 0, 0, 0),
  (52, .if_icmp .eq 9, 3, .null, 39, 0, 0, 0), (55, .iinc 3 1, 3, .null, 0, 0, 0, 0), (58, .goto (-12), 3, .null, 30, 0, 0, 0), (61, .aload_n 0, 1, .null, 0, 0, 0, 0),
  (62, .getfield 65, 3, .null, 11, 28, 12028, 0), (65, .iload_n 2, 1, .null, 0, 0, 0, 0), (66, .iload_n 3, 1, .null, 0, 0, 0, 0), (67, .iastore, 1, .null, 0, 0, 0, 0),
  (68, .iinc 2 1, 3, .null, 0, 0, 0, 0), (71, .goto (-37), 3, .null, 22, 0, 0, 0), (74, .return_, 1, .null, 0, 0, 0, 0)]
def ar_255 : List ai_R := [(0, .iconst 0, 1, .null, 0, 0, 0, 0), (1, .istore_n 2, 1, .null, 0, 0, 0, 0), (2, .iload_n 2, 1, .null, 0, 0, 0, 0), (3, .aload_n 0, 1, .null, 0, 0, 0, 0),
  (4, .getfield 13, 3, .null, 11, 1, 12001, 0), (7, .iconst 0, 1, .null, 0, 0, 0, 0), (8, .iaload, 1, .null, 0, 0, 0, 0), (9, .if_icmp .ge 57, 3, .null, 41, 0, 0, 0),
  (12, .aload_n 0, 1, .null, 0, 0, 0, 0), (13, .getfield 62, 3, .null, 11, 27, 12027, 0), (16, .iload_n 2, 1, .null, 0, 0, 0, 0), (17, .aload_n 0, 1, .null, 0, 0, 0, 0),
  (18, .aload_n 0, 1, .null, 0, 0, 0, 0), (19, .getfield 62, 3, .null, 11, 27, 12027, 0), (22, .iload_n 2, 1, .null, 0, 0, 0, 0), (23, .iaload, 1, .null, 0, 0, 0, 0),
  (24, .iload_n 1, 1, .null, 0, 0, 0, 0), (25, .invokevirtual 211, 3, .null, 0, 210, 12230, 0), (28, .iastore, 1, .null, 0, 0, 0, 0), (29, .aload_n 0, 1, .null, 0, 0, 0, 0),
  (30, .getfield 65, 3, .null, 11, 28, 12028, 0), (33, .iload_n 2, 1, .null, 0, 0, 0, 0), (34, .bipush 10, 2, .null, 0, 0, 0, 0), (36, .aload_n 0, 1, .null, 0, 0, 0, 0),
  (37, .getfield 65, 3, .null, 11, 28, 12028, 0), (40, .iload_n 2, 1, .null, 0, 0, 0, 0), (41, .iaload, 1, .null, 0, 0, 0, 0), (42, .imul, 1, .null, 0, 0, 0, 0),
  (43, .aload_n 0, 1, .null, 0, 0, 0, 0), (44, .getfield 13, 3, .null, 11, 1, 12001, 0), (47, .sipush 254, 3, .null, 0, 0, 0, 0), (50, .aload_n 0, 1, .null, 0, 0, 0, 0),
  (51, .getfield 62, 3, .null, 11, 27, 12027, 0), (54, .iload_n 2, 1, .null, 0, 0, 0, 0), (55, .iaload, 1, .null, 0, 0, 0, 0), (56, .iadd, 1, .null, 0, 0, 0, 0),
  (57, .iaload, 1, .null, 0, 0, 0, 0), (58, .iadd, 1, .null, 0, 0, 0, 0), (59, .iastore, 1, .null, 0, 0, 0, 0), (60, .iinc 2 1, 3, .null, 0, 0, 0, 0),
  (63, .goto (-61), 3, .null, 2, 0, 0, 0), (66, .aload_n 0, 1, .null, 0, 0, 0, 0), (67, .invokevirtual 303, 3, .null, 0, 254, 13174, 0), (70, .return_, 1, .null, 0, 0, 0, 0)]
def ar_256 : List ai_R := [(0, .iconst 0, 1, .null, 0, 0, 0, 0), (1, .istore_n 3, 1, .null, 0, 0, 0, 0), (2, .iconst 0, 1, .null, 0, 0, 0, 0), (3, .istore 4, 2, .null, 0, 0, 0, 0),
  (5, .iload 4, 2, .null, 0, 0, 0, 0), (7, .aload_n 0, 1, .null, 0, 0, 0, 0), (8, .getfield 13, 3, .null, 11, 1, 12001, 0), (11, .iconst 0, 1, .null, 0, 0, 0, 0),
  (12, .iaload, 1, .null, 0, 0, 0, 0), (13, .if_icmp .ge 124, 3, .null, 75, 0, 0, 0), (16, .iload_n 1, 1, .null, 0, 0, 0, 0), (17, .iload 4, 2, .null, 0, 0, 0, 0),
  (19, .ishr, 1, .null, 0, 0, 0, 0), (20, .iconst 1, 1, .null, 0, 0, 0, 0), (21, .iand, 1, .null, 0, 0, 0, 0), (22, .ifCond .ne 6, 3, .null, 17, 0, 0, 0),
  (25, .goto 106, 3, .null, 73, 0, 0, 0), (28, .iconst 0, 1, .null, 0, 0, 0, 0), (29, .istore 5, 2, .null, 0, 0, 0, 0), (31, .iconst 0, 1, .null, 0, 0, 0, 0),
  (32, .istore 6, 2, .null, 0, 0, 0, 0), (34, .iload 6, 2, .null, 0, 0, 0, 0), (36, .aload_n 0, 1, .null, 0, 0, 0, 0), (37, .getfield 13, 3, .null, 11, 1, 12001, 0),
  (40, .iconst 0, 1, .null, 0, 0, 0, 0), (41, .iaload, 1, .null, 0, 0, 0, 0), (42, .if_icmp .ge 76, 3, .null, 65, 0, 0, 0), (45, .iload 5, 2, .null, 0, 0, 0, 0),
  (47, .ifCond .ne 58, 3, .null, 59, 0, 0, 0), (50, .iload 4, 2, .null, 0, 0, 0, 0), (52, .iload 6, 2, .null, 0, 0, 0, 0), (54, .if_icmp .eq 55, 3, .null, 61, 0, 0, 0),
  (57, .iload_n 1, 1, .null, 0, 0, 0, 0), (58, .iload 6, 2, .null, 0, 0, 0, 0), (60, .ishr, 1, .null, 0, 0, 0, 0), (61, .iconst 1, 1, .null, 0, 0, 0, 0),
  (62, .iand, 1, .null, 0, 0, 0, 0), (63, .iconst 1, 1, .null, 0, 0, 0, 0), (64, .if_icmp .ne 45, 3, .null, 61, 0, 0, 0), (67, .aload_n 0, 1, .null, 0, 0, 0, 0),
  (68, .getfield 65, 3, .null, 11, 28, 12028, 0), (71, .iload 4, 2, .null, 0, 0, 0, 0), (73, .iaload, 1, .null, 0, 0, 0, 0), (74, .aload_n 0, 1, .null, 0, 0, 0, 0),
  (75, .getfield 65, 3, .null, 11, 28, 12028, 0), (78, .iload 6, 2, .null, 0, 0, 0, 0), (80, .iaload, 1, .null, 0, 0, 0, 0), (81, .if_icmp .ne 28, 3, .null, 61, 0, 0, 0),
  (84, .iload_n 2, 1, .null, 0, 0, 0, 0), (85, .ifCond .eq 20, 3, .null, 59, 0, 0, 0), (88, .aload_n 0, 1, .null, 0, 0, 0, 0), (89, .getfield 62, 3, .null, 11, 27, 12027, 0),
  (92, .iload 4, 2, .null, 0, 0, 0, 0), (94, .iaload, 1, .null, 0, 0, 0, 0), (95, .aload_n 0, 1, .null, 0, 0, 0, 0), (96, .getfield 62, 3, .null, 11, 27, 12027, 0),
  (99, .iload 6, 2, .null, 0, 0, 0, 0), (101, .iaload, 1, .null, 0, 0, 0, 0), (102, .if_icmp .eq 7, 3, .null, 61, 0, 0, 0), (105, .iconst 1, 1, .null, 0, 0, 0, 0),
  (106, .goto 4, 3, .null, 62, 0, 0, 0), (109, .iconst 0, 1, .null, 0, 0, 0, 0), (110, .istore 5, 2, .null, 0, 0, 0, 0), (112, .iinc 6 1, 3, .null, 0, 0, 0, 0),
  (115, .goto (-81), 3, .null, 21, 0, 0, 0), (118, .iload_n 3, 1, .null, 0, 0, 0, 0), (119, .iload 5, 2, .null, 0, 0, 0, 0), (121, .ifCond .eq 7, 3, .null, 70, 0, 0, 0),
  (124, .iconst 1, 1, .null, 0, 0, 0, 0), (125, .goto 4, 3, .null, 71, 0, 0, 0), (128, .iconst 0, 1, .null, 0, 0, 0, 0), (129, .iadd, 1, .null, 0, 0, 0, 0),
  (130, .istore_n 3, 1, .null, 0, 0, 0, 0), (131, .iinc 4 1, 3, .null, 0, 0, 0, 0), (134, .goto (-129), 3, .null, 4, 0, 0, 0), (137, .iload_n 3, 1, .null, 0, 0, 0, 0),
  (138, .ireturn, 1, .null, 0, 0, 0, 0)]
def ar_257 : List ai_R := [(0, .aload_n 0, 1, .null, 0, 0, 0, 0), (1, .iconst 0, 1, .null, 0, 0, 0, 0), (2, .putfield 1, 3, .null, 11, 0, 12000, 0), (5, .iload_n 1, 1, .null, 0, 0, 0, 0),
  (6, .i2l, 1, .null, 0, 0, 0, 0), (7, .lconst 0, 1, .null, 0, 0, 0, 0), (8, .ldc2_w 225, 3, .long (3), 0, 0, 13018, 0), (11, .invokestatic 164, 3, .null, 1, 181, 12130, 0),
  (14, .ifCond .ne 6, 3, .null, 11, 0, 0, 0), (17, .bipush (-2), 2, .null, 0, 0, 0, 0), (19, .ireturn, 1, .null, 0, 0, 0, 0), (20, .aload_n 0, 1, .null, 0, 0, 0, 0),
  (21, .iload_n 1, 1, .null, 0, 0, 0, 0), (22, .invokevirtual 233, 3, .null, 0, 221, 13027, 0), (25, .istore 4, 2, .null, 0, 0, 0, 0), (27, .iload 4, 2, .null, 0, 0, 0, 0),
  (29, .ifCond .eq 6, 3, .null, 19, 0, 0, 0), (32, .iload 4, 2, .null, 0, 0, 0, 0), (34, .ireturn, 1, .null, 0, 0, 0, 0), (35, .aload_n 0, 1, .null, 0, 0, 0, 0),
  (36, .iload_n 2, 1, .null, 0, 0, 0, 0), (37, .invokevirtual 246, 3, .null, 0, 208, 13063, 0), (40, .ifCond .ne 6, 3, .null, 25, 0, 0, 0), (43, .bipush (-3), 2, .null, 0, 0, 0, 0),
  (45, .ireturn, 1, .null, 0, 0, 0, 0), (46, .aload_n 0, 1, .null, 0, 0, 0, 0), (47, .invokevirtual 306, 3, .null, 0, 253, 13170, 0), (50, .iconst 0, 1, .null, 0, 0, 0, 0),
  (51, .istore 5, 2, .null, 0, 0, 0, 0), (53, .iload 5, 2, .null, 0, 0, 0, 0), (55, .aload_n 0, 1, .null, 0, 0, 0, 0), (56, .getfield 95, 3, .null, 11, 38, 12038, 0),
  (59, .iload_n 1, 1, .null, 0, 0, 0, 0), (60, .iaload, 1, .null, 0, 0, 0, 0), (61, .if_icmp .ge 20, 3, .null, 43, 0, 0, 0), (64, .aload_n 0, 1, .null, 0, 0, 0, 0),
  (65, .aload_n 0, 1, .null, 0, 0, 0, 0), (66, .iload_n 1, 1, .null, 0, 0, 0, 0), (67, .iload 5, 2, .null, 0, 0, 0, 0), (69, .invokevirtual 230, 3, .null, 0, 222, 13035, 0),
  (72, .invokevirtual 309, 3, .null, 0, 255, 13178, 0), (75, .iinc 5 1, 3, .null, 0, 0, 0, 0), (78, .goto (-25), 3, .null, 29, 0, 0, 0), (81, .aload_n 0, 1, .null, 0, 0, 0, 0),
  (82, .iload_n 2, 1, .null, 0, 0, 0, 0), (83, .iload_n 3, 1, .null, 0, 0, 0, 0), (84, .invokevirtual 312, 3, .null, 0, 256, 13182, 0), (87, .ireturn, 1, .null, 0, 0, 0, 0)]
def ar_258 : List ai_R := [(0, .aload_n 0, 1, .null, 0, 0, 0, 0), (1, .iconst 0, 1, .null, 0, 0, 0, 0), (2, .putfield 1, 3, .null, 11, 0, 12000, 0), (5, .aload_n 0, 1, .null, 0, 0, 0, 0),
  (6, .iload_n 1, 1, .null, 0, 0, 0, 0), (7, .invokevirtual 246, 3, .null, 0, 208, 13063, 0), (10, .ifCond .ne 6, 3, .null, 9, 0, 0, 0), (13, .bipush (-3), 2, .null, 0, 0, 0, 0),
  (15, .ireturn, 1, .null, 0, 0, 0, 0), (16, .iconst (-1), 1, .null, 0, 0, 0, 0), (17, .istore_n 3, 1, .null, 0, 0, 0, 0), (18, .iconst 1, 1, .null, 0, 0, 0, 0),
  (19, .istore 4, 2, .null, 0, 0, 0, 0), (21, .iconst 0, 1, .null, 0, 0, 0, 0), (22, .istore 5, 2, .null, 0, 0, 0, 0), (24, .iload 5, 2, .null, 0, 0, 0, 0),
  (26, .iconst 5, 1, .null, 0, 0, 0, 0), (27, .if_icmp .gt 176, 3, .null, 111, 0, 0, 0), (30, .iconst 0, 1, .null, 0, 0, 0, 0), (31, .istore 6, 2, .null, 0, 0, 0, 0),
  (33, .iload 6, 2, .null, 0, 0, 0, 0), (35, .iload 4, 2, .null, 0, 0, 0, 0), (37, .if_icmp .ge 149, 3, .null, 102, 0, 0, 0), (40, .aload_n 0, 1, .null, 0, 0, 0, 0),
  (41, .invokevirtual 306, 3, .null, 0, 253, 13170, 0), (44, .iload 4, 2, .null, 0, 0, 0, 0), (46, .istore 7, 2, .null, 0, 0, 0, 0), (48, .iconst 0, 1, .null, 0, 0, 0, 0),
  (49, .istore 8, 2, .null, 0, 0, 0, 0), (51, .iload 8, 2, .null, 0, 0, 0, 0), (53, .iload 5, 2, .null, 0, 0, 0, 0), (55, .if_icmp .ge 36, 3, .null, 51, 0, 0, 0),
  (58, .iload 7, 2, .null, 0, 0, 0, 0), (60, .aload_n 0, 1, .null, 0, 0, 0, 0), (61, .getfield 13, 3, .null, 11, 1, 12001, 0), (64, .iconst 1, 1, .null, 0, 0, 0, 0),
  (65, .iaload, 1, .null, 0, 0, 0, 0), (66, .idiv, 1, .null, 0, 0, 0, 0), (67, .istore 7, 2, .null, 0, 0, 0, 0), (69, .aload_n 0, 1, .null, 0, 0, 0, 0),
  (70, .iload 6, 2, .null, 0, 0, 0, 0), (72, .iload 7, 2, .null, 0, 0, 0, 0), (74, .idiv, 1, .null, 0, 0, 0, 0), (75, .aload_n 0, 1, .null, 0, 0, 0, 0),
  (76, .getfield 13, 3, .null, 11, 1, 12001, 0), (79, .iconst 1, 1, .null, 0, 0, 0, 0), (80, .iaload, 1, .null, 0, 0, 0, 0), (81, .irem, 1, .null, 0, 0, 0, 0),
  (82, .invokevirtual 309, 3, .null, 0, 255, 13178, 0), (85, .iinc 8 1, 3, .null, 0, 0, 0, 0), (88, .goto (-37), 3, .null, 29, 0, 0, 0), (91, .aload_n 0, 1, .null, 0, 0, 0, 0),
  (92, .iload_n 1, 1, .null, 0, 0, 0, 0), (93, .iload_n 2, 1, .null, 0, 0, 0, 0), (94, .invokevirtual 312, 3, .null, 0, 256, 13182, 0), (97, .istore 8, 2, .null, 0, 0, 0, 0),
  (99, .iload_n 3, 1, .null, 0, 0, 0, 0), (100, .iconst (-1), 1, .null, 0, 0, 0, 0), (101, .if_icmp .eq 12, 3, .null, 63, 0, 0, 0), (104, .iload 8, 2, .null, 0, 0, 0, 0),
  (106, .iload_n 3, 1, .null, 0, 0, 0, 0), (107, .if_icmp .lt 6, 3, .null, 63, 0, 0, 0), (110, .goto 70, 3, .null, 100, 0, 0, 0), (113, .iload 8, 2, .null, 0, 0, 0, 0),
  (115, .istore_n 3, 1, .null, 0, 0, 0, 0), (116, .aload_n 0, 1, .null, 0, 0, 0, 0), (117, .getfield 13, 3, .null, 11, 1, 12001, 0), (120, .sipush 281, 3, .null, 0, 0, 0, 0),
  (123, .iload 5, 2, .null, 0, 0, 0, 0), (125, .iastore, 1, .null, 0, 0, 0, 0), (126, .iload 4, 2, .null, 0, 0, 0, 0), (128, .istore 7, 2, .null, 0, 0, 0, 0),
  (130, .iconst 0, 1, .null, 0, 0, 0, 0), (131, .istore 9, 2, .null, 0, 0, 0, 0), (133, .iload 9, 2, .null, 0, 0, 0, 0), (135, .iload 5, 2, .null, 0, 0, 0, 0),
  (137, .if_icmp .ge 43, 3, .null, 100, 0, 0, 0), (140, .iload 7, 2, .null, 0, 0, 0, 0), (142, .aload_n 0, 1, .null, 0, 0, 0, 0), (143, .getfield 13, 3, .null, 11, 1, 12001, 0),
  (146, .iconst 1, 1, .null, 0, 0, 0, 0), (147, .iaload, 1, .null, 0, 0, 0, 0), (148, .idiv, 1, .null, 0, 0, 0, 0), (149, .istore 7, 2, .null, 0, 0, 0, 0),
  (151, .aload_n 0, 1, .null, 0, 0, 0, 0), (152, .getfield 13, 3, .null, 11, 1, 12001, 0), (155, .sipush 282, 3, .null, 0, 0, 0, 0), (158, .iload 9, 2, .null, 0, 0, 0, 0),
  (160, .iadd, 1, .null, 0, 0, 0, 0), (161, .iload 6, 2, .null, 0, 0, 0, 0), (163, .iload 7, 2, .null, 0, 0, 0, 0), (165, .idiv, 1, .null, 0, 0, 0, 0),
  (166, .aload_n 0, 1, .null, 0, 0, 0, 0), (167, .getfield 13, 3, .null, 11, 1, 12001, 0), (170, .iconst 1, 1, .null, 0, 0, 0, 0), (171, .iaload, 1, .null, 0, 0, 0, 0),
  (172, .irem, 1, .null, 0, 0, 0, 0), (173, .iastore, 1, .null, 0, 0, 0, 0), (174, .iinc 9 1, 3, .null, 0, 0, 0, 0), (177, .goto (-44), 3, .null, 74, 0, 0, 0),
  (180, .iinc 6 1, 3, .null, 0, 0, 0, 0), (183, .goto (-150), 3, .null, 20, 0, 0, 0), (186, .iload 4, 2, .null, 0, 0, 0, 0), (188, .aload_n 0, 1, .null, 0, 0, 0, 0),
  (189, .getfield 13, 3, .null, 11, 1, 12001, 0), (192, .iconst 1, 1, .null, 0, 0, 0, 0), (193, .iaload, 1, .null, 0, 0, 0, 0), (194, .imul, 1, .null, 0, 0, 0, 0),
  (195, .istore 4, 2, .null, 0, 0, 0, 0), (197, .iinc 5 1, 3, .null, 0, 0, 0, 0), (200, .goto (-176), 3, .null, 15, 0, 0, 0), (203, .iload_n 3, 1, .null, 0, 0, 0, 0),
  (204, .ireturn, 1, .null, 0, 0, 0, 0)]
def ar_259 : List ai_R := [(0, .iconst 0, 1, .null, 0, 0, 0, 0), (1, .istore_n 2, 1, .null, 0, 0, 0, 0), (2, .iload_n 1, 1, .null, 0, 0, 0, 0), (3, .istore_n 3, 1, .null, 0, 0, 0, 0),
  (4, .iload_n 3, 1, .null, 0, 0, 0, 0), (5, .ifCond .eq 113, 3, .null, 69, 0, 0, 0), (8, .aload_n 0, 1, .null, 0, 0, 0, 0), (9, .getfield 13, 3, .null, 11, 1, 12001, 0),
  (12, .sipush 254, 3, .null, 0, 0, 0, 0), (15, .iload_n 3, 1, .null, 0, 0, 0, 0), (16, .invokestatic 316, 3, .null, 1, 214, 13198, 0), (19, .iadd, 1, .null, 0, 0, 0, 0),
  (20, .iaload, 1, .null, 0, 0, 0, 0), (21, .istore 4, 2, .null, 0, 0, 0, 0), (23, .iconst 0, 1, .null, 0, 0, 0, 0), (24, .istore 5, 2, .null, 0, 0, 0, 0),
  (26, .iconst 0, 1, .null, 0, 0, 0, 0), (27, .istore 6, 2, .null, 0, 0, 0, 0), (29, .iload 6, 2, .null, 0, 0, 0, 0), (31, .aload_n 0, 1, .null, 0, 0, 0, 0),
  (32, .getfield 13, 3, .null, 11, 1, 12001, 0), (35, .iconst 0, 1, .null, 0, 0, 0, 0), (36, .iaload, 1, .null, 0, 0, 0, 0), (37, .if_icmp .ge 48, 3, .null, 49, 0, 0, 0),
  (40, .iload 5, 2, .null, 0, 0, 0, 0), (42, .iload_n 3, 1, .null, 0, 0, 0, 0), (43, .iload 6, 2, .null, 0, 0, 0, 0), (45, .ishr, 1, .null, 0, 0, 0, 0),
  (46, .iconst 1, 1, .null, 0, 0, 0, 0), (47, .iand, 1, .null, 0, 0, 0, 0), (48, .iconst 1, 1, .null, 0, 0, 0, 0), (49, .if_icmp .ne 26, 3, .null, 44, 0, 0, 0),
  (52, .aload_n 0, 1, .null, 0, 0, 0, 0), (53, .getfield 13, 3, .null, 11, 1, 12001, 0), (56, .sipush 254, 3, .null, 0, 0, 0, 0), (59, .iload 6, 2, .null, 0, 0, 0, 0),
  (61, .iadd, 1, .null, 0, 0, 0, 0), (62, .iaload, 1, .null, 0, 0, 0, 0), (63, .iload 4, 2, .null, 0, 0, 0, 0), (65, .if_icmp .ne 10, 3, .null, 44, 0, 0, 0),
  (68, .iconst 1, 1, .null, 0, 0, 0, 0), (69, .iload 6, 2, .null, 0, 0, 0, 0), (71, .ishl, 1, .null, 0, 0, 0, 0), (72, .goto 4, 3, .null, 45, 0, 0, 0),
  (75, .iconst 0, 1, .null, 0, 0, 0, 0), (76, .ior, 1, .null, 0, 0, 0, 0), (77, .istore 5, 2, .null, 0, 0, 0, 0), (79, .iinc 6 1, 3, .null, 0, 0, 0, 0),
  (82, .goto (-53), 3, .null, 18, 0, 0, 0), (85, .aload_n 0, 1, .null, 0, 0, 0, 0), (86, .getfield 71, 3, .null, 11, 30, 12030, 0), (89, .iload 5, 2, .null, 0, 0, 0, 0),
  (91, .iaload, 1, .null, 0, 0, 0, 0), (92, .iload_n 2, 1, .null, 0, 0, 0, 0), (93, .if_icmp .le 13, 3, .null, 60, 0, 0, 0), (96, .aload_n 0, 1, .null, 0, 0, 0, 0),
  (97, .getfield 71, 3, .null, 11, 30, 12030, 0), (100, .iload 5, 2, .null, 0, 0, 0, 0), (102, .iaload, 1, .null, 0, 0, 0, 0), (103, .goto 4, 3, .null, 61, 0, 0, 0),
  (106, .iload_n 2, 1, .null, 0, 0, 0, 0), (107, .istore_n 2, 1, .null, 0, 0, 0, 0), (108, .iload_n 3, 1, .null, 0, 0, 0, 0), (109, .iload 5, 2, .null, 0, 0, 0, 0),
  (111, .iconst (-1), 1, .null, 0, 0, 0, 0), (112, .ixor, 1, .null, 0, 0, 0, 0), (113, .iand, 1, .null, 0, 0, 0, 0), (114, .istore_n 3, 1, .null, 0, 0, 0, 0),
  (115, .goto (-111), 3, .null, 4, 0, 0, 0), (118, .iload_n 2, 1, .null, 0, 0, 0, 0), (119, .ireturn, 1, .null, 0, 0, 0, 0)]
def ar_260 : List ai_R := [(0, .aload_n 0, 1, .null, 0, 0, 0, 0), (1, .iconst 0, 1, .null, 0, 0, 0, 0), (2, .putfield 1, 3, .null, 11, 0, 12000, 0), (5, .aload_n 0, 1, .null, 0, 0, 0, 0),
  (6, .iload_n 1, 1, .null, 0, 0, 0, 0), (7, .invokevirtual 246, 3, .null, 0, 208, 13063, 0), (10, .ifCond .ne 6, 3, .null, 9, 0, 0, 0), (13, .bipush (-3), 2, .null, 0, 0, 0, 0),
  (15, .ireturn, 1, .null, 0, 0, 0, 0), (16, .iconst 1, 1, .null, 0, 0, 0, 0), (17, .aload_n 0, 1, .null, 0, 0, 0, 0), (18, .getfield 13, 3, .null, 11, 1, 12001, 0),
  (21, .iconst 0, 1, .null, 0, 0, 0, 0), (22, .iaload, 1, .null, 0, 0, 0, 0), (23, .ishl, 1, .null, 0, 0, 0, 0), (24, .istore_n 2, 1, .null, 0, 0, 0, 0),
  (25, .iconst 1, 1, .null, 0, 0, 0, 0), (26, .istore_n 3, 1, .null, 0, 0, 0, 0), (27, .iload_n 3, 1, .null, 0, 0, 0, 0), (28, .iload_n 2, 1, .null, 0, 0, 0, 0),
  (29, .if_icmp .ge 29, 3, .null, 34, 0, 0, 0), (32, .aload_n 0, 1, .null, 0, 0, 0, 0), (33, .getfield 71, 3, .null, 11, 30, 12030, 0), (36, .iload_n 3, 1, .null, 0, 0, 0, 0),
  (37, .iload_n 3, 1, .null, 0, 0, 0, 0), (38, .invokestatic 257, 3, .null, 1, 213, 13093, 0), (41, .iconst 1, 1, .null, 0, 0, 0, 0), (42, .if_icmp .ne 7, 3, .null, 30, 0, 0, 0),
  (45, .iconst 0, 1, .null, 0, 0, 0, 0), (46, .goto 5, 3, .null, 31, 0, 0, 0), (49, .bipush 99, 2, .null, 0, 0, 0, 0), (51, .iastore, 1, .null, 0, 0, 0, 0),
  (52, .iinc 3 1, 3, .null, 0, 0, 0, 0), (55, .goto (-28), 3, .null, 18, 0, 0, 0), (58, .iconst 1, 1, .null, 0, 0, 0, 0), (59, .istore_n 3, 1, .null, 0, 0, 0, 0),
  (60, .iconst 1, 1, .null, 0, 0, 0, 0), (61, .istore 4, 2, .null, 0, 0, 0, 0), (63, .iload 4, 2, .null, 0, 0, 0, 0), (65, .bipush 40, 2, .null, 0, 0, 0, 0),
  (67, .if_icmp .gt 116, 3, .null, 97, 0, 0, 0), (70, .iload_n 3, 1, .null, 0, 0, 0, 0), (71, .ifCond .eq 112, 3, .null, 97, 0, 0, 0), (74, .iconst 0, 1, .null, 0, 0, 0, 0),
  (75, .istore_n 3, 1, .null, 0, 0, 0, 0), (76, .iconst 1, 1, .null, 0, 0, 0, 0), (77, .istore 5, 2, .null, 0, 0, 0, 0), (79, .iload 5, 2, .null, 0, 0, 0, 0),
  (81, .iload_n 2, 1, .null, 0, 0, 0, 0), (82, .if_icmp .ge 95, 3, .null, 95, 0, 0, 0), (85, .aload_n 0, 1, .null, 0, 0, 0, 0), (86, .getfield 71, 3, .null, 11, 30, 12030, 0),
  (89, .iload 5, 2, .null, 0, 0, 0, 0), (91, .iaload, 1, .null, 0, 0, 0, 0), (92, .bipush 99, 2, .null, 0, 0, 0, 0), (94, .if_icmp .eq 6, 3, .null, 57, 0, 0, 0),
  (97, .goto 74, 3, .null, 93, 0, 0, 0), (100, .iconst 0, 1, .null, 0, 0, 0, 0), (101, .istore 6, 2, .null, 0, 0, 0, 0), (103, .iconst 0, 1, .null, 0, 0, 0, 0),
  (104, .istore 7, 2, .null, 0, 0, 0, 0), (106, .iload 7, 2, .null, 0, 0, 0, 0), (108, .aload_n 0, 1, .null, 0, 0, 0, 0), (109, .getfield 13, 3, .null, 11, 1, 12001, 0),
  (112, .iconst 1, 1, .null, 0, 0, 0, 0), (113, .iaload, 1, .null, 0, 0, 0, 0), (114, .if_icmp .ge 38, 3, .null, 83, 0, 0, 0), (117, .iload 6, 2, .null, 0, 0, 0, 0),
  (119, .ifCond .ne 33, 3, .null, 83, 0, 0, 0), (122, .aload_n 0, 1, .null, 0, 0, 0, 0), (123, .aload_n 0, 1, .null, 0, 0, 0, 0), (124, .iload 5, 2, .null, 0, 0, 0, 0),
  (126, .iload 7, 2, .null, 0, 0, 0, 0), (128, .invokevirtual 289, 3, .null, 0, 212, 13132, 0), (131, .invokevirtual 319, 3, .null, 0, 259, 13194, 0), (134, .iload 4, 2, .null, 0, 0, 0, 0),
  (136, .if_icmp .ge 7, 3, .null, 79, 0, 0, 0), (139, .iconst 1, 1, .null, 0, 0, 0, 0), (140, .goto 4, 3, .null, 80, 0, 0, 0), (143, .iconst 0, 1, .null, 0, 0, 0, 0),
  (144, .istore 6, 2, .null, 0, 0, 0, 0), (146, .iinc 7 1, 3, .null, 0, 0, 0, 0), (149, .goto (-43), 3, .null, 61, 0, 0, 0), (152, .iload 6, 2, .null, 0, 0, 0, 0),
  (154, .ifCond .ne 6, 3, .null, 86, 0, 0, 0), (157, .goto 14, 3, .null, 93, 0, 0, 0), (160, .aload_n 0, 1, .null, 0, 0, 0, 0), (161, .getfield 71, 3, .null, 11, 30, 12030, 0),
  (164, .iload 5, 2, .null, 0, 0, 0, 0), (166, .iload 4, 2, .null, 0, 0, 0, 0), (168, .iastore, 1, .null, 0, 0, 0, 0), (169, .iconst 1, 1, .null, 0, 0, 0, 0),
  (170, .istore_n 3, 1, .null, 0, 0, 0, 0), (171, .iinc 5 1, 3, .null, 0, 0, 0, 0), (174, .goto (-95), 3, .null, 47, 0, 0, 0), (177, .iinc 4 1, 3, .null, 0, 0, 0, 0),
  (180, .goto (-117), 3, .null, 38, 0, 0, 0), (183, .aload_n 0, 1, .null, 0, 0, 0, 0), (184, .iload_n 1, 1, .null, 0, 0, 0, 0), (185, .invokevirtual 319, 3, .null, 0, 259, 13194, 0),
  (188, .istore 4, 2, .null, 0, 0, 0, 0), (190, .iload 4, 2, .null, 0, 0, 0, 0), (192, .bipush 99, 2, .null, 0, 0, 0, 0), (194, .if_icmp .ne 7, 3, .null, 106, 0, 0, 0),
  (197, .iconst (-1), 1, .null, 0, 0, 0, 0), (198, .goto 5, 3, .null, 107, 0, 0, 0), (201, .iload 4, 2, .null, 0, 0, 0, 0), (203, .ireturn, 1, .null, 0, 0, 0, 0)]
def ar_261 : List ai_R := [(0, .aload_n 0, 1, .null, 0, 0, 0, 0), (1, .invokevirtual 260, 3, .null, 0, 231, 13079, 0), (4, .aload_n 0, 1, .null, 0, 0, 0, 0), (5, .iload_n 1, 1, .null, 0, 0, 0, 0),
  (6, .iload_n 2, 1, .null, 0, 0, 0, 0), (7, .iconst (-1), 1, .null, 0, 0, 0, 0), (8, .iconst (-1), 1, .null, 0, 0, 0, 0), (9, .invokevirtual 263, 3, .null, 0, 232, 13083, 0),
  (12, .pop, 1, .null, 0, 0, 0, 0), (13, .iconst 0, 1, .null, 0, 0, 0, 0), (14, .istore_n 3, 1, .null, 0, 0, 0, 0), (15, .iload_n 3, 1, .null, 0, 0, 0, 0),
  (16, .aload_n 0, 1, .null, 0, 0, 0, 0), (17, .getfield 252, 3, .null, 11, 21, 12021, 0), (20, .if_icmp .ge 96, 3, .null, 67, 0, 0, 0), (23, .aload_n 0, 1, .null, 0, 0, 0, 0),
  (24, .getfield 13, 3, .null, 11, 1, 12001, 0), (27, .sipush 254, 3, .null, 0, 0, 0, 0), (30, .aload_n 0, 1, .null, 0, 0, 0, 0), (31, .getfield 30, 3, .null, 11, 15, 12015, 0),
  (34, .iload_n 3, 1, .null, 0, 0, 0, 0), (35, .iaload, 1, .null, 0, 0, 0, 0), (36, .iadd, 1, .null, 0, 0, 0, 0), (37, .iaload, 1, .null, 0, 0, 0, 0),
  (38, .aload_n 0, 1, .null, 0, 0, 0, 0), (39, .getfield 13, 3, .null, 11, 1, 12001, 0), (42, .sipush 254, 3, .null, 0, 0, 0, 0), (45, .aload_n 0, 1, .null, 0, 0, 0, 0),
  (46, .getfield 33, 3, .null, 11, 16, 12016, 0), (49, .iload_n 3, 1, .null, 0, 0, 0, 0), (50, .iaload, 1, .null, 0, 0, 0, 0), (51, .iadd, 1, .null, 0, 0, 0, 0),
  (52, .iaload, 1, .null, 0, 0, 0, 0), (53, .if_icmp .eq 5, 3, .null, 36, 0, 0, 0), (56, .iload_n 3, 1, .null, 0, 0, 0, 0), (57, .ireturn, 1, .null, 0, 0, 0, 0),
  (58, .iconst 0, 1, .null, 0, 0, 0, 0), (59, .istore 4, 2, .null, 0, 0, 0, 0), (61, .iload 4, 2, .null, 0, 0, 0, 0), (63, .aload_n 0, 1, .null, 0, 0, 0, 0),
  (64, .getfield 13, 3, .null, 11, 1, 12001, 0), (67, .iconst 1, 1, .null, 0, 0, 0, 0), (68, .iaload, 1, .null, 0, 0, 0, 0), (69, .if_icmp .ge 41, 3, .null, 65, 0, 0, 0),
  (72, .aload_n 0, 1, .null, 0, 0, 0, 0), (73, .aload_n 0, 1, .null, 0, 0, 0, 0), (74, .aload_n 0, 1, .null, 0, 0, 0, 0), (75, .getfield 30, 3, .null, 11, 15, 12015, 0),
  (78, .iload_n 3, 1, .null, 0, 0, 0, 0), (79, .iaload, 1, .null, 0, 0, 0, 0), (80, .iload 4, 2, .null, 0, 0, 0, 0), (82, .invokevirtual 211, 3, .null, 0, 210, 12230, 0),
  (85, .aload_n 0, 1, .null, 0, 0, 0, 0), (86, .aload_n 0, 1, .null, 0, 0, 0, 0), (87, .getfield 33, 3, .null, 11, 16, 12016, 0), (90, .iload_n 3, 1, .null, 0, 0, 0, 0),
  (91, .iaload, 1, .null, 0, 0, 0, 0), (92, .iload 4, 2, .null, 0, 0, 0, 0), (94, .invokevirtual 211, 3, .null, 0, 210, 12230, 0), (97, .iload_n 3, 1, .null, 0, 0, 0, 0),
  (98, .iload 4, 2, .null, 0, 0, 0, 0), (100, .invokevirtual 263, 3, .null, 0, 232, 13083, 0), (103, .pop, 1, .null, 0, 0, 0, 0), (104, .iinc 4 1, 3, .null, 0, 0, 0, 0),
  (107, .goto (-46), 3, .null, 38, 0, 0, 0), (110, .iinc 3 1, 3, .null, 0, 0, 0, 0), (113, .goto (-98), 3, .null, 11, 0, 0, 0), (116, .iconst (-1), 1, .null, 0, 0, 0, 0),
  (117, .ireturn, 1, .null, 0, 0, 0, 0)]
def ar_262 : List ai_R := [(0, .aload_n 0, 1, .null, 0, 0, 0, 0), (1, .iconst 0, 1, .null, 0, 0, 0, 0), (2, .putfield 1, 3, .null, 11, 0, 12000, 0), (5, .aload_n 0, 1, .null, 0, 0, 0, 0),
  (6, .iload_n 1, 1, .null, 0, 0, 0, 0), (7, .invokevirtual 214, 3, .null, 0, 207, 12225, 0), (10, .ifCond .eq 11, 3, .null, 11, 0, 0, 0), (13, .aload_n 0, 1, .null, 0, 0, 0, 0),
  (14, .iload_n 2, 1, .null, 0, 0, 0, 0), (15, .invokevirtual 214, 3, .null, 0, 207, 12225, 0), (18, .ifCond .ne 6, 3, .null, 13, 0, 0, 0), (21, .bipush (-2), 2, .null, 0, 0, 0, 0),
  (23, .ireturn, 1, .null, 0, 0, 0, 0), (24, .aload_n 0, 1, .null, 0, 0, 0, 0), (25, .iload_n 1, 1, .null, 0, 0, 0, 0), (26, .iload_n 2, 1, .null, 0, 0, 0, 0),
  (27, .invokevirtual 322, 3, .null, 0, 261, 13205, 0), (30, .iconst (-1), 1, .null, 0, 0, 0, 0), (31, .if_icmp .ne 7, 3, .null, 21, 0, 0, 0), (34, .iconst 1, 1, .null, 0, 0, 0, 0),
  (35, .goto 4, 3, .null, 22, 0, 0, 0), (38, .iconst 0, 1, .null, 0, 0, 0, 0), (39, .ireturn, 1, .null, 0, 0, 0, 0)]
def ar_263 : List ai_R := [(0, .aload_n 0, 1, .null, 0, 0, 0, 0), (1, .iconst 0, 1, .null, 0, 0, 0, 0), (2, .putfield 1, 3, .null, 11, 0, 12000, 0), (5, .iconst 0, 1, .null, 0, 0, 0, 0),
  (6, .istore_n 1, 1, .null, 0, 0, 0, 0), (7, .iconst 0, 1, .null, 0, 0, 0, 0), (8, .istore_n 2, 1, .null, 0, 0, 0, 0), (9, .iload_n 2, 1, .null, 0, 0, 0, 0),
  (10, .aload_n 0, 1, .null, 0, 0, 0, 0), (11, .getfield 13, 3, .null, 11, 1, 12001, 0), (14, .iconst 0, 1, .null, 0, 0, 0, 0), (15, .iaload, 1, .null, 0, 0, 0, 0),
  (16, .if_icmp .ge 59, 3, .null, 44, 0, 0, 0), (19, .iconst 1, 1, .null, 0, 0, 0, 0), (20, .istore_n 3, 1, .null, 0, 0, 0, 0), (21, .iconst 0, 1, .null, 0, 0, 0, 0),
  (22, .istore 4, 2, .null, 0, 0, 0, 0), (24, .iload 4, 2, .null, 0, 0, 0, 0), (26, .iload_n 2, 1, .null, 0, 0, 0, 0), (27, .if_icmp .ge 30, 3, .null, 34, 0, 0, 0),
  (30, .iload_n 3, 1, .null, 0, 0, 0, 0), (31, .ifCond .eq 18, 3, .null, 30, 0, 0, 0), (34, .aload_n 0, 1, .null, 0, 0, 0, 0), (35, .iload_n 2, 1, .null, 0, 0, 0, 0),
  (36, .iload 4, 2, .null, 0, 0, 0, 0), (38, .invokevirtual 322, 3, .null, 0, 261, 13205, 0), (41, .iconst (-1), 1, .null, 0, 0, 0, 0), (42, .if_icmp .eq 7, 3, .null, 30, 0, 0, 0),
  (45, .iconst 1, 1, .null, 0, 0, 0, 0), (46, .goto 4, 3, .null, 31, 0, 0, 0), (49, .iconst 0, 1, .null, 0, 0, 0, 0), (50, .istore_n 3, 1, .null, 0, 0, 0, 0),
  (51, .iinc 4 1, 3, .null, 0, 0, 0, 0), (54, .goto (-30), 3, .null, 17, 0, 0, 0), (57, .iload_n 1, 1, .null, 0, 0, 0, 0), (58, .iload_n 3, 1, .null, 0, 0, 0, 0),
  (59, .ifCond .eq 7, 3, .null, 39, 0, 0, 0), (62, .iconst 1, 1, .null, 0, 0, 0, 0), (63, .goto 4, 3, .null, 40, 0, 0, 0), (66, .iconst 0, 1, .null, 0, 0, 0, 0),
  (67, .iadd, 1, .null, 0, 0, 0, 0), (68, .istore_n 1, 1, .null, 0, 0, 0, 0), (69, .iinc 2 1, 3, .null, 0, 0, 0, 0), (72, .goto (-63), 3, .null, 7, 0, 0, 0),
  (75, .iload_n 1, 1, .null, 0, 0, 0, 0), (76, .ireturn, 1, .null, 0, 0, 0, 0)]
def ar_264 : List ai_R := [(0, .aload_n 0, 1, .null, 0, 0, 0, 0), (1, .iconst 0, 1, .null, 0, 0, 0, 0), (2, .putfield 1, 3, .null, 11, 0, 12000, 0), (5, .aload_n 0, 1, .null, 0, 0, 0, 0),
  (6, .iload_n 1, 1, .null, 0, 0, 0, 0), (7, .invokevirtual 214, 3, .null, 0, 207, 12225, 0), (10, .ifCond .eq 11, 3, .null, 11, 0, 0, 0), (13, .aload_n 0, 1, .null, 0, 0, 0, 0),
  (14, .iload_n 2, 1, .null, 0, 0, 0, 0), (15, .invokevirtual 214, 3, .null, 0, 207, 12225, 0), (18, .ifCond .ne 6, 3, .null, 13, 0, 0, 0), (21, .bipush (-2), 2, .null, 0, 0, 0, 0),
  (23, .ireturn, 1, .null, 0, 0, 0, 0), (24, .aload_n 0, 1, .null, 0, 0, 0, 0), (25, .iload_n 1, 1, .null, 0, 0, 0, 0), (26, .iload_n 2, 1, .null, 0, 0, 0, 0),
  (27, .invokevirtual 322, 3, .null, 0, 261, 13205, 0), (30, .istore_n 3, 1, .null, 0, 0, 0, 0), (31, .iload_n 3, 1, .null, 0, 0, 0, 0), (32, .iconst (-1), 1, .null, 0, 0, 0, 0),
  (33, .if_icmp .ne 7, 3, .null, 23, 0, 0, 0), (36, .iconst (-1), 1, .null, 0, 0, 0, 0), (37, .goto 8, 3, .null, 26, 0, 0, 0), (40, .aload_n 0, 1, .null, 0, 0, 0, 0),
  (41, .iload_n 3, 1, .null, 0, 0, 0, 0), (42, .invokevirtual 274, 3, .null, 0, 237, 13096, 0), (45, .ireturn, 1, .null, 0, 0, 0, 0)]
def ar_265 : List ai_R := [(0, .iconst 0, 1, .null, 0, 0, 0, 0), (1, .istore_n 2, 1, .null, 0, 0, 0, 0), (2, .iload_n 2, 1, .null, 0, 0, 0, 0), (3, .iconst 3, 1, .null, 0, 0, 0, 0),
  (4, .if_icmp .ge 91, 3, .null, 59, 0, 0, 0), (7, .iload_n 1, 1, .null, 0, 0, 0, 0), (8, .iconst 4, 1, .null, 0, 0, 0, 0), (9, .iload_n 2, 1, .null, 0, 0, 0, 0),
  (10, .imul, 1, .null, 0, 0, 0, 0), (11, .ishr, 1, .null, 0, 0, 0, 0), (12, .bipush 15, 2, .null, 0, 0, 0, 0), (14, .iand, 1, .null, 0, 0, 0, 0),
  (15, .istore_n 3, 1, .null, 0, 0, 0, 0), (16, .iload_n 3, 1, .null, 0, 0, 0, 0), (17, .bipush 15, 2, .null, 0, 0, 0, 0), (19, .if_icmp .ne 6, 3, .null, 17, 0, 0, 0),
  (22, .goto 67, 3, .null, 57, 0, 0, 0), (25, .aload_n 0, 1, .null, 0, 0, 0, 0), (26, .getfield 13, 3, .null, 11, 1, 12001, 0), (29, .sipush 268, 3, .null, 0, 0, 0, 0),
  (32, .iaload, 1, .null, 0, 0, 0, 0), (33, .iload_n 3, 1, .null, 0, 0, 0, 0), (34, .ishr, 1, .null, 0, 0, 0, 0), (35, .iconst 1, 1, .null, 0, 0, 0, 0),
  (36, .iand, 1, .null, 0, 0, 0, 0), (37, .iconst 1, 1, .null, 0, 0, 0, 0), (38, .if_icmp .ne 5, 3, .null, 29, 0, 0, 0), (41, .iconst 0, 1, .null, 0, 0, 0, 0),
  (42, .ireturn, 1, .null, 0, 0, 0, 0), (43, .iconst 0, 1, .null, 0, 0, 0, 0), (44, .istore 4, 2, .null, 0, 0, 0, 0), (46, .iload 4, 2, .null, 0, 0, 0, 0),
  (48, .iload_n 2, 1, .null, 0, 0, 0, 0), (49, .if_icmp .ge 40, 3, .null, 57, 0, 0, 0), (52, .iload_n 1, 1, .null, 0, 0, 0, 0), (53, .iconst 4, 1, .null, 0, 0, 0, 0),
  (54, .iload 4, 2, .null, 0, 0, 0, 0), (56, .imul, 1, .null, 0, 0, 0, 0), (57, .ishr, 1, .null, 0, 0, 0, 0), (58, .bipush 15, 2, .null, 0, 0, 0, 0),
  (60, .iand, 1, .null, 0, 0, 0, 0), (61, .iload_n 3, 1, .null, 0, 0, 0, 0), (62, .if_icmp .ne 21, 3, .null, 55, 0, 0, 0), (65, .aload_n 0, 1, .null, 0, 0, 0, 0),
  (66, .getfield 13, 3, .null, 11, 1, 12001, 0), (69, .sipush 269, 3, .null, 0, 0, 0, 0), (72, .iaload, 1, .null, 0, 0, 0, 0), (73, .iload_n 3, 1, .null, 0, 0, 0, 0),
  (74, .ishr, 1, .null, 0, 0, 0, 0), (75, .iconst 1, 1, .null, 0, 0, 0, 0), (76, .iand, 1, .null, 0, 0, 0, 0), (77, .iconst 1, 1, .null, 0, 0, 0, 0),
  (78, .if_icmp .ne 5, 3, .null, 55, 0, 0, 0), (81, .iconst 0, 1, .null, 0, 0, 0, 0), (82, .ireturn, 1, .null, 0, 0, 0, 0), (83, .iinc 4 1, 3, .null, 0, 0, 0, 0),
  (86, .goto (-40), 3, .null, 31, 0, 0, 0), (89, .iinc 2 1, 3, .null, 0, 0, 0, 0), (92, .goto (-90), 3, .null, 2, 0, 0, 0), (95, .iconst 1, 1, .null, 0, 0, 0, 0),
  (96, .ireturn, 1, .null, 0, 0, 0, 0)]
def ar_266 : List ai_R := [(0, .iconst 0, 1, .null, 0, 0, 0, 0), (1, .istore_n 3, 1, .null, 0, 0, 0, 0), (2, .iconst 0, 1, .null, 0, 0, 0, 0), (3, .istore 4, 2, .null, 0, 0, 0, 0),
  (5, .iload 4, 2, .null, 0, 0, 0, 0), (7, .iconst 3, 1, .null, 0, 0, 0, 0), (8, .if_icmp .ge 47, 3, .null, 33, 0, 0, 0), (11, .iload_n 1, 1, .null, 0, 0, 0, 0),
  (12, .iconst 4, 1, .null, 0, 0, 0, 0), (13, .iload 4, 2, .null, 0, 0, 0, 0), (15, .imul, 1, .null, 0, 0, 0, 0), (16, .ishr, 1, .null, 0, 0, 0, 0),
  (17, .bipush 15, 2, .null, 0, 0, 0, 0), (19, .iand, 1, .null, 0, 0, 0, 0), (20, .istore 5, 2, .null, 0, 0, 0, 0), (22, .iload_n 3, 1, .null, 0, 0, 0, 0),
  (23, .iload 5, 2, .null, 0, 0, 0, 0), (25, .bipush 15, 2, .null, 0, 0, 0, 0), (27, .if_icmp .ne 8, 3, .null, 21, 0, 0, 0), (30, .bipush 15, 2, .null, 0, 0, 0, 0),
  (32, .goto 10, 3, .null, 25, 0, 0, 0), (35, .aload_n 0, 1, .null, 0, 0, 0, 0), (36, .iload 5, 2, .null, 0, 0, 0, 0), (38, .iload_n 2, 1, .null, 0, 0, 0, 0),
  (39, .invokevirtual 211, 3, .null, 0, 210, 12230, 0), (42, .iconst 4, 1, .null, 0, 0, 0, 0), (43, .iload 4, 2, .null, 0, 0, 0, 0), (45, .imul, 1, .null, 0, 0, 0, 0),
  (46, .ishl, 1, .null, 0, 0, 0, 0), (47, .ior, 1, .null, 0, 0, 0, 0), (48, .istore_n 3, 1, .null, 0, 0, 0, 0), (49, .iinc 4 1, 3, .null, 0, 0, 0, 0),
  (52, .goto (-47), 3, .null, 4, 0, 0, 0), (55, .iload_n 3, 1, .null, 0, 0, 0, 0), (56, .ireturn, 1, .null, 0, 0, 0, 0)]
def ar_267 : List ai_R := [(0, .iconst 0, 1, .null, 0, 0, 0, 0), (1, .istore_n 3, 1, .null, 0, 0, 0, 0), (2, .iload_n 3, 1, .null, 0, 0, 0, 0), (3, .iconst 3, 1, .null, 0, 0, 0, 0),
  (4, .if_icmp .ge 36, 3, .null, 27, 0, 0, 0), (7, .iload_n 1, 1, .null, 0, 0, 0, 0), (8, .iconst 4, 1, .null, 0, 0, 0, 0), (9, .iload_n 3, 1, .null, 0, 0, 0, 0),
  (10, .imul, 1, .null, 0, 0, 0, 0), (11, .ishr, 1, .null, 0, 0, 0, 0), (12, .bipush 15, 2, .null, 0, 0, 0, 0), (14, .iand, 1, .null, 0, 0, 0, 0),
  (15, .bipush 15, 2, .null, 0, 0, 0, 0), (17, .if_icmp .eq 17, 3, .null, 25, 0, 0, 0), (20, .iload_n 1, 1, .null, 0, 0, 0, 0), (21, .iconst 4, 1, .null, 0, 0, 0, 0),
  (22, .iload_n 3, 1, .null, 0, 0, 0, 0), (23, .imul, 1, .null, 0, 0, 0, 0), (24, .ishr, 1, .null, 0, 0, 0, 0), (25, .bipush 15, 2, .null, 0, 0, 0, 0),
  (27, .iand, 1, .null, 0, 0, 0, 0), (28, .iload_n 2, 1, .null, 0, 0, 0, 0), (29, .if_icmp .eq 5, 3, .null, 25, 0, 0, 0), (32, .iconst 0, 1, .null, 0, 0, 0, 0),
  (33, .ireturn, 1, .null, 0, 0, 0, 0), (34, .iinc 3 1, 3, .null, 0, 0, 0, 0), (37, .goto (-35), 3, .null, 2, 0, 0, 0), (40, .iconst 1, 1, .null, 0, 0, 0, 0),
  (41, .ireturn, 1, .null, 0, 0, 0, 0)]
def ar_268 : List ai_R := [(0, .aload_n 0, 1, .null, 0, 0, 0, 0), (1, .iconst 0, 1, .null, 0, 0, 0, 0), (2, .putfield 1, 3, .null, 11, 0, 12000, 0), (5, .aload_n 0, 1, .null, 0, 0, 0, 0),
  (6, .iload_n 2, 1, .null, 0, 0, 0, 0), (7, .invokevirtual 214, 3, .null, 0, 207, 12225, 0), (10, .ifCond .ne 6, 3, .null, 9, 0, 0, 0), (13, .bipush (-2), 2, .null, 0, 0, 0, 0),
  (15, .ireturn, 1, .null, 0, 0, 0, 0), (16, .iload_n 1, 1, .null, 0, 0, 0, 0), (17, .i2l, 1, .null, 0, 0, 0, 0), (18, .lconst 1, 1, .null, 0, 0, 0, 0),
  (19, .iconst 1, 1, .null, 0, 0, 0, 0), (20, .aload_n 0, 1, .null, 0, 0, 0, 0), (21, .getfield 13, 3, .null, 11, 1, 12001, 0), (24, .sipush 271, 3, .null, 0, 0, 0, 0),
  (27, .iaload, 1, .null, 0, 0, 0, 0), (28, .ishl, 1, .null, 0, 0, 0, 0), (29, .iconst 1, 1, .null, 0, 0, 0, 0), (30, .isub, 1, .null, 0, 0, 0, 0),
  (31, .i2l, 1, .null, 0, 0, 0, 0), (32, .invokestatic 164, 3, .null, 1, 181, 12130, 0), (35, .ifCond .eq 20, 3, .null, 30, 0, 0, 0), (38, .iload_n 1, 1, .null, 0, 0, 0, 0),
  (39, .invokestatic 257, 3, .null, 1, 213, 13093, 0), (42, .i2l, 1, .null, 0, 0, 0, 0), (43, .ldc2_w 217, 3, .long (2), 0, 0, 12229, 0), (46, .ldc2_w 225, 3, .long (3), 0, 0, 13018, 0),
  (49, .invokestatic 164, 3, .null, 1, 181, 12130, 0), (52, .ifCond .ne 6, 3, .null, 32, 0, 0, 0), (55, .bipush (-3), 2, .null, 0, 0, 0, 0), (57, .ireturn, 1, .null, 0, 0, 0, 0),
  (58, .iconst 0, 1, .null, 0, 0, 0, 0), (59, .istore_n 3, 1, .null, 0, 0, 0, 0), (60, .iconst 0, 1, .null, 0, 0, 0, 0), (61, .istore 4, 2, .null, 0, 0, 0, 0),
  (63, .iconst 0, 1, .null, 0, 0, 0, 0), (64, .istore 5, 2, .null, 0, 0, 0, 0), (66, .iload 5, 2, .null, 0, 0, 0, 0), (68, .aload_n 0, 1, .null, 0, 0, 0, 0),
  (69, .getfield 13, 3, .null, 11, 1, 12001, 0), (72, .sipush 271, 3, .null, 0, 0, 0, 0), (75, .iaload, 1, .null, 0, 0, 0, 0), (76, .if_icmp .ge 43, 3, .null, 67, 0, 0, 0),
  (79, .iload_n 1, 1, .null, 0, 0, 0, 0), (80, .iload 5, 2, .null, 0, 0, 0, 0), (82, .ishr, 1, .null, 0, 0, 0, 0), (83, .iconst 1, 1, .null, 0, 0, 0, 0),
  (84, .iand, 1, .null, 0, 0, 0, 0), (85, .ifCond .ne 6, 3, .null, 51, 0, 0, 0), (88, .goto 25, 3, .null, 65, 0, 0, 0), (91, .iload_n 3, 1, .null, 0, 0, 0, 0),
  (92, .aload_n 0, 1, .null, 0, 0, 0, 0), (93, .getfield 13, 3, .null, 11, 1, 12001, 0), (96, .sipush 272, 3, .null, 0, 0, 0, 0), (99, .iload 5, 2, .null, 0, 0, 0, 0),
  (101, .iadd, 1, .null, 0, 0, 0, 0), (102, .iaload, 1, .null, 0, 0, 0, 0), (103, .iconst 4, 1, .null, 0, 0, 0, 0), (104, .iload 4, 2, .null, 0, 0, 0, 0),
  (106, .imul, 1, .null, 0, 0, 0, 0), (107, .ishl, 1, .null, 0, 0, 0, 0), (108, .ior, 1, .null, 0, 0, 0, 0), (109, .istore_n 3, 1, .null, 0, 0, 0, 0),
  (110, .iinc 4 1, 3, .null, 0, 0, 0, 0), (113, .iinc 5 1, 3, .null, 0, 0, 0, 0), (116, .goto (-50), 3, .null, 38, 0, 0, 0), (119, .iload_n 3, 1, .null, 0, 0, 0, 0),
  (120, .iload 4, 2, .null, 0, 0, 0, 0), (122, .iconst 2, 1, .null, 0, 0, 0, 0), (123, .if_icmp .ne 9, 3, .null, 73, 0, 0, 0), (126, .sipush 3840, 3, .null, 0, 0, 0, 0),
  (129, .goto 4, 3, .null, 74, 0, 0, 0), (132, .iconst 0, 1, .null, 0, 0, 0, 0), (133, .ior, 1, .null, 0, 0, 0, 0), (134, .istore_n 3, 1, .null, 0, 0, 0, 0),
  (135, .aload_n 0, 1, .null, 0, 0, 0, 0), (136, .invokevirtual 260, 3, .null, 0, 231, 13079, 0), (139, .aload_n 0, 1, .null, 0, 0, 0, 0), (140, .iload_n 3, 1, .null, 0, 0, 0, 0),
  (141, .invokevirtual 325, 3, .null, 0, 265, 13221, 0), (144, .ifCond .eq 12, 3, .null, 89, 0, 0, 0), (147, .aload_n 0, 1, .null, 0, 0, 0, 0), (148, .iload_n 3, 1, .null, 0, 0, 0, 0),
  (149, .iconst 0, 1, .null, 0, 0, 0, 0), (150, .iconst (-1), 1, .null, 0, 0, 0, 0), (151, .iconst (-1), 1, .null, 0, 0, 0, 0), (152, .invokevirtual 263, 3, .null, 0, 232, 13083, 0),
  (155, .pop, 1, .null, 0, 0, 0, 0), (156, .iconst 0, 1, .null, 0, 0, 0, 0), (157, .istore 5, 2, .null, 0, 0, 0, 0), (159, .iload 5, 2, .null, 0, 0, 0, 0),
  (161, .aload_n 0, 1, .null, 0, 0, 0, 0), (162, .getfield 252, 3, .null, 11, 21, 12021, 0), (165, .if_icmp .ge 87, 3, .null, 138, 0, 0, 0), (168, .aload_n 0, 1, .null, 0, 0, 0, 0),
  (169, .aload_n 0, 1, .null, 0, 0, 0, 0), (170, .getfield 30, 3, .null, 11, 15, 12015, 0), (173, .iload 5, 2, .null, 0, 0, 0, 0), (175, .iaload, 1, .null, 0, 0, 0, 0),
  (176, .iload_n 2, 1, .null, 0, 0, 0, 0), (177, .invokevirtual 328, 3, .null, 0, 267, 13225, 0), (180, .ifCond .eq 10, 3, .null, 107, 0, 0, 0), (183, .aload_n 0, 1, .null, 0, 0, 0, 0),
  (184, .iload 5, 2, .null, 0, 0, 0, 0), (186, .invokevirtual 274, 3, .null, 0, 237, 13096, 0), (189, .ireturn, 1, .null, 0, 0, 0, 0), (190, .iconst 0, 1, .null, 0, 0, 0, 0),
  (191, .istore 6, 2, .null, 0, 0, 0, 0), (193, .iload 6, 2, .null, 0, 0, 0, 0), (195, .aload_n 0, 1, .null, 0, 0, 0, 0), (196, .getfield 13, 3, .null, 11, 1, 12001, 0),
  (199, .iconst 1, 1, .null, 0, 0, 0, 0), (200, .iaload, 1, .null, 0, 0, 0, 0), (201, .if_icmp .ge 45, 3, .null, 136, 0, 0, 0), (204, .aload_n 0, 1, .null, 0, 0, 0, 0),
  (205, .aload_n 0, 1, .null, 0, 0, 0, 0), (206, .getfield 30, 3, .null, 11, 15, 12015, 0), (209, .iload 5, 2, .null, 0, 0, 0, 0), (211, .iaload, 1, .null, 0, 0, 0, 0),
  (212, .iload 6, 2, .null, 0, 0, 0, 0), (214, .invokevirtual 331, 3, .null, 0, 266, 13229, 0), (217, .istore 7, 2, .null, 0, 0, 0, 0), (219, .aload_n 0, 1, .null, 0, 0, 0, 0),
  (220, .iload 7, 2, .null, 0, 0, 0, 0), (222, .invokevirtual 325, 3, .null, 0, 265, 13221, 0), (225, .ifCond .eq 15, 3, .null, 134, 0, 0, 0), (228, .aload_n 0, 1, .null, 0, 0, 0, 0),
  (229, .iload 7, 2, .null, 0, 0, 0, 0), (231, .iconst 0, 1, .null, 0, 0, 0, 0), (232, .iload 5, 2, .null, 0, 0, 0, 0), (234, .iload 6, 2, .null, 0, 0, 0, 0),
  (236, .invokevirtual 263, 3, .null, 0, 232, 13083, 0), (239, .pop, 1, .null, 0, 0, 0, 0), (240, .iinc 6 1, 3, .null, 0, 0, 0, 0), (243, .goto (-50), 3, .null, 109, 0, 0, 0),
  (246, .iinc 5 1, 3, .null, 0, 0, 0, 0), (249, .goto (-90), 3, .null, 91, 0, 0, 0), (252, .iconst (-1), 1, .null, 0, 0, 0, 0), (253, .ireturn, 1, .null, 0, 0, 0, 0)]
def ar_269 : List ai_R := [(0, .aload_n 0, 1, .null, 0, 0, 0, 0), (1, .iconst 0, 1, .null, 0, 0, 0, 0), (2, .putfield 1, 3, .null, 11, 0, 12000, 0), (5, .aload_n 0, 1, .null, 0, 0, 0, 0),
  (6, .iload_n 1, 1, .null, 0, 0, 0, 0), (7, .invokevirtual 219, 3, .null, 0, 209, 13002, 0), (10, .ifCond .eq 16, 3, .null, 14, 0, 0, 0), (13, .aload_n 0, 1, .null, 0, 0, 0, 0),
  (14, .iload_n 2, 1, .null, 0, 0, 0, 0), (15, .invokevirtual 219, 3, .null, 0, 209, 13002, 0), (18, .ifCond .eq 8, 3, .null, 14, 0, 0, 0), (21, .iload_n 1, 1, .null, 0, 0, 0, 0),
  (22, .iload_n 2, 1, .null, 0, 0, 0, 0), (23, .if_icmp .ne 6, 3, .null, 16, 0, 0, 0), (26, .bipush (-2), 2, .null, 0, 0, 0, 0), (28, .ireturn, 1, .null, 0, 0, 0, 0),
  (29, .iload_n 3, 1, .null, 0, 0, 0, 0), (30, .i2l, 1, .null, 0, 0, 0, 0), (31, .lconst 0, 1, .null, 0, 0, 0, 0), (32, .iconst 1, 1, .null, 0, 0, 0, 0),
  (33, .aload_n 0, 1, .null, 0, 0, 0, 0), (34, .getfield 13, 3, .null, 11, 1, 12001, 0), (37, .iconst 1, 1, .null, 0, 0, 0, 0), (38, .iaload, 1, .null, 0, 0, 0, 0),
  (39, .ishl, 1, .null, 0, 0, 0, 0), (40, .iconst 1, 1, .null, 0, 0, 0, 0), (41, .isub, 1, .null, 0, 0, 0, 0), (42, .i2l, 1, .null, 0, 0, 0, 0),
  (43, .invokestatic 164, 3, .null, 1, 181, 12130, 0), (46, .ifCond .ne 6, 3, .null, 32, 0, 0, 0), (49, .bipush (-3), 2, .null, 0, 0, 0, 0), (51, .ireturn, 1, .null, 0, 0, 0, 0),
  (52, .aload_n 0, 1, .null, 0, 0, 0, 0), (53, .invokevirtual 260, 3, .null, 0, 231, 13079, 0), (56, .aload_n 0, 1, .null, 0, 0, 0, 0), (57, .aload_n 0, 1, .null, 0, 0, 0, 0),
  (58, .getfield 13, 3, .null, 11, 1, 12001, 0), (61, .sipush 272, 3, .null, 0, 0, 0, 0), (64, .iload_n 1, 1, .null, 0, 0, 0, 0), (65, .iadd, 1, .null, 0, 0, 0, 0),
  (66, .iaload, 1, .null, 0, 0, 0, 0), (67, .aload_n 0, 1, .null, 0, 0, 0, 0), (68, .getfield 13, 3, .null, 11, 1, 12001, 0), (71, .sipush 272, 3, .null, 0, 0, 0, 0),
  (74, .iload_n 2, 1, .null, 0, 0, 0, 0), (75, .iadd, 1, .null, 0, 0, 0, 0), (76, .iaload, 1, .null, 0, 0, 0, 0), (77, .iconst (-1), 1, .null, 0, 0, 0, 0),
  (78, .iconst (-1), 1, .null, 0, 0, 0, 0), (79, .invokevirtual 263, 3, .null, 0, 232, 13083, 0), (82, .pop, 1, .null, 0, 0, 0, 0), (83, .iconst 0, 1, .null, 0, 0, 0, 0),
  (84, .istore 4, 2, .null, 0, 0, 0, 0), (86, .iload 4, 2, .null, 0, 0, 0, 0), (88, .aload_n 0, 1, .null, 0, 0, 0, 0), (89, .getfield 252, 3, .null, 11, 21, 12021, 0),
  (92, .if_icmp .ge 127, 3, .null, 122, 0, 0, 0), (95, .aload_n 0, 1, .null, 0, 0, 0, 0), (96, .getfield 30, 3, .null, 11, 15, 12015, 0), (99, .iload 4, 2, .null, 0, 0, 0, 0),
  (101, .iaload, 1, .null, 0, 0, 0, 0), (102, .aload_n 0, 1, .null, 0, 0, 0, 0), (103, .getfield 13, 3, .null, 11, 1, 12001, 0), (106, .sipush 270, 3, .null, 0, 0, 0, 0),
  (109, .iaload, 1, .null, 0, 0, 0, 0), (110, .if_icmp .ne 28, 3, .null, 79, 0, 0, 0), (113, .aload_n 0, 1, .null, 0, 0, 0, 0), (114, .getfield 33, 3, .null, 11, 16, 12016, 0),
  (117, .iload 4, 2, .null, 0, 0, 0, 0), (119, .iaload, 1, .null, 0, 0, 0, 0), (120, .aload_n 0, 1, .null, 0, 0, 0, 0), (121, .getfield 13, 3, .null, 11, 1, 12001, 0),
  (124, .sipush 270, 3, .null, 0, 0, 0, 0), (127, .iaload, 1, .null, 0, 0, 0, 0), (128, .if_icmp .ne 10, 3, .null, 79, 0, 0, 0), (131, .aload_n 0, 1, .null, 0, 0, 0, 0),
  (132, .iload 4, 2, .null, 0, 0, 0, 0), (134, .invokevirtual 274, 3, .null, 0, 237, 13096, 0), (137, .ireturn, 1, .null, 0, 0, 0, 0), (138, .iconst 0, 1, .null, 0, 0, 0, 0),
  (139, .istore 5, 2, .null, 0, 0, 0, 0), (141, .iload 5, 2, .null, 0, 0, 0, 0), (143, .aload_n 0, 1, .null, 0, 0, 0, 0), (144, .getfield 13, 3, .null, 11, 1, 12001, 0),
  (147, .iconst 1, 1, .null, 0, 0, 0, 0), (148, .iaload, 1, .null, 0, 0, 0, 0), (149, .if_icmp .ge 64, 3, .null, 120, 0, 0, 0), (152, .aload_n 0, 1, .null, 0, 0, 0, 0),
  (153, .aload_n 0, 1, .null, 0, 0, 0, 0), (154, .aload_n 0, 1, .null, 0, 0, 0, 0), (155, .getfield 30, 3, .null, 11, 15, 12015, 0), (158, .iload 4, 2, .null, 0, 0, 0, 0),
  (160, .iaload, 1, .null, 0, 0, 0, 0), (161, .iload 5, 2, .null, 0, 0, 0, 0), (163, .invokevirtual 211, 3, .null, 0, 210, 12230, 0), (166, .iload_n 3, 1, .null, 0, 0, 0, 0),
  (167, .iload 5, 2, .null, 0, 0, 0, 0), (169, .ishr, 1, .null, 0, 0, 0, 0), (170, .iconst 1, 1, .null, 0, 0, 0, 0), (171, .iand, 1, .null, 0, 0, 0, 0),
  (172, .iconst 1, 1, .null, 0, 0, 0, 0), (173, .if_icmp .ne 13, 3, .null, 107, 0, 0, 0), (176, .aload_n 0, 1, .null, 0, 0, 0, 0), (177, .getfield 33, 3, .null, 11, 16, 12016, 0),
  (180, .iload 4, 2, .null, 0, 0, 0, 0), (182, .iaload, 1, .null, 0, 0, 0, 0), (183, .goto 16, 3, .null, 114, 0, 0, 0), (186, .aload_n 0, 1, .null, 0, 0, 0, 0),
  (187, .aload_n 0, 1, .null, 0, 0, 0, 0), (188, .getfield 33, 3, .null, 11, 16, 12016, 0), (191, .iload 4, 2, .null, 0, 0, 0, 0), (193, .iaload, 1, .null, 0, 0, 0, 0),
  (194, .iload 5, 2, .null, 0, 0, 0, 0), (196, .invokevirtual 211, 3, .null, 0, 210, 12230, 0), (199, .iload 4, 2, .null, 0, 0, 0, 0), (201, .iload 5, 2, .null, 0, 0, 0, 0),
  (203, .invokevirtual 263, 3, .null, 0, 232, 13083, 0), (206, .pop, 1, .null, 0, 0, 0, 0), (207, .iinc 5 1, 3, .null, 0, 0, 0, 0), (210, .goto (-69), 3, .null, 81, 0, 0, 0),
  (213, .iinc 4 1, 3, .null, 0, 0, 0, 0), (216, .goto (-130), 3, .null, 53, 0, 0, 0), (219, .iconst (-1), 1, .null, 0, 0, 0, 0), (220, .ireturn, 1, .null, 0, 0, 0, 0)]
def ar_270 : List ai_R := [(0, .iconst 0, 1, .null, 0, 0, 0, 0), (1, .istore_n 2, 1, .null, 0, 0, 0, 0), (2, .iload_n 2, 1, .null, 0, 0, 0, 0), (3, .iload_n 1, 1, .null, 0, 0, 0, 0),
  (4, .if_icmp .gt 223, 3, .null, 125, 0, 0, 0), (7, .iconst 0, 1, .null, 0, 0, 0, 0), (8, .istore_n 3, 1, .null, 0, 0, 0, 0), (9, .iload_n 3, 1, .null, 0, 0, 0, 0),
  (10, .aload_n 0, 1, .null, 0, 0, 0, 0), (11, .getfield 13, 3, .null, 11, 1, 12001, 0), (14, .iconst 0, 1, .null, 0, 0, 0, 0), (15, .iaload, 1, .null, 0, 0, 0, 0),
  (16, .if_icmp .ge 205, 3, .null, 123, 0, 0, 0), (19, .iconst 0, 1, .null, 0, 0, 0, 0), (20, .istore 4, 2, .null, 0, 0, 0, 0), (22, .iload 4, 2, .null, 0, 0, 0, 0),
  (24, .aload_n 0, 1, .null, 0, 0, 0, 0), (25, .getfield 13, 3, .null, 11, 1, 12001, 0), (28, .iconst 0, 1, .null, 0, 0, 0, 0), (29, .iaload, 1, .null, 0, 0, 0, 0),
  (30, .if_icmp .ge 185, 3, .null, 121, 0, 0, 0), (33, .sipush 196, 3, .null, 0, 0, 0, 0), (36, .iload_n 2, 1, .null, 0, 0, 0, 0), (37, .imul, 1, .null, 0, 0, 0, 0),
  (38, .bipush 14, 2, .null, 0, 0, 0, 0), (40, .iload_n 3, 1, .null, 0, 0, 0, 0), (41, .imul, 1, .null, 0, 0, 0, 0), (42, .iadd, 1, .null, 0, 0, 0, 0),
  (43, .iload 4, 2, .null, 0, 0, 0, 0), (45, .iadd, 1, .null, 0, 0, 0, 0), (46, .istore 5, 2, .null, 0, 0, 0, 0), (48, .aload_n 0, 1, .null, 0, 0, 0, 0),
  (49, .getfield 74, 3, .null, 11, 31, 12031, 0), (52, .iload 5, 2, .null, 0, 0, 0, 0), (54, .iload_n 2, 1, .null, 0, 0, 0, 0), (55, .ifCond .ne 7, 3, .null, 38, 0, 0, 0),
  (58, .lconst 1, 1, .null, 0, 0, 0, 0), (59, .goto 4, 3, .null, 39, 0, 0, 0), (62, .lconst 0, 1, .null, 0, 0, 0, 0), (63, .lastore, 1, .null, 0, 0, 0, 0),
  (64, .aload_n 0, 1, .null, 0, 0, 0, 0), (65, .getfield 77, 3, .null, 11, 32, 12032, 0), (68, .iload 5, 2, .null, 0, 0, 0, 0), (70, .iload_n 2, 1, .null, 0, 0, 0, 0),
  (71, .ifCond .ne 7, 3, .null, 47, 0, 0, 0), (74, .iconst 1, 1, .null, 0, 0, 0, 0), (75, .goto 4, 3, .null, 48, 0, 0, 0), (78, .iconst 0, 1, .null, 0, 0, 0, 0),
  (79, .bastore, 1, .null, 0, 0, 0, 0), (80, .iconst 0, 1, .null, 0, 0, 0, 0), (81, .istore 6, 2, .null, 0, 0, 0, 0), (83, .iload 6, 2, .null, 0, 0, 0, 0),
  (85, .aload_n 0, 1, .null, 0, 0, 0, 0), (86, .getfield 13, 3, .null, 11, 1, 12001, 0), (89, .iconst 1, 1, .null, 0, 0, 0, 0), (90, .iaload, 1, .null, 0, 0, 0, 0),
  (91, .if_icmp .ge 118, 3, .null, 119, 0, 0, 0), (94, .iload_n 2, 1, .null, 0, 0, 0, 0), (95, .ifCond .le 114, 3, .null, 119, 0, 0, 0), (98, .aload_n 0, 1, .null, 0, 0, 0, 0),
  (99, .iload_n 3, 1, .null, 0, 0, 0, 0), (100, .iload 6, 2, .null, 0, 0, 0, 0), (102, .invokevirtual 211, 3, .null, 0, 210, 12230, 0), (105, .istore 7, 2, .null, 0, 0, 0, 0),
  (107, .aload_n 0, 1, .null, 0, 0, 0, 0), (108, .iload 4, 2, .null, 0, 0, 0, 0), (110, .iload 6, 2, .null, 0, 0, 0, 0), (112, .invokevirtual 211, 3, .null, 0, 210, 12230, 0),
  (115, .istore 8, 2, .null, 0, 0, 0, 0), (117, .iload 7, 2, .null, 0, 0, 0, 0), (119, .iload 8, 2, .null, 0, 0, 0, 0), (121, .if_icmp .ne 6, 3, .null, 73, 0, 0, 0),
  (124, .goto 79, 3, .null, 117, 0, 0, 0), (127, .sipush 196, 3, .null, 0, 0, 0, 0), (130, .iload_n 2, 1, .null, 0, 0, 0, 0), (131, .iconst 1, 1, .null, 0, 0, 0, 0),
  (132, .isub, 1, .null, 0, 0, 0, 0), (133, .imul, 1, .null, 0, 0, 0, 0), (134, .bipush 14, 2, .null, 0, 0, 0, 0), (136, .iload 7, 2, .null, 0, 0, 0, 0),
  (138, .imul, 1, .null, 0, 0, 0, 0), (139, .iadd, 1, .null, 0, 0, 0, 0), (140, .iload 8, 2, .null, 0, 0, 0, 0), (142, .iadd, 1, .null, 0, 0, 0, 0),
  (143, .istore 9, 2, .null, 0, 0, 0, 0), (145, .aload_n 0, 1, .null, 0, 0, 0, 0), (146, .getfield 74, 3, .null, 11, 31, 12031, 0), (149, .iload 5, 2, .null, 0, 0, 0, 0),
  (151, .aload_n 0, 1, .null, 0, 0, 0, 0), (152, .getfield 74, 3, .null, 11, 31, 12031, 0), (155, .iload 5, 2, .null, 0, 0, 0, 0), (157, .laload, 1, .null, 0, 0, 0, 0),
  (158, .aload_n 0, 1, .null, 0, 0, 0, 0), (159, .getfield 74, 3, .null, 11, 31, 12031, 0), (162, .iload 9, 2, .null, 0, 0, 0, 0), (164, .laload, 1, .null, 0, 0, 0, 0),
  (165, .ladd, 1, .null, 0, 0, 0, 0), (166, .ldc2_w 301, 3, .long (1000000007), 0, 0, 13165, 0), (169, .lrem, 1, .null, 0, 0, 0, 0), (170, .lastore, 1, .null, 0, 0, 0, 0),
  (171, .aload_n 0, 1, .null, 0, 0, 0, 0), (172, .getfield 77, 3, .null, 11, 32, 12032, 0), (175, .iload 5, 2, .null, 0, 0, 0, 0), (177, .aload_n 0, 1, .null, 0, 0, 0, 0),
  (178, .getfield 77, 3, .null, 11, 32, 12032, 0), (181, .iload 5, 2, .null, 0, 0, 0, 0), (183, .baload, 1, .null, 0, 0, 0, 0), (184, .ifCond .ne 13, 3, .null, 113, 0, 0, 0),
  (187, .aload_n 0, 1, .null, 0, 0, 0, 0), (188, .getfield 77, 3, .null, 11, 32, 12032, 0), (191, .iload 9, 2, .null, 0, 0, 0, 0), (193, .baload, 1, .null, 0, 0, 0, 0),
  (194, .ifCond .eq 7, 3, .null, 115, 0, 0, 0), (197, .iconst 1, 1, .null, 0, 0, 0, 0), (198, .goto 4, 3, .null, 116, 0, 0, 0), (201, .iconst 0, 1, .null, 0, 0, 0, 0),
  (202, .bastore, 1, .null, 0, 0, 0, 0), (203, .iinc 6 1, 3, .null, 0, 0, 0, 0), (206, .goto (-123), 3, .null, 51, 0, 0, 0), (209, .iinc 4 1, 3, .null, 0, 0, 0, 0),
  (212, .goto (-190), 3, .null, 15, 0, 0, 0), (215, .iinc 3 1, 3, .null, 0, 0, 0, 0), (218, .goto (-209), 3, .null, 7, 0, 0, 0), (221, .iinc 2 1, 3, .null, 0, 0, 0, 0),
  (224, .goto (-222), 3, .null, 2, 0, 0, 0), (227, .return_, 1, .null, 0, 0, 0, 0)]
def ar_271 : List ai_R := [(0, .aload_n 0, 1, .null, 0, 0, 0, 0), (1, .iconst 0, 1, .null, 0, 0, 0, 0), (2, .putfield 1, 3, .null, 11, 0, 12000, 0), (5, .aload_n 0, 1, .null, 0, 0, 0, 0),
  (6, .iload_n 1, 1, .null, 0, 0, 0, 0), (7, .invokevirtual 219, 3, .null, 0, 209, 13002, 0), (10, .ifCond .eq 16, 3, .null, 14, 0, 0, 0), (13, .aload_n 0, 1, .null, 0, 0, 0, 0),
  (14, .iload_n 2, 1, .null, 0, 0, 0, 0), (15, .invokevirtual 219, 3, .null, 0, 209, 13002, 0), (18, .ifCond .eq 8, 3, .null, 14, 0, 0, 0), (21, .iload_n 1, 1, .null, 0, 0, 0, 0),
  (22, .iload_n 2, 1, .null, 0, 0, 0, 0), (23, .if_icmp .ne 6, 3, .null, 16, 0, 0, 0), (26, .bipush (-2), 2, .null, 0, 0, 0, 0), (28, .ireturn, 1, .null, 0, 0, 0, 0),
  (29, .iload_n 3, 1, .null, 0, 0, 0, 0), (30, .i2l, 1, .null, 0, 0, 0, 0), (31, .lconst 0, 1, .null, 0, 0, 0, 0), (32, .ldc2_w 334, 3, .long (40), 0, 0, 14001, 0),
  (35, .invokestatic 164, 3, .null, 1, 181, 12130, 0), (38, .ifCond .ne 6, 3, .null, 24, 0, 0, 0), (41, .bipush (-3), 2, .null, 0, 0, 0, 0), (43, .ireturn, 1, .null, 0, 0, 0, 0),
  (44, .aload_n 0, 1, .null, 0, 0, 0, 0), (45, .iload_n 3, 1, .null, 0, 0, 0, 0), (46, .invokevirtual 336, 3, .null, 0, 270, 14002, 0), (49, .aload_n 0, 1, .null, 0, 0, 0, 0),
  (50, .getfield 74, 3, .null, 11, 31, 12031, 0), (53, .sipush 196, 3, .null, 0, 0, 0, 0), (56, .iload_n 3, 1, .null, 0, 0, 0, 0), (57, .imul, 1, .null, 0, 0, 0, 0),
  (58, .bipush 14, 2, .null, 0, 0, 0, 0), (60, .aload_n 0, 1, .null, 0, 0, 0, 0), (61, .getfield 13, 3, .null, 11, 1, 12001, 0), (64, .sipush 272, 3, .null, 0, 0, 0, 0),
  (67, .iload_n 1, 1, .null, 0, 0, 0, 0), (68, .iadd, 1, .null, 0, 0, 0, 0), (69, .iaload, 1, .null, 0, 0, 0, 0), (70, .imul, 1, .null, 0, 0, 0, 0),
  (71, .iadd, 1, .null, 0, 0, 0, 0), (72, .aload_n 0, 1, .null, 0, 0, 0, 0), (73, .getfield 13, 3, .null, 11, 1, 12001, 0), (76, .sipush 272, 3, .null, 0, 0, 0, 0),
  (79, .iload_n 2, 1, .null, 0, 0, 0, 0), (80, .iadd, 1, .null, 0, 0, 0, 0), (81, .iaload, 1, .null, 0, 0, 0, 0), (82, .iadd, 1, .null, 0, 0, 0, 0),
  (83, .laload, 1, .null, 0, 0, 0, 0), (84, .l2i, 1, .null, 0, 0, 0, 0), (85, .ireturn, 1, .null, 0, 0, 0, 0)]
def ar_272 : List ai_R := [(0, .aload_n 0, 1, .null, 0, 0, 0, 0), (1, .iconst 0, 1, .null, 0, 0, 0, 0), (2, .putfield 1, 3, .null, 11, 0, 12000, 0), (5, .aload_n 0, 1, .null, 0, 0, 0, 0),
  (6, .iload_n 1, 1, .null, 0, 0, 0, 0), (7, .invokevirtual 219, 3, .null, 0, 209, 13002, 0), (10, .ifCond .eq 16, 3, .null, 14, 0, 0, 0), (13, .aload_n 0, 1, .null, 0, 0, 0, 0),
  (14, .iload_n 2, 1, .null, 0, 0, 0, 0), (15, .invokevirtual 219, 3, .null, 0, 209, 13002, 0), (18, .ifCond .eq 8, 3, .null, 14, 0, 0, 0), (21, .iload_n 1, 1, .null, 0, 0, 0, 0),
  (22, .iload_n 2, 1, .null, 0, 0, 0, 0), (23, .if_icmp .ne 6, 3, .null, 16, 0, 0, 0), (26, .bipush (-2), 2, .null, 0, 0, 0, 0), (28, .ireturn, 1, .null, 0, 0, 0, 0),
  (29, .iload_n 3, 1, .null, 0, 0, 0, 0), (30, .i2l, 1, .null, 0, 0, 0, 0), (31, .lconst 0, 1, .null, 0, 0, 0, 0), (32, .ldc2_w 334, 3, .long (40), 0, 0, 14001, 0),
  (35, .invokestatic 164, 3, .null, 1, 181, 12130, 0), (38, .ifCond .ne 6, 3, .null, 24, 0, 0, 0), (41, .bipush (-3), 2, .null, 0, 0, 0, 0), (43, .ireturn, 1, .null, 0, 0, 0, 0),
  (44, .aload_n 0, 1, .null, 0, 0, 0, 0), (45, .iload_n 3, 1, .null, 0, 0, 0, 0), (46, .invokevirtual 336, 3, .null, 0, 270, 14002, 0), (49, .aload_n 0, 1, .null, 0, 0, 0, 0),
  (50, .getfield 13, 3, .null, 11, 1, 12001, 0), (53, .sipush 272, 3, .null, 0, 0, 0, 0), (56, .iload_n 1, 1, .null, 0, 0, 0, 0), (57, .iadd, 1, .null, 0, 0, 0, 0),
  (58, .iaload, 1, .null, 0, 0, 0, 0), (59, .istore 4, 2, .null, 0, 0, 0, 0), (61, .aload_n 0, 1, .null, 0, 0, 0, 0), (62, .getfield 13, 3, .null, 11, 1, 12001, 0),
  (65, .sipush 272, 3, .null, 0, 0, 0, 0), (68, .iload_n 2, 1, .null, 0, 0, 0, 0), (69, .iadd, 1, .null, 0, 0, 0, 0), (70, .iaload, 1, .null, 0, 0, 0, 0),
  (71, .istore 5, 2, .null, 0, 0, 0, 0), (73, .aload_n 0, 1, .null, 0, 0, 0, 0), (74, .getfield 77, 3, .null, 11, 32, 12032, 0), (77, .sipush 196, 3, .null, 0, 0, 0, 0),
  (80, .iload_n 3, 1, .null, 0, 0, 0, 0), (81, .imul, 1, .null, 0, 0, 0, 0), (82, .bipush 14, 2, .null, 0, 0, 0, 0), (84, .iload 4, 2, .null, 0, 0, 0, 0),
  (86, .imul, 1, .null, 0, 0, 0, 0), (87, .iadd, 1, .null, 0, 0, 0, 0), (88, .iload 5, 2, .null, 0, 0, 0, 0), (90, .iadd, 1, .null, 0, 0, 0, 0),
  (91, .baload, 1, .null, 0, 0, 0, 0), (92, .ifCond .ne 5, 3, .null, 56, 0, 0, 0), (95, .iconst (-1), 1, .null, 0, 0, 0, 0), (96, .ireturn, 1, .null, 0, 0, 0, 0),
  (97, .aload_n 0, 1, .null, 0, 0, 0, 0), (98, .getfield 13, 3, .null, 11, 1, 12001, 0), (101, .sipush 281, 3, .null, 0, 0, 0, 0), (104, .iload_n 3, 1, .null, 0, 0, 0, 0),
  (105, .iastore, 1, .null, 0, 0, 0, 0), (106, .iload_n 3, 1, .null, 0, 0, 0, 0), (107, .istore 6, 2, .null, 0, 0, 0, 0), (109, .iload 6, 2, .null, 0, 0, 0, 0),
  (111, .ifCond .le 109, 3, .null, 120, 0, 0, 0), (114, .iconst 0, 1, .null, 0, 0, 0, 0), (115, .istore 7, 2, .null, 0, 0, 0, 0), (117, .aload_n 0, 1, .null, 0, 0, 0, 0),
  (118, .iload 4, 2, .null, 0, 0, 0, 0), (120, .iload 7, 2, .null, 0, 0, 0, 0), (122, .invokevirtual 211, 3, .null, 0, 210, 12230, 0), (125, .aload_n 0, 1, .null, 0, 0, 0, 0),
  (126, .iload 5, 2, .null, 0, 0, 0, 0), (128, .iload 7, 2, .null, 0, 0, 0, 0), (130, .invokevirtual 211, 3, .null, 0, 210, 12230, 0), (133, .if_icmp .eq 40, 3, .null, 97, 0, 0, 0),
  (136, .aload_n 0, 1, .null, 0, 0, 0, 0), (137, .getfield 77, 3, .null, 11, 32, 12032, 0), (140, .sipush 196, 3, .null, 0, 0, 0, 0), (143, .iload 6, 2, .null, 0, 0, 0, 0),
  (145, .iconst 1, 1, .null, 0, 0, 0, 0), (146, .isub, 1, .null, 0, 0, 0, 0), (147, .imul, 1, .null, 0, 0, 0, 0), (148, .bipush 14, 2, .null, 0, 0, 0, 0),
  (150, .aload_n 0, 1, .null, 0, 0, 0, 0), (151, .iload 4, 2, .null, 0, 0, 0, 0), (153, .iload 7, 2, .null, 0, 0, 0, 0), (155, .invokevirtual 211, 3, .null, 0, 210, 12230, 0),
  (158, .imul, 1, .null, 0, 0, 0, 0), (159, .iadd, 1, .null, 0, 0, 0, 0), (160, .aload_n 0, 1, .null, 0, 0, 0, 0), (161, .iload 5, 2, .null, 0, 0, 0, 0),
  (163, .iload 7, 2, .null, 0, 0, 0, 0), (165, .invokevirtual 211, 3, .null, 0, 210, 12230, 0), (168, .iadd, 1, .null, 0, 0, 0, 0), (169, .baload, 1, .null, 0, 0, 0, 0),
  (170, .ifCond .ne 9, 3, .null, 99, 0, 0, 0), (173, .iinc 7 1, 3, .null, 0, 0, 0, 0), (176, .goto (-59), 3, .null, 67, 0, 0, 0), (179, .aload_n 0, 1, .null, 0, 0, 0, 0),
  (180, .getfield 13, 3, .null, 11, 1, 12001, 0), (183, .sipush 282, 3, .null, 0, 0, 0, 0), (186, .iload_n 3, 1, .null, 0, 0, 0, 0), (187, .iadd, 1, .null, 0, 0, 0, 0),
  (188, .iload 6, 2, .null, 0, 0, 0, 0), (190, .isub, 1, .null, 0, 0, 0, 0), (191, .iload 7, 2, .null, 0, 0, 0, 0), (193, .iastore, 1, .null, 0, 0, 0, 0),
  (194, .aload_n 0, 1, .null, 0, 0, 0, 0), (195, .iload 4, 2, .null, 0, 0, 0, 0), (197, .iload 7, 2, .null, 0, 0, 0, 0), (199, .invokevirtual 211, 3, .null, 0, 210, 12230, 0),
  (202, .istore 4, 2, .null, 0, 0, 0, 0), (204, .aload_n 0, 1, .null, 0, 0, 0, 0), (205, .iload 5, 2, .null, 0, 0, 0, 0), (207, .iload 7, 2, .null, 0, 0, 0, 0),
  (209, .invokevirtual 211, 3, .null, 0, 210, 12230, 0), (212, .istore 5, 2, .null, 0, 0, 0, 0), (214, .iinc 6 (-1), 3, .null, 0, 0, 0, 0), (217, .goto (-108), 3, .null, 63, 0, 0, 0),
  (220, .iload_n 3, 1, .null, 0, 0, 0, 0), (221, .ireturn, 1, .null, 0, 0, 0, 0)]
def ar_273 : List ai_R := [(0, .aload_n 0, 1, .null, 0, 0, 0, 0), (1, .iconst 0, 1, .null, 0, 0, 0, 0), (2, .putfield 1, 3, .null, 11, 0, 12000, 0), (5, .iload_n 1, 1, .null, 0, 0, 0, 0),
  (6, .i2l, 1, .null, 0, 0, 0, 0), (7, .lconst 0, 1, .null, 0, 0, 0, 0), (8, .ldc2_w 225, 3, .long (3), 0, 0, 13018, 0), (11, .invokestatic 164, 3, .null, 1, 181, 12130, 0),
  (14, .ifCond .eq 21, 3, .null, 19, 0, 0, 0), (17, .aload_n 0, 1, .null, 0, 0, 0, 0), (18, .iload_n 2, 1, .null, 0, 0, 0, 0), (19, .invokevirtual 214, 3, .null, 0, 207, 12225, 0),
  (22, .ifCond .eq 13, 3, .null, 19, 0, 0, 0), (25, .iload_n 3, 1, .null, 0, 0, 0, 0), (26, .i2l, 1, .null, 0, 0, 0, 0), (27, .lconst 0, 1, .null, 0, 0, 0, 0),
  (28, .lconst 1, 1, .null, 0, 0, 0, 0), (29, .invokestatic 164, 3, .null, 1, 181, 12130, 0), (32, .ifCond .ne 6, 3, .null, 21, 0, 0, 0), (35, .bipush (-2), 2, .null, 0, 0, 0, 0),
  (37, .ireturn, 1, .null, 0, 0, 0, 0), (38, .aload_n 0, 1, .null, 0, 0, 0, 0), (39, .iload_n 1, 1, .null, 0, 0, 0, 0), (40, .invokevirtual 233, 3, .null, 0, 221, 13027, 0),
  (43, .istore 4, 2, .null, 0, 0, 0, 0), (45, .iload 4, 2, .null, 0, 0, 0, 0), (47, .ifCond .eq 6, 3, .null, 29, 0, 0, 0), (50, .iload 4, 2, .null, 0, 0, 0, 0),
  (52, .ireturn, 1, .null, 0, 0, 0, 0), (53, .iload_n 2, 1, .null, 0, 0, 0, 0), (54, .istore 5, 2, .null, 0, 0, 0, 0), (56, .iconst 0, 1, .null, 0, 0, 0, 0),
  (57, .istore 6, 2, .null, 0, 0, 0, 0), (59, .iload 6, 2, .null, 0, 0, 0, 0), (61, .aload_n 0, 1, .null, 0, 0, 0, 0), (62, .getfield 13, 3, .null, 11, 1, 12001, 0),
  (65, .iconst 0, 1, .null, 0, 0, 0, 0), (66, .iaload, 1, .null, 0, 0, 0, 0), (67, .if_icmp .ge 24, 3, .null, 50, 0, 0, 0), (70, .aload_n 0, 1, .null, 0, 0, 0, 0),
  (71, .iload_n 1, 1, .null, 0, 0, 0, 0), (72, .iload 5, 2, .null, 0, 0, 0, 0), (74, .aload_n 0, 1, .null, 0, 0, 0, 0), (75, .getfield 95, 3, .null, 11, 38, 12038, 0),
  (78, .iload_n 1, 1, .null, 0, 0, 0, 0), (79, .iaload, 1, .null, 0, 0, 0, 0), (80, .invokevirtual 236, 3, .null, 0, 223, 13031, 0), (83, .istore 5, 2, .null, 0, 0, 0, 0),
  (85, .iinc 6 1, 3, .null, 0, 0, 0, 0), (88, .goto (-29), 3, .null, 33, 0, 0, 0), (91, .iconst 1, 1, .null, 0, 0, 0, 0), (92, .istore 6, 2, .null, 0, 0, 0, 0),
  (94, .iconst 1, 1, .null, 0, 0, 0, 0), (95, .iload 5, 2, .null, 0, 0, 0, 0), (97, .ishl, 1, .null, 0, 0, 0, 0), (98, .istore 7, 2, .null, 0, 0, 0, 0),
  (100, .aload_n 0, 1, .null, 0, 0, 0, 0), (101, .iload_n 1, 1, .null, 0, 0, 0, 0), (102, .iload 5, 2, .null, 0, 0, 0, 0), (104, .aload_n 0, 1, .null, 0, 0, 0, 0),
  (105, .getfield 95, 3, .null, 11, 38, 12038, 0), (108, .iload_n 1, 1, .null, 0, 0, 0, 0), (109, .iaload, 1, .null, 0, 0, 0, 0), (110, .invokevirtual 236, 3, .null, 0, 223, 13031, 0),
  (113, .istore 8, 2, .null, 0, 0, 0, 0), (115, .iload 8, 2, .null, 0, 0, 0, 0), (117, .iload 5, 2, .null, 0, 0, 0, 0), (119, .if_icmp .eq 33, 3, .null, 85, 0, 0, 0),
  (122, .iinc 6 1, 3, .null, 0, 0, 0, 0), (125, .iload 7, 2, .null, 0, 0, 0, 0), (127, .iconst 1, 1, .null, 0, 0, 0, 0), (128, .iload 8, 2, .null, 0, 0, 0, 0),
  (130, .ishl, 1, .null, 0, 0, 0, 0), (131, .ior, 1, .null, 0, 0, 0, 0), (132, .istore 7, 2, .null, 0, 0, 0, 0), (134, .aload_n 0, 1, .null, 0, 0, 0, 0),
  (135, .iload_n 1, 1, .null, 0, 0, 0, 0), (136, .iload 8, 2, .null, 0, 0, 0, 0), (138, .aload_n 0, 1, .null, 0, 0, 0, 0), (139, .getfield 95, 3, .null, 11, 38, 12038, 0),
  (142, .iload_n 1, 1, .null, 0, 0, 0, 0), (143, .iaload, 1, .null, 0, 0, 0, 0), (144, .invokevirtual 236, 3, .null, 0, 223, 13031, 0), (147, .istore 8, 2, .null, 0, 0, 0, 0),
  (149, .goto (-34), 3, .null, 65, 0, 0, 0), (152, .iconst 0, 1, .null, 0, 0, 0, 0), (153, .istore 8, 2, .null, 0, 0, 0, 0), (155, .iload_n 2, 1, .null, 0, 0, 0, 0),
  (156, .istore 9, 2, .null, 0, 0, 0, 0), (158, .iload 7, 2, .null, 0, 0, 0, 0), (160, .iload 9, 2, .null, 0, 0, 0, 0), (162, .ishr, 1, .null, 0, 0, 0, 0),
  (163, .iconst 1, 1, .null, 0, 0, 0, 0), (164, .iand, 1, .null, 0, 0, 0, 0), (165, .ifCond .ne 24, 3, .null, 106, 0, 0, 0), (168, .iinc 8 1, 3, .null, 0, 0, 0, 0),
  (171, .aload_n 0, 1, .null, 0, 0, 0, 0), (172, .iload_n 1, 1, .null, 0, 0, 0, 0), (173, .iload 9, 2, .null, 0, 0, 0, 0), (175, .aload_n 0, 1, .null, 0, 0, 0, 0),
  (176, .getfield 95, 3, .null, 11, 38, 12038, 0), (179, .iload_n 1, 1, .null, 0, 0, 0, 0), (180, .iaload, 1, .null, 0, 0, 0, 0), (181, .invokevirtual 236, 3, .null, 0, 223, 13031, 0),
  (184, .istore 9, 2, .null, 0, 0, 0, 0), (186, .goto (-28), 3, .null, 89, 0, 0, 0), (189, .iload_n 3, 1, .null, 0, 0, 0, 0), (190, .ifCond .ne 8, 3, .null, 110, 0, 0, 0),
  (193, .iload 8, 2, .null, 0, 0, 0, 0), (195, .goto 5, 3, .null, 111, 0, 0, 0), (198, .iload 6, 2, .null, 0, 0, 0, 0), (200, .ireturn, 1, .null, 0, 0, 0, 0)]
def ar_274 : List ai_R := [(0, .iconst 0, 1, .null, 0, 0, 0, 0), (1, .istore_n 2, 1, .null, 0, 0, 0, 0), (2, .iload_n 2, 1, .null, 0, 0, 0, 0), (3, .aload_n 0, 1, .null, 0, 0, 0, 0),
  (4, .getfield 13, 3, .null, 11, 1, 12001, 0), (7, .iconst 0, 1, .null, 0, 0, 0, 0), (8, .iaload, 1, .null, 0, 0, 0, 0), (9, .if_icmp .ge 25, 3, .null, 20, 0, 0, 0),
  (12, .aload_n 0, 1, .null, 0, 0, 0, 0), (13, .getfield 80, 3, .null, 11, 33, 12033, 0), (16, .iload_n 2, 1, .null, 0, 0, 0, 0), (17, .iload_n 2, 1, .null, 0, 0, 0, 0),
  (18, .iload_n 1, 1, .null, 0, 0, 0, 0), (19, .if_icmp .ne 7, 3, .null, 16, 0, 0, 0), (22, .lconst 1, 1, .null, 0, 0, 0, 0), (23, .goto 4, 3, .null, 17, 0, 0, 0),
  (26, .lconst 0, 1, .null, 0, 0, 0, 0), (27, .lastore, 1, .null, 0, 0, 0, 0), (28, .iinc 2 1, 3, .null, 0, 0, 0, 0), (31, .goto (-29), 3, .null, 2, 0, 0, 0),
  (34, .return_, 1, .null, 0, 0, 0, 0)]
def ar_275 : List ai_R := [(0, .iconst 0, 1, .null, 0, 0, 0, 0), (1, .istore_n 2, 1, .null, 0, 0, 0, 0), (2, .iload_n 2, 1, .null, 0, 0, 0, 0), (3, .aload_n 0, 1, .null, 0, 0, 0, 0),
  (4, .getfield 13, 3, .null, 11, 1, 12001, 0), (7, .iconst 0, 1, .null, 0, 0, 0, 0), (8, .iaload, 1, .null, 0, 0, 0, 0), (9, .if_icmp .ge 16, 3, .null, 15, 0, 0, 0),
  (12, .aload_n 0, 1, .null, 0, 0, 0, 0), (13, .getfield 83, 3, .null, 11, 34, 12034, 0), (16, .iload_n 2, 1, .null, 0, 0, 0, 0), (17, .lconst 0, 1, .null, 0, 0, 0, 0),
  (18, .lastore, 1, .null, 0, 0, 0, 0), (19, .iinc 2 1, 3, .null, 0, 0, 0, 0), (22, .goto (-20), 3, .null, 2, 0, 0, 0), (25, .iconst 0, 1, .null, 0, 0, 0, 0),
  (26, .istore_n 2, 1, .null, 0, 0, 0, 0), (27, .iload_n 2, 1, .null, 0, 0, 0, 0), (28, .aload_n 0, 1, .null, 0, 0, 0, 0), (29, .getfield 13, 3, .null, 11, 1, 12001, 0),
  (32, .iconst 0, 1, .null, 0, 0, 0, 0), (33, .iaload, 1, .null, 0, 0, 0, 0), (34, .if_icmp .ge 84, 3, .null, 76, 0, 0, 0), (37, .aload_n 0, 1, .null, 0, 0, 0, 0),
  (38, .getfield 13, 3, .null, 11, 1, 12001, 0), (41, .sipush 170, 3, .null, 0, 0, 0, 0), (44, .iload_n 2, 1, .null, 0, 0, 0, 0), (45, .iload_n 1, 1, .null, 0, 0, 0, 0),
  (46, .invokestatic 172, 3, .null, 1, 196, 12178, 0), (49, .iadd, 1, .null, 0, 0, 0, 0), (50, .iaload, 1, .null, 0, 0, 0, 0), (51, .istore_n 3, 1, .null, 0, 0, 0, 0),
  (52, .aload_n 0, 1, .null, 0, 0, 0, 0), (53, .getfield 83, 3, .null, 11, 34, 12034, 0), (56, .aload_n 0, 1, .null, 0, 0, 0, 0), (57, .iload_n 2, 1, .null, 0, 0, 0, 0),
  (58, .iload_n 1, 1, .null, 0, 0, 0, 0), (59, .invokevirtual 211, 3, .null, 0, 210, 12230, 0), (62, .dup2, 1, .null, 0, 0, 0, 0), (63, .laload, 1, .null, 0, 0, 0, 0),
  (64, .aload_n 0, 1, .null, 0, 0, 0, 0), (65, .getfield 80, 3, .null, 11, 33, 12033, 0), (68, .iload_n 2, 1, .null, 0, 0, 0, 0), (69, .laload, 1, .null, 0, 0, 0, 0),
  (70, .bipush 100, 2, .null, 0, 0, 0, 0), (72, .iload_n 3, 1, .null, 0, 0, 0, 0), (73, .isub, 1, .null, 0, 0, 0, 0), (74, .i2l, 1, .null, 0, 0, 0, 0),
  (75, .lmul, 1, .null, 0, 0, 0, 0), (76, .ladd, 1, .null, 0, 0, 0, 0), (77, .lastore, 1, .null, 0, 0, 0, 0), (78, .iload_n 3, 1, .null, 0, 0, 0, 0),
  (79, .ifCond .le 33, 3, .null, 74, 0, 0, 0), (82, .aload_n 0, 1, .null, 0, 0, 0, 0), (83, .getfield 83, 3, .null, 11, 34, 12034, 0), (86, .aload_n 0, 1, .null, 0, 0, 0, 0),
  (87, .getfield 13, 3, .null, 11, 1, 12001, 0), (90, .bipush 86, 2, .null, 0, 0, 0, 0), (92, .iload_n 2, 1, .null, 0, 0, 0, 0), (93, .iload_n 1, 1, .null, 0, 0, 0, 0),
  (94, .invokestatic 172, 3, .null, 1, 196, 12178, 0), (97, .iadd, 1, .null, 0, 0, 0, 0), (98, .iaload, 1, .null, 0, 0, 0, 0), (99, .dup2, 1, .null, 0, 0, 0, 0),
  (100, .laload, 1, .null, 0, 0, 0, 0), (101, .aload_n 0, 1, .null, 0, 0, 0, 0), (102, .getfield 80, 3, .null, 11, 33, 12033, 0), (105, .iload_n 2, 1, .null, 0, 0, 0, 0),
  (106, .laload, 1, .null, 0, 0, 0, 0), (107, .iload_n 3, 1, .null, 0, 0, 0, 0), (108, .i2l, 1, .null, 0, 0, 0, 0), (109, .lmul, 1, .null, 0, 0, 0, 0),
  (110, .ladd, 1, .null, 0, 0, 0, 0), (111, .lastore, 1, .null, 0, 0, 0, 0), (112, .iinc 2 1, 3, .null, 0, 0, 0, 0), (115, .goto (-88), 3, .null, 17, 0, 0, 0),
  (118, .iconst 0, 1, .null, 0, 0, 0, 0), (119, .istore_n 2, 1, .null, 0, 0, 0, 0), (120, .iload_n 2, 1, .null, 0, 0, 0, 0), (121, .aload_n 0, 1, .null, 0, 0, 0, 0),
  (122, .getfield 13, 3, .null, 11, 1, 12001, 0), (125, .iconst 0, 1, .null, 0, 0, 0, 0), (126, .iaload, 1, .null, 0, 0, 0, 0), (127, .if_icmp .ge 21, 3, .null, 94, 0, 0, 0),
  (130, .aload_n 0, 1, .null, 0, 0, 0, 0), (131, .getfield 80, 3, .null, 11, 33, 12033, 0), (134, .iload_n 2, 1, .null, 0, 0, 0, 0), (135, .aload_n 0, 1, .null, 0, 0, 0, 0),
  (136, .getfield 83, 3, .null, 11, 34, 12034, 0), (139, .iload_n 2, 1, .null, 0, 0, 0, 0), (140, .laload, 1, .null, 0, 0, 0, 0), (141, .lastore, 1, .null, 0, 0, 0, 0),
  (142, .iinc 2 1, 3, .null, 0, 0, 0, 0), (145, .goto (-25), 3, .null, 78, 0, 0, 0), (148, .return_, 1, .null, 0, 0, 0, 0)]
def ar_276 : List ai_R := [(0, .aload_n 0, 1, .null, 0, 0, 0, 0), (1, .iconst 0, 1, .null, 0, 0, 0, 0), (2, .putfield 1, 3, .null, 11, 0, 12000, 0), (5, .iload_n 1, 1, .null, 0, 0, 0, 0),
  (6, .i2l, 1, .null, 0, 0, 0, 0), (7, .lconst 0, 1, .null, 0, 0, 0, 0), (8, .ldc2_w 225, 3, .long (3), 0, 0, 13018, 0), (11, .invokestatic 164, 3, .null, 1, 181, 12130, 0),
  (14, .ifCond .eq 19, 3, .null, 17, 0, 0, 0), (17, .aload_n 0, 1, .null, 0, 0, 0, 0), (18, .iload_n 2, 1, .null, 0, 0, 0, 0), (19, .invokevirtual 219, 3, .null, 0, 209, 13002, 0),
  (22, .ifCond .eq 11, 3, .null, 17, 0, 0, 0), (25, .aload_n 0, 1, .null, 0, 0, 0, 0), (26, .iload_n 3, 1, .null, 0, 0, 0, 0), (27, .invokevirtual 214, 3, .null, 0, 207, 12225, 0),
  (30, .ifCond .ne 7, 3, .null, 19, 0, 0, 0), (33, .ldc2_w 339, 3, .long (-2), 0, 0, 14018, 0), (36, .lreturn, 1, .null, 0, 0, 0, 0), (37, .aload_n 0, 1, .null, 0, 0, 0, 0),
  (38, .iload_n 1, 1, .null, 0, 0, 0, 0), (39, .invokevirtual 233, 3, .null, 0, 221, 13027, 0), (42, .istore 4, 2, .null, 0, 0, 0, 0), (44, .iload 4, 2, .null, 0, 0, 0, 0),
  (46, .ifCond .eq 7, 3, .null, 28, 0, 0, 0), (49, .iload 4, 2, .null, 0, 0, 0, 0), (51, .i2l, 1, .null, 0, 0, 0, 0), (52, .lreturn, 1, .null, 0, 0, 0, 0),
  (53, .aload_n 0, 1, .null, 0, 0, 0, 0), (54, .getfield 95, 3, .null, 11, 38, 12038, 0), (57, .iload_n 1, 1, .null, 0, 0, 0, 0), (58, .iaload, 1, .null, 0, 0, 0, 0),
  (59, .bipush 8, 2, .null, 0, 0, 0, 0), (61, .if_icmp .le 7, 3, .null, 36, 0, 0, 0), (64, .ldc2_w 341, 3, .long (-3), 0, 0, 14019, 0), (67, .lreturn, 1, .null, 0, 0, 0, 0),
  (68, .aload_n 0, 1, .null, 0, 0, 0, 0), (69, .aload_n 0, 1, .null, 0, 0, 0, 0), (70, .getfield 13, 3, .null, 11, 1, 12001, 0), (73, .sipush 272, 3, .null, 0, 0, 0, 0),
  (76, .iload_n 2, 1, .null, 0, 0, 0, 0), (77, .iadd, 1, .null, 0, 0, 0, 0), (78, .iaload, 1, .null, 0, 0, 0, 0), (79, .invokevirtual 343, 3, .null, 0, 274, 14020, 0),
  (82, .iconst 0, 1, .null, 0, 0, 0, 0), (83, .istore 5, 2, .null, 0, 0, 0, 0), (85, .iload 5, 2, .null, 0, 0, 0, 0), (87, .aload_n 0, 1, .null, 0, 0, 0, 0),
  (88, .getfield 95, 3, .null, 11, 38, 12038, 0), (91, .iload_n 1, 1, .null, 0, 0, 0, 0), (92, .iaload, 1, .null, 0, 0, 0, 0), (93, .if_icmp .ge 20, 3, .null, 60, 0, 0, 0),
  (96, .aload_n 0, 1, .null, 0, 0, 0, 0), (97, .aload_n 0, 1, .null, 0, 0, 0, 0), (98, .iload_n 1, 1, .null, 0, 0, 0, 0), (99, .iload 5, 2, .null, 0, 0, 0, 0),
  (101, .invokevirtual 230, 3, .null, 0, 222, 13035, 0), (104, .invokevirtual 346, 3, .null, 0, 275, 14024, 0), (107, .iinc 5 1, 3, .null, 0, 0, 0, 0), (110, .goto (-25), 3, .null, 46, 0, 0, 0),
  (113, .aload_n 0, 1, .null, 0, 0, 0, 0), (114, .getfield 80, 3, .null, 11, 33, 12033, 0), (117, .iload_n 3, 1, .null, 0, 0, 0, 0), (118, .laload, 1, .null, 0, 0, 0, 0),
  (119, .lreturn, 1, .null, 0, 0, 0, 0)]
def ar_277 : List ai_R := [(0, .ldc2_w 349, 3, .long (1000000000), 0, 0, 14036, 0), (3, .lstore_n 2, 1, .null, 0, 0, 0, 0), (4, .lconst 1, 1, .null, 0, 0, 0, 0), (5, .lstore 4, 2, .null, 0, 0, 0, 0),
  (7, .iconst 0, 1, .null, 0, 0, 0, 0), (8, .istore 6, 2, .null, 0, 0, 0, 0), (10, .iload 6, 2, .null, 0, 0, 0, 0), (12, .iload_n 1, 1, .null, 0, 0, 0, 0),
  (13, .if_icmp .ge 17, 3, .null, 15, 0, 0, 0), (16, .lload 4, 2, .null, 0, 0, 0, 0), (18, .ldc2_w 351, 3, .long (100), 0, 0, 14037, 0), (21, .lmul, 1, .null, 0, 0, 0, 0),
  (22, .lstore 4, 2, .null, 0, 0, 0, 0), (24, .iinc 6 1, 3, .null, 0, 0, 0, 0), (27, .goto (-17), 3, .null, 6, 0, 0, 0), (30, .iconst 0, 1, .null, 0, 0, 0, 0),
  (31, .istore 6, 2, .null, 0, 0, 0, 0), (33, .iload 6, 2, .null, 0, 0, 0, 0), (35, .aload_n 0, 1, .null, 0, 0, 0, 0), (36, .getfield 13, 3, .null, 11, 1, 12001, 0),
  (39, .sipush 271, 3, .null, 0, 0, 0, 0), (42, .iaload, 1, .null, 0, 0, 0, 0), (43, .if_icmp .ge 69, 3, .null, 58, 0, 0, 0), (46, .aload_n 0, 1, .null, 0, 0, 0, 0),
  (47, .aload_n 0, 1, .null, 0, 0, 0, 0), (48, .getfield 13, 3, .null, 11, 1, 12001, 0), (51, .sipush 272, 3, .null, 0, 0, 0, 0), (54, .iload 6, 2, .null, 0, 0, 0, 0),
  (56, .iadd, 1, .null, 0, 0, 0, 0), (57, .iaload, 1, .null, 0, 0, 0, 0), (58, .invokevirtual 343, 3, .null, 0, 274, 14020, 0), (61, .iconst 0, 1, .null, 0, 0, 0, 0),
  (62, .istore 7, 2, .null, 0, 0, 0, 0), (64, .iload 7, 2, .null, 0, 0, 0, 0), (66, .iload_n 1, 1, .null, 0, 0, 0, 0), (67, .if_icmp .ge 20, 3, .null, 44, 0, 0, 0),
  (70, .aload_n 0, 1, .null, 0, 0, 0, 0), (71, .aload_n 0, 1, .null, 0, 0, 0, 0), (72, .getfield 86, 3, .null, 11, 35, 12035, 0), (75, .iload 7, 2, .null, 0, 0, 0, 0),
  (77, .iaload, 1, .null, 0, 0, 0, 0), (78, .invokevirtual 346, 3, .null, 0, 275, 14024, 0), (81, .iinc 7 1, 3, .null, 0, 0, 0, 0), (84, .goto (-20), 3, .null, 33, 0, 0, 0),
  (87, .lload_n 2, 1, .null, 0, 0, 0, 0), (88, .aload_n 0, 1, .null, 0, 0, 0, 0), (89, .getfield 80, 3, .null, 11, 33, 12033, 0), (92, .aload_n 0, 1, .null, 0, 0, 0, 0),
  (93, .getfield 13, 3, .null, 11, 1, 12001, 0), (96, .sipush 270, 3, .null, 0, 0, 0, 0), (99, .iaload, 1, .null, 0, 0, 0, 0), (100, .laload, 1, .null, 0, 0, 0, 0),
  (101, .lmul, 1, .null, 0, 0, 0, 0), (102, .lload 4, 2, .null, 0, 0, 0, 0), (104, .ldiv, 1, .null, 0, 0, 0, 0), (105, .lstore_n 2, 1, .null, 0, 0, 0, 0),
  (106, .iinc 6 1, 3, .null, 0, 0, 0, 0), (109, .goto (-76), 3, .null, 17, 0, 0, 0), (112, .lload_n 2, 1, .null, 0, 0, 0, 0), (113, .l2i, 1, .null, 0, 0, 0, 0),
  (114, .ireturn, 1, .null, 0, 0, 0, 0)]
def ar_278 : List ai_R := [(0, .aload_n 0, 1, .null, 0, 0, 0, 0), (1, .iconst 0, 1, .null, 0, 0, 0, 0), (2, .putfield 1, 3, .null, 11, 0, 12000, 0), (5, .iload_n 1, 1, .null, 0, 0, 0, 0),
  (6, .i2l, 1, .null, 0, 0, 0, 0), (7, .lconst 0, 1, .null, 0, 0, 0, 0), (8, .ldc2_w 225, 3, .long (3), 0, 0, 13018, 0), (11, .invokestatic 164, 3, .null, 1, 181, 12130, 0),
  (14, .ifCond .ne 6, 3, .null, 11, 0, 0, 0), (17, .bipush (-2), 2, .null, 0, 0, 0, 0), (19, .ireturn, 1, .null, 0, 0, 0, 0), (20, .aload_n 0, 1, .null, 0, 0, 0, 0),
  (21, .getfield 13, 3, .null, 11, 1, 12001, 0), (24, .iconst 0, 1, .null, 0, 0, 0, 0), (25, .iaload, 1, .null, 0, 0, 0, 0), (26, .ifCond .ne 6, 3, .null, 18, 0, 0, 0),
  (29, .bipush (-5), 2, .null, 0, 0, 0, 0), (31, .ireturn, 1, .null, 0, 0, 0, 0), (32, .aload_n 0, 1, .null, 0, 0, 0, 0), (33, .iload_n 1, 1, .null, 0, 0, 0, 0),
  (34, .invokevirtual 233, 3, .null, 0, 221, 13027, 0), (37, .istore_n 2, 1, .null, 0, 0, 0, 0), (38, .iload_n 2, 1, .null, 0, 0, 0, 0), (39, .ifCond .eq 5, 3, .null, 26, 0, 0, 0),
  (42, .iload_n 2, 1, .null, 0, 0, 0, 0), (43, .ireturn, 1, .null, 0, 0, 0, 0), (44, .aload_n 0, 1, .null, 0, 0, 0, 0), (45, .getfield 95, 3, .null, 11, 38, 12038, 0),
  (48, .iload_n 1, 1, .null, 0, 0, 0, 0), (49, .iaload, 1, .null, 0, 0, 0, 0), (50, .iconst 4, 1, .null, 0, 0, 0, 0), (51, .if_icmp .le 6, 3, .null, 34, 0, 0, 0),
  (54, .bipush (-3), 2, .null, 0, 0, 0, 0), (56, .ireturn, 1, .null, 0, 0, 0, 0), (57, .iconst 0, 1, .null, 0, 0, 0, 0), (58, .istore_n 3, 1, .null, 0, 0, 0, 0),
  (59, .iload_n 3, 1, .null, 0, 0, 0, 0), (60, .aload_n 0, 1, .null, 0, 0, 0, 0), (61, .getfield 95, 3, .null, 11, 38, 12038, 0), (64, .iload_n 1, 1, .null, 0, 0, 0, 0),
  (65, .iaload, 1, .null, 0, 0, 0, 0), (66, .if_icmp .ge 21, 3, .null, 52, 0, 0, 0), (69, .aload_n 0, 1, .null, 0, 0, 0, 0), (70, .getfield 86, 3, .null, 11, 35, 12035, 0),
  (73, .iload_n 3, 1, .null, 0, 0, 0, 0), (74, .aload_n 0, 1, .null, 0, 0, 0, 0), (75, .iload_n 1, 1, .null, 0, 0, 0, 0), (76, .iload_n 3, 1, .null, 0, 0, 0, 0),
  (77, .invokevirtual 230, 3, .null, 0, 222, 13035, 0), (80, .iastore, 1, .null, 0, 0, 0, 0), (81, .iinc 3 1, 3, .null, 0, 0, 0, 0), (84, .goto (-25), 3, .null, 36, 0, 0, 0),
  (87, .aload_n 0, 1, .null, 0, 0, 0, 0), (88, .aload_n 0, 1, .null, 0, 0, 0, 0), (89, .getfield 95, 3, .null, 11, 38, 12038, 0), (92, .iload_n 1, 1, .null, 0, 0, 0, 0),
  (93, .iaload, 1, .null, 0, 0, 0, 0), (94, .invokevirtual 353, 3, .null, 0, 277, 14032, 0), (97, .ireturn, 1, .null, 0, 0, 0, 0)]
def ar_279 : List ai_R := [(0, .aload_n 0, 1, .null, 0, 0, 0, 0), (1, .iconst 0, 1, .null, 0, 0, 0, 0), (2, .putfield 1, 3, .null, 11, 0, 12000, 0), (5, .aload_n 0, 1, .null, 0, 0, 0, 0),
  (6, .getfield 13, 3, .null, 11, 1, 12001, 0), (9, .iconst 0, 1, .null, 0, 0, 0, 0), (10, .iaload, 1, .null, 0, 0, 0, 0), (11, .ifCond .ne 6, 3, .null, 10, 0, 0, 0),
  (14, .bipush (-5), 2, .null, 0, 0, 0, 0), (16, .ireturn, 1, .null, 0, 0, 0, 0), (17, .iload_n 1, 1, .null, 0, 0, 0, 0), (18, .i2l, 1, .null, 0, 0, 0, 0),
  (19, .lconst 0, 1, .null, 0, 0, 0, 0), (20, .ldc2_w 356, 3, .long (4), 0, 0, 14042, 0), (23, .invokestatic 164, 3, .null, 1, 181, 12130, 0), (26, .ifCond .ne 6, 3, .null, 18, 0, 0, 0),
  (29, .bipush (-3), 2, .null, 0, 0, 0, 0), (31, .ireturn, 1, .null, 0, 0, 0, 0), (32, .iconst (-1), 1, .null, 0, 0, 0, 0), (33, .istore_n 2, 1, .null, 0, 0, 0, 0),
  (34, .iconst 1, 1, .null, 0, 0, 0, 0), (35, .istore_n 3, 1, .null, 0, 0, 0, 0), (36, .iconst 0, 1, .null, 0, 0, 0, 0), (37, .istore 4, 2, .null, 0, 0, 0, 0),
  (39, .iload 4, 2, .null, 0, 0, 0, 0), (41, .iload_n 1, 1, .null, 0, 0, 0, 0), (42, .if_icmp .gt 150, 3, .null, 105, 0, 0, 0), (45, .iconst 0, 1, .null, 0, 0, 0, 0),
  (46, .istore 5, 2, .null, 0, 0, 0, 0), (48, .iload 5, 2, .null, 0, 0, 0, 0), (50, .iload_n 3, 1, .null, 0, 0, 0, 0), (51, .if_icmp .ge 126, 3, .null, 96, 0, 0, 0),
  (54, .iload 5, 2, .null, 0, 0, 0, 0), (56, .istore 6, 2, .null, 0, 0, 0, 0), (58, .iload 4, 2, .null, 0, 0, 0, 0), (60, .iconst 1, 1, .null, 0, 0, 0, 0),
  (61, .isub, 1, .null, 0, 0, 0, 0), (62, .istore 7, 2, .null, 0, 0, 0, 0), (64, .iload 7, 2, .null, 0, 0, 0, 0), (66, .ifCond .lt 36, 3, .null, 59, 0, 0, 0),
  (69, .aload_n 0, 1, .null, 0, 0, 0, 0), (70, .getfield 86, 3, .null, 11, 35, 12035, 0), (73, .iload 7, 2, .null, 0, 0, 0, 0), (75, .iload 6, 2, .null, 0, 0, 0, 0),
  (77, .aload_n 0, 1, .null, 0, 0, 0, 0), (78, .getfield 13, 3, .null, 11, 1, 12001, 0), (81, .iconst 1, 1, .null, 0, 0, 0, 0), (82, .iaload, 1, .null, 0, 0, 0, 0),
  (83, .irem, 1, .null, 0, 0, 0, 0), (84, .iastore, 1, .null, 0, 0, 0, 0), (85, .iload 6, 2, .null, 0, 0, 0, 0), (87, .aload_n 0, 1, .null, 0, 0, 0, 0),
  (88, .getfield 13, 3, .null, 11, 1, 12001, 0), (91, .iconst 1, 1, .null, 0, 0, 0, 0), (92, .iaload, 1, .null, 0, 0, 0, 0), (93, .idiv, 1, .null, 0, 0, 0, 0),
  (94, .istore 6, 2, .null, 0, 0, 0, 0), (96, .iinc 7 (-1), 3, .null, 0, 0, 0, 0), (99, .goto (-35), 3, .null, 38, 0, 0, 0), (102, .aload_n 0, 1, .null, 0, 0, 0, 0),
  (103, .iload 4, 2, .null, 0, 0, 0, 0), (105, .invokevirtual 353, 3, .null, 0, 277, 14032, 0), (108, .istore 7, 2, .null, 0, 0, 0, 0), (110, .iload_n 2, 1, .null, 0, 0, 0, 0),
  (111, .iconst (-1), 1, .null, 0, 0, 0, 0), (112, .if_icmp .eq 12, 3, .null, 70, 0, 0, 0), (115, .iload 7, 2, .null, 0, 0, 0, 0), (117, .iload_n 2, 1, .null, 0, 0, 0, 0),
  (118, .if_icmp .gt 6, 3, .null, 70, 0, 0, 0), (121, .goto 50, 3, .null, 94, 0, 0, 0), (124, .iload 7, 2, .null, 0, 0, 0, 0), (126, .istore_n 2, 1, .null, 0, 0, 0, 0),
  (127, .aload_n 0, 1, .null, 0, 0, 0, 0), (128, .getfield 13, 3, .null, 11, 1, 12001, 0), (131, .sipush 281, 3, .null, 0, 0, 0, 0), (134, .iload 4, 2, .null, 0, 0, 0, 0),
  (136, .iastore, 1, .null, 0, 0, 0, 0), (137, .iconst 0, 1, .null, 0, 0, 0, 0), (138, .istore 8, 2, .null, 0, 0, 0, 0), (140, .iload 8, 2, .null, 0, 0, 0, 0),
  (142, .iload 4, 2, .null, 0, 0, 0, 0), (144, .if_icmp .ge 27, 3, .null, 94, 0, 0, 0), (147, .aload_n 0, 1, .null, 0, 0, 0, 0), (148, .getfield 13, 3, .null, 11, 1, 12001, 0),
  (151, .sipush 282, 3, .null, 0, 0, 0, 0), (154, .iload 8, 2, .null, 0, 0, 0, 0), (156, .iadd, 1, .null, 0, 0, 0, 0), (157, .aload_n 0, 1, .null, 0, 0, 0, 0),
  (158, .getfield 86, 3, .null, 11, 35, 12035, 0), (161, .iload 8, 2, .null, 0, 0, 0, 0), (163, .iaload, 1, .null, 0, 0, 0, 0), (164, .iastore, 1, .null, 0, 0, 0, 0),
  (165, .iinc 8 1, 3, .null, 0, 0, 0, 0), (168, .goto (-28), 3, .null, 79, 0, 0, 0), (171, .iinc 5 1, 3, .null, 0, 0, 0, 0), (174, .goto (-126), 3, .null, 29, 0, 0, 0),
  (177, .iload_n 3, 1, .null, 0, 0, 0, 0), (178, .aload_n 0, 1, .null, 0, 0, 0, 0), (179, .getfield 13, 3, .null, 11, 1, 12001, 0), (182, .iconst 1, 1, .null, 0, 0, 0, 0),
  (183, .iaload, 1, .null, 0, 0, 0, 0), (184, .imul, 1, .null, 0, 0, 0, 0), (185, .istore_n 3, 1, .null, 0, 0, 0, 0), (186, .iinc 4 1, 3, .null, 0, 0, 0, 0),
  (189, .goto (-150), 3, .null, 24, 0, 0, 0), (192, .iload_n 2, 1, .null, 0, 0, 0, 0), (193, .ireturn, 1, .null, 0, 0, 0, 0)]
def ar_280 : List ai_R := [(0, .aload_n 0, 1, .null, 0, 0, 0, 0), (1, .iconst 0, 1, .null, 0, 0, 0, 0), (2, .putfield 1, 3, .null, 11, 0, 12000, 0), (5, .iload_n 1, 1, .null, 0, 0, 0, 0),
  (6, .i2l, 1, .null, 0, 0, 0, 0), (7, .lconst 0, 1, .null, 0, 0, 0, 0), (8, .ldc2_w 225, 3, .long (3), 0, 0, 13018, 0), (11, .invokestatic 164, 3, .null, 1, 181, 12130, 0),
  (14, .ifCond .eq 11, 3, .null, 13, 0, 0, 0), (17, .aload_n 0, 1, .null, 0, 0, 0, 0), (18, .iload_n 3, 1, .null, 0, 0, 0, 0), (19, .invokevirtual 219, 3, .null, 0, 209, 13002, 0),
  (22, .ifCond .ne 6, 3, .null, 15, 0, 0, 0), (25, .bipush (-2), 2, .null, 0, 0, 0, 0), (27, .ireturn, 1, .null, 0, 0, 0, 0), (28, .aload_n 0, 1, .null, 0, 0, 0, 0),
  (29, .iload_n 1, 1, .null, 0, 0, 0, 0), (30, .invokevirtual 233, 3, .null, 0, 221, 13027, 0), (33, .istore 4, 2, .null, 0, 0, 0, 0), (35, .iload 4, 2, .null, 0, 0, 0, 0),
  (37, .ifCond .eq 6, 3, .null, 23, 0, 0, 0), (40, .iload 4, 2, .null, 0, 0, 0, 0), (42, .ireturn, 1, .null, 0, 0, 0, 0), (43, .iload_n 2, 1, .null, 0, 0, 0, 0),
  (44, .istore 5, 2, .null, 0, 0, 0, 0), (46, .iconst 0, 1, .null, 0, 0, 0, 0), (47, .istore 6, 2, .null, 0, 0, 0, 0), (49, .iload 6, 2, .null, 0, 0, 0, 0),
  (51, .aload_n 0, 1, .null, 0, 0, 0, 0), (52, .getfield 13, 3, .null, 11, 1, 12001, 0), (55, .sipush 271, 3, .null, 0, 0, 0, 0), (58, .iaload, 1, .null, 0, 0, 0, 0),
  (59, .if_icmp .ge 27, 3, .null, 45, 0, 0, 0), (62, .aload_n 0, 1, .null, 0, 0, 0, 0), (63, .getfield 89, 3, .null, 11, 36, 12036, 0), (66, .iload 6, 2, .null, 0, 0, 0, 0),
  (68, .aload_n 0, 1, .null, 0, 0, 0, 0), (69, .getfield 13, 3, .null, 11, 1, 12001, 0), (72, .sipush 272, 3, .null, 0, 0, 0, 0), (75, .iload 6, 2, .null, 0, 0, 0, 0),
  (77, .iadd, 1, .null, 0, 0, 0, 0), (78, .iaload, 1, .null, 0, 0, 0, 0), (79, .iastore, 1, .null, 0, 0, 0, 0), (80, .iinc 6 1, 3, .null, 0, 0, 0, 0),
  (83, .goto (-34), 3, .null, 27, 0, 0, 0), (86, .iconst 0, 1, .null, 0, 0, 0, 0), (87, .istore 6, 2, .null, 0, 0, 0, 0), (89, .iload 6, 2, .null, 0, 0, 0, 0),
  (91, .aload_n 0, 1, .null, 0, 0, 0, 0), (92, .getfield 95, 3, .null, 11, 38, 12038, 0), (95, .iload_n 1, 1, .null, 0, 0, 0, 0), (96, .iaload, 1, .null, 0, 0, 0, 0),
  (97, .if_icmp .ge 146, 3, .null, 127, 0, 0, 0), (100, .aload_n 0, 1, .null, 0, 0, 0, 0), (101, .iload_n 1, 1, .null, 0, 0, 0, 0), (102, .iload 6, 2, .null, 0, 0, 0, 0),
  (104, .invokevirtual 230, 3, .null, 0, 222, 13035, 0), (107, .istore 7, 2, .null, 0, 0, 0, 0), (109, .iconst 0, 1, .null, 0, 0, 0, 0), (110, .istore 8, 2, .null, 0, 0, 0, 0),
  (112, .iload 8, 2, .null, 0, 0, 0, 0), (114, .aload_n 0, 1, .null, 0, 0, 0, 0), (115, .getfield 13, 3, .null, 11, 1, 12001, 0), (118, .sipush 271, 3, .null, 0, 0, 0, 0),
  (121, .iaload, 1, .null, 0, 0, 0, 0), (122, .if_icmp .ge 115, 3, .null, 125, 0, 0, 0), (125, .aload_n 0, 1, .null, 0, 0, 0, 0), (126, .getfield 89, 3, .null, 11, 36, 12036, 0),
  (129, .iload 8, 2, .null, 0, 0, 0, 0), (131, .iaload, 1, .null, 0, 0, 0, 0), (132, .iload 7, 2, .null, 0, 0, 0, 0), (134, .invokestatic 172, 3, .null, 1, 196, 12178, 0),
  (137, .istore 9, 2, .null, 0, 0, 0, 0), (139, .iconst 0, 1, .null, 0, 0, 0, 0), (140, .istore 10, 2, .null, 0, 0, 0, 0), (142, .aload_n 0, 1, .null, 0, 0, 0, 0),
  (143, .getfield 13, 3, .null, 11, 1, 12001, 0), (146, .sipush 170, 3, .null, 0, 0, 0, 0), (149, .iload 9, 2, .null, 0, 0, 0, 0), (151, .iadd, 1, .null, 0, 0, 0, 0),
  (152, .iaload, 1, .null, 0, 0, 0, 0), (153, .ifCond .le 44, 3, .null, 104, 0, 0, 0), (156, .ldc_w 358, 3, .int (1103515245), 0, 0, 14047, 0), (159, .iload 5, 2, .null, 0, 0, 0, 0),
  (161, .imul, 1, .null, 0, 0, 0, 0), (162, .sipush 12345, 3, .null, 0, 0, 0, 0), (165, .iadd, 1, .null, 0, 0, 0, 0), (166, .istore 5, 2, .null, 0, 0, 0, 0),
  (168, .iload 5, 2, .null, 0, 0, 0, 0), (170, .bipush 16, 2, .null, 0, 0, 0, 0), (172, .iushr, 1, .null, 0, 0, 0, 0), (173, .bipush 100, 2, .null, 0, 0, 0, 0),
  (175, .irem, 1, .null, 0, 0, 0, 0), (176, .aload_n 0, 1, .null, 0, 0, 0, 0), (177, .getfield 13, 3, .null, 11, 1, 12001, 0), (180, .sipush 170, 3, .null, 0, 0, 0, 0),
  (183, .iload 9, 2, .null, 0, 0, 0, 0), (185, .iadd, 1, .null, 0, 0, 0, 0), (186, .iaload, 1, .null, 0, 0, 0, 0), (187, .if_icmp .ge 7, 3, .null, 102, 0, 0, 0),
  (190, .iconst 1, 1, .null, 0, 0, 0, 0), (191, .goto 4, 3, .null, 103, 0, 0, 0), (194, .iconst 0, 1, .null, 0, 0, 0, 0), (195, .istore 10, 2, .null, 0, 0, 0, 0),
  (197, .aload_n 0, 1, .null, 0, 0, 0, 0), (198, .getfield 89, 3, .null, 11, 36, 12036, 0), (201, .iload 8, 2, .null, 0, 0, 0, 0), (203, .iload 10, 2, .null, 0, 0, 0, 0),
  (205, .ifCond .eq 16, 3, .null, 116, 0, 0, 0), (208, .aload_n 0, 1, .null, 0, 0, 0, 0), (209, .getfield 13, 3, .null, 11, 1, 12001, 0), (212, .bipush 86, 2, .null, 0, 0, 0, 0),
  (214, .iload 9, 2, .null, 0, 0, 0, 0), (216, .iadd, 1, .null, 0, 0, 0, 0), (217, .iaload, 1, .null, 0, 0, 0, 0), (218, .goto 12, 3, .null, 122, 0, 0, 0),
  (221, .aload_n 0, 1, .null, 0, 0, 0, 0), (222, .getfield 13, 3, .null, 11, 1, 12001, 0), (225, .iconst 2, 1, .null, 0, 0, 0, 0), (226, .iload 9, 2, .null, 0, 0, 0, 0),
  (228, .iadd, 1, .null, 0, 0, 0, 0), (229, .iaload, 1, .null, 0, 0, 0, 0), (230, .iastore, 1, .null, 0, 0, 0, 0), (231, .iinc 8 1, 3, .null, 0, 0, 0, 0),
  (234, .goto (-122), 3, .null, 60, 0, 0, 0), (237, .iinc 6 1, 3, .null, 0, 0, 0, 0), (240, .goto (-151), 3, .null, 47, 0, 0, 0), (243, .aload_n 0, 1, .null, 0, 0, 0, 0),
  (244, .getfield 89, 3, .null, 11, 36, 12036, 0), (247, .iload_n 3, 1, .null, 0, 0, 0, 0), (248, .iaload, 1, .null, 0, 0, 0, 0), (249, .ireturn, 1, .null, 0, 0, 0, 0)]
def ar_281 : List ai_R := [(0, .aload_n 0, 1, .null, 0, 0, 0, 0), (1, .iconst 0, 1, .null, 0, 0, 0, 0), (2, .putfield 1, 3, .null, 11, 0, 12000, 0), (5, .iload_n 1, 1, .null, 0, 0, 0, 0),
  (6, .iconst (-1), 1, .null, 0, 0, 0, 0), (7, .if_icmp .ne 12, 3, .null, 11, 0, 0, 0), (10, .aload_n 0, 1, .null, 0, 0, 0, 0), (11, .getfield 13, 3, .null, 11, 1, 12001, 0),
  (14, .sipush 281, 3, .null, 0, 0, 0, 0), (17, .iaload, 1, .null, 0, 0, 0, 0), (18, .ireturn, 1, .null, 0, 0, 0, 0), (19, .iload_n 1, 1, .null, 0, 0, 0, 0),
  (20, .i2l, 1, .null, 0, 0, 0, 0), (21, .lconst 0, 1, .null, 0, 0, 0, 0), (22, .aload_n 0, 1, .null, 0, 0, 0, 0), (23, .getfield 13, 3, .null, 11, 1, 12001, 0),
  (26, .sipush 281, 3, .null, 0, 0, 0, 0), (29, .iaload, 1, .null, 0, 0, 0, 0), (30, .iconst 1, 1, .null, 0, 0, 0, 0), (31, .isub, 1, .null, 0, 0, 0, 0),
  (32, .i2l, 1, .null, 0, 0, 0, 0), (33, .invokestatic 164, 3, .null, 1, 181, 12130, 0), (36, .ifCond .eq 16, 3, .null, 30, 0, 0, 0), (39, .aload_n 0, 1, .null, 0, 0, 0, 0),
  (40, .getfield 13, 3, .null, 11, 1, 12001, 0), (43, .sipush 282, 3, .null, 0, 0, 0, 0), (46, .iload_n 1, 1, .null, 0, 0, 0, 0), (47, .iadd, 1, .null, 0, 0, 0, 0),
  (48, .iaload, 1, .null, 0, 0, 0, 0), (49, .goto 4, 3, .null, 31, 0, 0, 0), (52, .iconst (-1), 1, .null, 0, 0, 0, 0), (53, .ireturn, 1, .null, 0, 0, 0, 0)]
def ar_282 : List ai_R := [(0, .iload_n 2, 1, .null, 0, 0, 0, 0), (1, .ifCond .ne 10, 3, .null, 7, 0, 0, 0), (4, .lload_n 0, 1, .null, 0, 0, 0, 0), (5, .l2i, 1, .null, 0, 0, 0, 0),
  (6, .i2b, 1, .null, 0, 0, 0, 0), (7, .i2l, 1, .null, 0, 0, 0, 0), (8, .goto 27, 3, .null, 23, 0, 0, 0), (11, .iload_n 2, 1, .null, 0, 0, 0, 0),
  (12, .iconst 1, 1, .null, 0, 0, 0, 0), (13, .if_icmp .ne 10, 3, .null, 15, 0, 0, 0), (16, .lload_n 0, 1, .null, 0, 0, 0, 0), (17, .l2i, 1, .null, 0, 0, 0, 0),
  (18, .i2s, 1, .null, 0, 0, 0, 0), (19, .i2l, 1, .null, 0, 0, 0, 0), (20, .goto 15, 3, .null, 23, 0, 0, 0), (23, .iload_n 2, 1, .null, 0, 0, 0, 0),
  (24, .iconst 2, 1, .null, 0, 0, 0, 0), (25, .if_icmp .ne 9, 3, .null, 22, 0, 0, 0), (28, .lload_n 0, 1, .null, 0, 0, 0, 0), (29, .l2i, 1, .null, 0, 0, 0, 0),
  (30, .i2l, 1, .null, 0, 0, 0, 0), (31, .goto 4, 3, .null, 23, 0, 0, 0), (34, .lload_n 0, 1, .null, 0, 0, 0, 0), (35, .lreturn, 1, .null, 0, 0, 0, 0)]
def ar_283 : List ai_R := [(0, .aload_n 0, 1, .null, 0, 0, 0, 0), (1, .iconst 0, 1, .null, 0, 0, 0, 0), (2, .putfield 1, 3, .null, 11, 0, 12000, 0), (5, .iload_n 1, 1, .null, 0, 0, 0, 0),
  (6, .i2l, 1, .null, 0, 0, 0, 0), (7, .lconst 0, 1, .null, 0, 0, 0, 0), (8, .ldc2_w 225, 3, .long (3), 0, 0, 13018, 0), (11, .invokestatic 164, 3, .null, 1, 181, 12130, 0),
  (14, .ifCond .eq 15, 3, .null, 15, 0, 0, 0), (17, .iload_n 2, 1, .null, 0, 0, 0, 0), (18, .i2l, 1, .null, 0, 0, 0, 0), (19, .lconst 0, 1, .null, 0, 0, 0, 0),
  (20, .ldc2_w 225, 3, .long (3), 0, 0, 13018, 0), (23, .invokestatic 164, 3, .null, 1, 181, 12130, 0), (26, .ifCond .ne 6, 3, .null, 17, 0, 0, 0), (29, .bipush (-2), 2, .null, 0, 0, 0, 0),
  (31, .ireturn, 1, .null, 0, 0, 0, 0), (32, .iload_n 3, 1, .null, 0, 0, 0, 0), (33, .i2l, 1, .null, 0, 0, 0, 0), (34, .lconst 0, 1, .null, 0, 0, 0, 0),
  (35, .ldc2_w 334, 3, .long (40), 0, 0, 14001, 0), (38, .invokestatic 164, 3, .null, 1, 181, 12130, 0), (41, .ifCond .ne 6, 3, .null, 25, 0, 0, 0), (44, .bipush (-3), 2, .null, 0, 0, 0, 0),
  (46, .ireturn, 1, .null, 0, 0, 0, 0), (47, .aload_n 0, 1, .null, 0, 0, 0, 0), (48, .getfield 92, 3, .null, 11, 37, 12037, 0), (51, .iload_n 1, 1, .null, 0, 0, 0, 0),
  (52, .iload_n 2, 1, .null, 0, 0, 0, 0), (53, .iastore, 1, .null, 0, 0, 0, 0), (54, .aload_n 0, 1, .null, 0, 0, 0, 0), (55, .getfield 95, 3, .null, 11, 38, 12038, 0),
  (58, .iload_n 1, 1, .null, 0, 0, 0, 0), (59, .iload_n 3, 1, .null, 0, 0, 0, 0), (60, .iastore, 1, .null, 0, 0, 0, 0), (61, .iconst 0, 1, .null, 0, 0, 0, 0),
  (62, .istore 4, 2, .null, 0, 0, 0, 0), (64, .iload 4, 2, .null, 0, 0, 0, 0), (66, .iload_n 3, 1, .null, 0, 0, 0, 0), (67, .if_icmp .ge 22, 3, .null, 51, 0, 0, 0),
  (70, .aload_n 0, 1, .null, 0, 0, 0, 0), (71, .getfield 98, 3, .null, 11, 39, 12039, 0), (74, .bipush 40, 2, .null, 0, 0, 0, 0), (76, .iload_n 1, 1, .null, 0, 0, 0, 0),
  (77, .imul, 1, .null, 0, 0, 0, 0), (78, .iload 4, 2, .null, 0, 0, 0, 0), (80, .iadd, 1, .null, 0, 0, 0, 0), (81, .lconst 0, 1, .null, 0, 0, 0, 0),
  (82, .lastore, 1, .null, 0, 0, 0, 0), (83, .iinc 4 1, 3, .null, 0, 0, 0, 0), (86, .goto (-22), 3, .null, 37, 0, 0, 0), (89, .iconst 0, 1, .null, 0, 0, 0, 0),
  (90, .ireturn, 1, .null, 0, 0, 0, 0)]
def ar_284 : List ai_R := [(0, .aload_n 0, 1, .null, 0, 0, 0, 0), (1, .iconst 0, 1, .null, 0, 0, 0, 0), (2, .putfield 1, 3, .null, 11, 0, 12000, 0), (5, .iload_n 1, 1, .null, 0, 0, 0, 0),
  (6, .i2l, 1, .null, 0, 0, 0, 0), (7, .lconst 0, 1, .null, 0, 0, 0, 0), (8, .ldc2_w 225, 3, .long (3), 0, 0, 13018, 0), (11, .invokestatic 164, 3, .null, 1, 181, 12130, 0),
  (14, .ifCond .ne 7, 3, .null, 11, 0, 0, 0), (17, .ldc2_w 339, 3, .long (-2), 0, 0, 14018, 0), (20, .lreturn, 1, .null, 0, 0, 0, 0), (21, .aload_n 0, 1, .null, 0, 0, 0, 0),
  (22, .getfield 92, 3, .null, 11, 37, 12037, 0), (25, .iload_n 1, 1, .null, 0, 0, 0, 0), (26, .iaload, 1, .null, 0, 0, 0, 0), (27, .iconst (-1), 1, .null, 0, 0, 0, 0),
  (28, .if_icmp .ne 7, 3, .null, 19, 0, 0, 0), (31, .ldc2_w 359, 3, .long (-6), 0, 0, 14060, 0), (34, .lreturn, 1, .null, 0, 0, 0, 0), (35, .iload_n 2, 1, .null, 0, 0, 0, 0),
  (36, .i2l, 1, .null, 0, 0, 0, 0), (37, .lconst 0, 1, .null, 0, 0, 0, 0), (38, .aload_n 0, 1, .null, 0, 0, 0, 0), (39, .getfield 95, 3, .null, 11, 38, 12038, 0),
  (42, .iload_n 1, 1, .null, 0, 0, 0, 0), (43, .iaload, 1, .null, 0, 0, 0, 0), (44, .iconst 1, 1, .null, 0, 0, 0, 0), (45, .isub, 1, .null, 0, 0, 0, 0),
  (46, .i2l, 1, .null, 0, 0, 0, 0), (47, .invokestatic 164, 3, .null, 1, 181, 12130, 0), (50, .ifCond .ne 7, 3, .null, 33, 0, 0, 0), (53, .ldc2_w 361, 3, .long (-7), 0, 0, 14061, 0),
  (56, .lreturn, 1, .null, 0, 0, 0, 0), (57, .aload_n 0, 1, .null, 0, 0, 0, 0), (58, .getfield 98, 3, .null, 11, 39, 12039, 0), (61, .bipush 40, 2, .null, 0, 0, 0, 0),
  (63, .iload_n 1, 1, .null, 0, 0, 0, 0), (64, .imul, 1, .null, 0, 0, 0, 0), (65, .iload_n 2, 1, .null, 0, 0, 0, 0), (66, .iadd, 1, .null, 0, 0, 0, 0),
  (67, .lload_n 3, 1, .null, 0, 0, 0, 0), (68, .aload_n 0, 1, .null, 0, 0, 0, 0), (69, .getfield 92, 3, .null, 11, 37, 12037, 0), (72, .iload_n 1, 1, .null, 0, 0, 0, 0),
  (73, .iaload, 1, .null, 0, 0, 0, 0), (74, .invokestatic 363, 3, .null, 1, 282, 14062, 0), (77, .lastore, 1, .null, 0, 0, 0, 0), (78, .aload_n 0, 1, .null, 0, 0, 0, 0),
  (79, .getfield 98, 3, .null, 11, 39, 12039, 0), (82, .bipush 40, 2, .null, 0, 0, 0, 0), (84, .iload_n 1, 1, .null, 0, 0, 0, 0), (85, .imul, 1, .null, 0, 0, 0, 0),
  (86, .iload_n 2, 1, .null, 0, 0, 0, 0), (87, .iadd, 1, .null, 0, 0, 0, 0), (88, .laload, 1, .null, 0, 0, 0, 0), (89, .lreturn, 1, .null, 0, 0, 0, 0)]
def ar_285 : List ai_R := [(0, .aload_n 0, 1, .null, 0, 0, 0, 0), (1, .iconst 0, 1, .null, 0, 0, 0, 0), (2, .putfield 1, 3, .null, 11, 0, 12000, 0), (5, .iload_n 1, 1, .null, 0, 0, 0, 0),
  (6, .i2l, 1, .null, 0, 0, 0, 0), (7, .lconst 0, 1, .null, 0, 0, 0, 0), (8, .ldc2_w 225, 3, .long (3), 0, 0, 13018, 0), (11, .invokestatic 164, 3, .null, 1, 181, 12130, 0),
  (14, .ifCond .ne 6, 3, .null, 11, 0, 0, 0), (17, .bipush (-2), 2, .null, 0, 0, 0, 0), (19, .ireturn, 1, .null, 0, 0, 0, 0), (20, .aload_n 0, 1, .null, 0, 0, 0, 0),
  (21, .getfield 13, 3, .null, 11, 1, 12001, 0), (24, .sipush 281, 3, .null, 0, 0, 0, 0), (27, .iaload, 1, .null, 0, 0, 0, 0), (28, .iconst (-1), 1, .null, 0, 0, 0, 0),
  (29, .if_icmp .ne 6, 3, .null, 19, 0, 0, 0), (32, .bipush (-5), 2, .null, 0, 0, 0, 0), (34, .ireturn, 1, .null, 0, 0, 0, 0), (35, .aload_n 0, 1, .null, 0, 0, 0, 0),
  (36, .getfield 92, 3, .null, 11, 37, 12037, 0), (39, .iload_n 1, 1, .null, 0, 0, 0, 0), (40, .iaload, 1, .null, 0, 0, 0, 0), (41, .iconst (-1), 1, .null, 0, 0, 0, 0),
  (42, .if_icmp .ne 6, 3, .null, 27, 0, 0, 0), (45, .bipush (-6), 2, .null, 0, 0, 0, 0), (47, .ireturn, 1, .null, 0, 0, 0, 0), (48, .aload_n 0, 1, .null, 0, 0, 0, 0),
  (49, .getfield 95, 3, .null, 11, 38, 12038, 0), (52, .iload_n 1, 1, .null, 0, 0, 0, 0), (53, .iaload, 1, .null, 0, 0, 0, 0), (54, .aload_n 0, 1, .null, 0, 0, 0, 0),
  (55, .getfield 13, 3, .null, 11, 1, 12001, 0), (58, .sipush 281, 3, .null, 0, 0, 0, 0), (61, .iaload, 1, .null, 0, 0, 0, 0), (62, .if_icmp .ge 6, 3, .null, 38, 0, 0, 0),
  (65, .bipush (-7), 2, .null, 0, 0, 0, 0), (67, .ireturn, 1, .null, 0, 0, 0, 0), (68, .iconst 0, 1, .null, 0, 0, 0, 0), (69, .istore_n 2, 1, .null, 0, 0, 0, 0),
  (70, .iload_n 2, 1, .null, 0, 0, 0, 0), (71, .aload_n 0, 1, .null, 0, 0, 0, 0), (72, .getfield 13, 3, .null, 11, 1, 12001, 0), (75, .sipush 281, 3, .null, 0, 0, 0, 0),
  (78, .iaload, 1, .null, 0, 0, 0, 0), (79, .if_icmp .ge 31, 3, .null, 63, 0, 0, 0), (82, .aload_n 0, 1, .null, 0, 0, 0, 0), (83, .getfield 98, 3, .null, 11, 39, 12039, 0),
  (86, .bipush 40, 2, .null, 0, 0, 0, 0), (88, .iload_n 1, 1, .null, 0, 0, 0, 0), (89, .imul, 1, .null, 0, 0, 0, 0), (90, .iload_n 2, 1, .null, 0, 0, 0, 0),
  (91, .iadd, 1, .null, 0, 0, 0, 0), (92, .aload_n 0, 1, .null, 0, 0, 0, 0), (93, .getfield 13, 3, .null, 11, 1, 12001, 0), (96, .sipush 282, 3, .null, 0, 0, 0, 0),
  (99, .iload_n 2, 1, .null, 0, 0, 0, 0), (100, .iadd, 1, .null, 0, 0, 0, 0), (101, .iaload, 1, .null, 0, 0, 0, 0), (102, .i2l, 1, .null, 0, 0, 0, 0),
  (103, .lastore, 1, .null, 0, 0, 0, 0), (104, .iinc 2 1, 3, .null, 0, 0, 0, 0), (107, .goto (-37), 3, .null, 40, 0, 0, 0), (110, .aload_n 0, 1, .null, 0, 0, 0, 0),
  (111, .getfield 13, 3, .null, 11, 1, 12001, 0), (114, .sipush 281, 3, .null, 0, 0, 0, 0), (117, .iaload, 1, .null, 0, 0, 0, 0), (118, .ireturn, 1, .null, 0, 0, 0, 0)]
def ar_286 : List ai_R := [(0, .aload_n 0, 1, .null, 0, 0, 0, 0), (1, .iconst 0, 1, .null, 0, 0, 0, 0), (2, .putfield 1, 3, .null, 11, 0, 12000, 0), (5, .iload_n 1, 1, .null, 0, 0, 0, 0),
  (6, .i2l, 1, .null, 0, 0, 0, 0), (7, .lconst 0, 1, .null, 0, 0, 0, 0), (8, .lconst 1, 1, .null, 0, 0, 0, 0), (9, .invokestatic 164, 3, .null, 1, 181, 12130, 0),
  (12, .ifCond .ne 6, 3, .null, 11, 0, 0, 0), (15, .bipush (-2), 2, .null, 0, 0, 0, 0), (17, .ireturn, 1, .null, 0, 0, 0, 0), (18, .iconst 0, 1, .null, 0, 0, 0, 0),
  (19, .istore_n 2, 1, .null, 0, 0, 0, 0), (20, .iload_n 2, 1, .null, 0, 0, 0, 0), (21, .sipush 782, 3, .null, 0, 0, 0, 0), (24, .if_icmp .ge 29, 3, .null, 32, 0, 0, 0),
  (27, .aload_n 0, 1, .null, 0, 0, 0, 0), (28, .getfield 13, 3, .null, 11, 1, 12001, 0), (31, .sipush 782, 3, .null, 0, 0, 0, 0), (34, .iload_n 1, 1, .null, 0, 0, 0, 0),
  (35, .iconst 1, 1, .null, 0, 0, 0, 0), (36, .iadd, 1, .null, 0, 0, 0, 0), (37, .imul, 1, .null, 0, 0, 0, 0), (38, .iload_n 2, 1, .null, 0, 0, 0, 0),
  (39, .iadd, 1, .null, 0, 0, 0, 0), (40, .aload_n 0, 1, .null, 0, 0, 0, 0), (41, .getfield 13, 3, .null, 11, 1, 12001, 0), (44, .iload_n 2, 1, .null, 0, 0, 0, 0),
  (45, .iaload, 1, .null, 0, 0, 0, 0), (46, .iastore, 1, .null, 0, 0, 0, 0), (47, .iinc 2 1, 3, .null, 0, 0, 0, 0), (50, .goto (-30), 3, .null, 13, 0, 0, 0),
  (53, .aload_n 0, 1, .null, 0, 0, 0, 0), (54, .getfield 17, 3, .null, 11, 2, 12002, 0), (57, .iload_n 1, 1, .null, 0, 0, 0, 0), (58, .iconst 1, 1, .null, 0, 0, 0, 0),
  (59, .bastore, 1, .null, 0, 0, 0, 0), (60, .iconst 0, 1, .null, 0, 0, 0, 0), (61, .ireturn, 1, .null, 0, 0, 0, 0)]
def ar_287 : List ai_R := [(0, .aload_n 0, 1, .null, 0, 0, 0, 0), (1, .iconst 0, 1, .null, 0, 0, 0, 0), (2, .putfield 1, 3, .null, 11, 0, 12000, 0), (5, .iload_n 1, 1, .null, 0, 0, 0, 0),
  (6, .i2l, 1, .null, 0, 0, 0, 0), (7, .lconst 0, 1, .null, 0, 0, 0, 0), (8, .lconst 1, 1, .null, 0, 0, 0, 0), (9, .invokestatic 164, 3, .null, 1, 181, 12130, 0),
  (12, .ifCond .ne 6, 3, .null, 11, 0, 0, 0), (15, .bipush (-2), 2, .null, 0, 0, 0, 0), (17, .ireturn, 1, .null, 0, 0, 0, 0), (18, .aload_n 0, 1, .null, 0, 0, 0, 0),
  (19, .getfield 17, 3, .null, 11, 2, 12002, 0), (22, .iload_n 1, 1, .null, 0, 0, 0, 0), (23, .baload, 1, .null, 0, 0, 0, 0), (24, .ifCond .ne 6, 3, .null, 18, 0, 0, 0),
  (27, .bipush (-5), 2, .null, 0, 0, 0, 0), (29, .ireturn, 1, .null, 0, 0, 0, 0), (30, .iconst 0, 1, .null, 0, 0, 0, 0), (31, .istore_n 2, 1, .null, 0, 0, 0, 0),
  (32, .iload_n 2, 1, .null, 0, 0, 0, 0), (33, .sipush 782, 3, .null, 0, 0, 0, 0), (36, .if_icmp .ge 29, 3, .null, 39, 0, 0, 0), (39, .aload_n 0, 1, .null, 0, 0, 0, 0),
  (40, .getfield 13, 3, .null, 11, 1, 12001, 0), (43, .iload_n 2, 1, .null, 0, 0, 0, 0), (44, .aload_n 0, 1, .null, 0, 0, 0, 0), (45, .getfield 13, 3, .null, 11, 1, 12001, 0),
  (48, .sipush 782, 3, .null, 0, 0, 0, 0), (51, .iload_n 1, 1, .null, 0, 0, 0, 0), (52, .iconst 1, 1, .null, 0, 0, 0, 0), (53, .iadd, 1, .null, 0, 0, 0, 0),
  (54, .imul, 1, .null, 0, 0, 0, 0), (55, .iload_n 2, 1, .null, 0, 0, 0, 0), (56, .iadd, 1, .null, 0, 0, 0, 0), (57, .iaload, 1, .null, 0, 0, 0, 0),
  (58, .iastore, 1, .null, 0, 0, 0, 0), (59, .iinc 2 1, 3, .null, 0, 0, 0, 0), (62, .goto (-30), 3, .null, 20, 0, 0, 0), (65, .iconst 0, 1, .null, 0, 0, 0, 0),
  (66, .ireturn, 1, .null, 0, 0, 0, 0)]
def ar_288 : List ai_R := [(0, .iconst 0, 1, .null, 0, 0, 0, 0), (1, .istore_n 1, 1, .null, 0, 0, 0, 0), (2, .iconst 0, 1, .null, 0, 0, 0, 0), (3, .istore_n 2, 1, .null, 0, 0, 0, 0),
  (4, .iload_n 2, 1, .null, 0, 0, 0, 0), (5, .bipush 84, 2, .null, 0, 0, 0, 0), (7, .if_icmp .ge 30, 3, .null, 22, 0, 0, 0), (10, .iload_n 1, 1, .null, 0, 0, 0, 0),
  (11, .aload_n 0, 1, .null, 0, 0, 0, 0), (12, .getfield 13, 3, .null, 11, 1, 12001, 0), (15, .sipush 170, 3, .null, 0, 0, 0, 0), (18, .iload_n 2, 1, .null, 0, 0, 0, 0),
  (19, .iadd, 1, .null, 0, 0, 0, 0), (20, .iaload, 1, .null, 0, 0, 0, 0), (21, .ifCond .le 7, 3, .null, 17, 0, 0, 0), (24, .iconst 1, 1, .null, 0, 0, 0, 0),
  (25, .goto 4, 3, .null, 18, 0, 0, 0), (28, .iconst 0, 1, .null, 0, 0, 0, 0), (29, .iadd, 1, .null, 0, 0, 0, 0), (30, .istore_n 1, 1, .null, 0, 0, 0, 0),
  (31, .iinc 2 1, 3, .null, 0, 0, 0, 0), (34, .goto (-30), 3, .null, 4, 0, 0, 0), (37, .iload_n 1, 1, .null, 0, 0, 0, 0), (38, .ireturn, 1, .null, 0, 0, 0, 0)]
def ar_289 : List ai_R := [(0, .aload_n 0, 1, .null, 0, 0, 0, 0), (1, .iconst 0, 1, .null, 0, 0, 0, 0), (2, .putfield 1, 3, .null, 11, 0, 12000, 0), (5, .iload_n 1, 1, .null, 0, 0, 0, 0),
  (6, .tableswitch 106 0 6 #[42, 49, 56, 65, 74, 96, 101], 42, .null, 0, 0, 0, 0), (48, .aload_n 0, 1, .null, 0, 0, 0, 0), (49, .getfield 13, 3, .null, 11, 1, 12001, 0), (52, .iconst 0, 1, .null, 0, 0, 0, 0),
  (53, .iaload, 1, .null, 0, 0, 0, 0), (54, .ireturn, 1, .null, 0, 0, 0, 0), (55, .aload_n 0, 1, .null, 0, 0, 0, 0), (56, .getfield 13, 3, .null, 11, 1, 12001, 0),
  (59, .iconst 1, 1, .null, 0, 0, 0, 0), (60, .iaload, 1, .null, 0, 0, 0, 0), (61, .ireturn, 1, .null, 0, 0, 0, 0), (62, .aload_n 0, 1, .null, 0, 0, 0, 0),
  (63, .getfield 13, 3, .null, 11, 1, 12001, 0), (66, .sipush 280, 3, .null, 0, 0, 0, 0), (69, .iaload, 1, .null, 0, 0, 0, 0), (70, .ireturn, 1, .null, 0, 0, 0, 0),
  (71, .aload_n 0, 1, .null, 0, 0, 0, 0), (72, .getfield 13, 3, .null, 11, 1, 12001, 0), (75, .sipush 271, 3, .null, 0, 0, 0, 0), (78, .iaload, 1, .null, 0, 0, 0, 0),
  (79, .ireturn, 1, .null, 0, 0, 0, 0), (80, .aload_n 0, 1, .null, 0, 0, 0, 0), (81, .getfield 13, 3, .null, 11, 1, 12001, 0), (84, .iconst 0, 1, .null, 0, 0, 0, 0),
  (85, .iaload, 1, .null, 0, 0, 0, 0), (86, .ifCond .ne 7, 3, .null, 32, 0, 0, 0), (89, .iconst (-1), 1, .null, 0, 0, 0, 0), (90, .goto 11, 3, .null, 36, 0, 0, 0),
  (93, .aload_n 0, 1, .null, 0, 0, 0, 0), (94, .getfield 13, 3, .null, 11, 1, 12001, 0), (97, .sipush 270, 3, .null, 0, 0, 0, 0), (100, .iaload, 1, .null, 0, 0, 0, 0),
  (101, .ireturn, 1, .null, 0, 0, 0, 0), (102, .aload_n 0, 1, .null, 0, 0, 0, 0), (103, .invokevirtual 367, 3, .null, 0, 288, 14081, 0), (106, .ireturn, 1, .null, 0, 0, 0, 0),
  (107, .aload_n 0, 1, .null, 0, 0, 0, 0), (108, .getfield 101, 3, .null, 11, 5, 12005, 0), (111, .ireturn, 1, .null, 0, 0, 0, 0), (112, .iconst (-1), 1, .null, 0, 0, 0, 0),
  (113, .ireturn, 1, .null, 0, 0, 0, 0)]
def ar_290 : List ai_R := [(0, .iload_n 0, 1, .null, 0, 0, 0, 0), (1, .iload_n 0, 1, .null, 0, 0, 0, 0), (2, .iconst 1, 1, .null, 0, 0, 0, 0), (3, .iushr, 1, .null, 0, 0, 0, 0),
  (4, .ldc_w 265, 3, .int (1431655765), 0, 0, 10023, 0), (7, .iand, 1, .null, 0, 0, 0, 0), (8, .isub, 1, .null, 0, 0, 0, 0), (9, .istore_n 0, 1, .null, 0, 0, 0, 0),
  (10, .iload_n 0, 1, .null, 0, 0, 0, 0), (11, .ldc_w 266, 3, .int (858993459), 0, 0, 10024, 0), (14, .iand, 1, .null, 0, 0, 0, 0), (15, .iload_n 0, 1, .null, 0, 0, 0, 0),
  (16, .iconst 2, 1, .null, 0, 0, 0, 0), (17, .iushr, 1, .null, 0, 0, 0, 0), (18, .ldc_w 266, 3, .int (858993459), 0, 0, 10024, 0), (21, .iand, 1, .null, 0, 0, 0, 0),
  (22, .iadd, 1, .null, 0, 0, 0, 0), (23, .istore_n 0, 1, .null, 0, 0, 0, 0), (24, .iload_n 0, 1, .null, 0, 0, 0, 0), (25, .iload_n 0, 1, .null, 0, 0, 0, 0),
  (26, .iconst 4, 1, .null, 0, 0, 0, 0), (27, .iushr, 1, .null, 0, 0, 0, 0), (28, .iadd, 1, .null, 0, 0, 0, 0), (29, .ldc_w 267, 3, .int (252645135), 0, 0, 10025, 0),
  (32, .iand, 1, .null, 0, 0, 0, 0), (33, .istore_n 0, 1, .null, 0, 0, 0, 0), (34, .iload_n 0, 1, .null, 0, 0, 0, 0), (35, .iload_n 0, 1, .null, 0, 0, 0, 0),
  (36, .bipush 8, 2, .null, 0, 0, 0, 0), (38, .iushr, 1, .null, 0, 0, 0, 0), (39, .iadd, 1, .null, 0, 0, 0, 0), (40, .istore_n 0, 1, .null, 0, 0, 0, 0),
  (41, .iload_n 0, 1, .null, 0, 0, 0, 0), (42, .iload_n 0, 1, .null, 0, 0, 0, 0), (43, .bipush 16, 2, .null, 0, 0, 0, 0), (45, .iushr, 1, .null, 0, 0, 0, 0),
  (46, .iadd, 1, .null, 0, 0, 0, 0), (47, .istore_n 0, 1, .null, 0, 0, 0, 0), (48, .iload_n 0, 1, .null, 0, 0, 0, 0), (49, .bipush 63, 2, .null, 0, 0, 0, 0),
  (51, .iand, 1, .null, 0, 0, 0, 0), (52, .ireturn, 1, .null, 0, 0, 0, 0)]
def ar_291 : List ai_R := [(0, .iconst 0, 1, .null, 0, 0, 0, 0), (1, .istore_n 3, 1, .null, 0, 0, 0, 0), (2, .aload_n 0, 1, .null, 0, 0, 0, 0), (3, .arraylength, 1, .null, 0, 0, 0, 0),
  (4, .istore 4, 2, .null, 0, 0, 0, 0), (6, .iload_n 3, 1, .null, 0, 0, 0, 0), (7, .iload 4, 2, .null, 0, 0, 0, 0), (9, .if_icmp .ge 13, 3, .null, 14, 0, 0, 0),
  (12, .aload_n 0, 1, .null, 0, 0, 0, 0), (13, .iload_n 3, 1, .null, 0, 0, 0, 0), (14, .lload_n 1, 1, .null, 0, 0, 0, 0), (15, .lastore, 1, .null, 0, 0, 0, 0),
  (16, .iinc 3 1, 3, .null, 0, 0, 0, 0), (19, .goto (-13), 3, .null, 5, 0, 0, 0), (22, .return_, 1, .null, 0, 0, 0, 0)]
def ar_292 : List ai_R := [(0, .iconst 0, 1, .null, 0, 0, 0, 0), (1, .istore_n 2, 1, .null, 0, 0, 0, 0), (2, .aload_n 0, 1, .null, 0, 0, 0, 0), (3, .arraylength, 1, .null, 0, 0, 0, 0),
  (4, .istore_n 3, 1, .null, 0, 0, 0, 0), (5, .iload_n 2, 1, .null, 0, 0, 0, 0), (6, .iload_n 3, 1, .null, 0, 0, 0, 0), (7, .if_icmp .ge 13, 3, .null, 14, 0, 0, 0),
  (10, .aload_n 0, 1, .null, 0, 0, 0, 0), (11, .iload_n 2, 1, .null, 0, 0, 0, 0), (12, .iload_n 1, 1, .null, 0, 0, 0, 0), (13, .iastore, 1, .null, 0, 0, 0, 0),
  (14, .iinc 2 1, 3, .null, 0, 0, 0, 0), (17, .goto (-12), 3, .null, 5, 0, 0, 0), (20, .return_, 1, .null, 0, 0, 0, 0)]
def ar_293 : List ai_R := [(0, .new 7, 3, .null, 10, 0, 7021, 0), (3, .dup, 1, .null, 0, 0, 0, 0), (4, .invokespecial 9, 3, .null, 2, 128, 7023, 0), (7, .astore_n 1, 1, .null, 0, 0, 0, 0),
  (8, .new 10, 3, .null, 11, 0, 11233, 0), (11, .dup, 1, .null, 0, 0, 0, 0), (12, .invokespecial 12, 3, .null, 2, 182, 11235, 0), (15, .astore_n 2, 1, .null, 0, 0, 0, 0),
  (16, .iconst 0, 1, .null, 0, 0, 0, 0), (17, .istore_n 3, 1, .null, 0, 0, 0, 0), (18, .iload_n 3, 1, .null, 0, 0, 0, 0), (19, .aload_n 0, 1, .null, 0, 0, 0, 0),
  (20, .arraylength, 1, .null, 0, 0, 0, 0), (21, .bipush 6, 2, .null, 0, 0, 0, 0), (23, .isub, 1, .null, 0, 0, 0, 0), (24, .if_icmp .gt 1696, 3, .null, 1208, 0, 0, 0),
  (27, .aload_n 0, 1, .null, 0, 0, 0, 0), (28, .iload_n 3, 1, .null, 0, 0, 0, 0), (29, .iaload, 1, .null, 0, 0, 0, 0), (30, .bipush 63, 2, .null, 0, 0, 0, 0),
  (32, .iand, 1, .null, 0, 0, 0, 0), (33, .tableswitch 1681 0 45 #[199, 262, 285, 308, 351, 384, 407, 430, 453, 496, 529, 562, 605, 638, 671, 704, 717, 750, 763, 786, 809, 822, 845, 878, 901, 960, 1009, 1032, 1065, 1078, 1111, 1144, 1187, 1230, 1273, 1316, 1360, 1383, 1406, 1449, 1472, 1515, 1589, 1612, 1635, 1658], 199, .null, 0, 0, 0, 0), (232, .aload_n 1, 1, .null, 0, 0, 0, 0), (233, .aload_n 0, 1, .null, 0, 0, 0, 0),
  (234, .iload_n 3, 1, .null, 0, 0, 0, 0), (235, .iconst 1, 1, .null, 0, 0, 0, 0), (236, .iadd, 1, .null, 0, 0, 0, 0), (237, .iaload, 1, .null, 0, 0, 0, 0),
  (238, .aload_n 0, 1, .null, 0, 0, 0, 0), (239, .iload_n 3, 1, .null, 0, 0, 0, 0), (240, .iconst 2, 1, .null, 0, 0, 0, 0), (241, .iadd, 1, .null, 0, 0, 0, 0),
  (242, .iaload, 1, .null, 0, 0, 0, 0), (243, .aload_n 0, 1, .null, 0, 0, 0, 0), (244, .iload_n 3, 1, .null, 0, 0, 0, 0), (245, .iconst 3, 1, .null, 0, 0, 0, 0),
  (246, .iadd, 1, .null, 0, 0, 0, 0), (247, .iaload, 1, .null, 0, 0, 0, 0), (248, .aload_n 0, 1, .null, 0, 0, 0, 0), (249, .iload_n 3, 1, .null, 0, 0, 0, 0),
  (250, .iconst 4, 1, .null, 0, 0, 0, 0), (251, .iadd, 1, .null, 0, 0, 0, 0), (252, .iaload, 1, .null, 0, 0, 0, 0), (253, .aload_n 0, 1, .null, 0, 0, 0, 0),
  (254, .iload_n 3, 1, .null, 0, 0, 0, 0), (255, .iconst 5, 1, .null, 0, 0, 0, 0), (256, .iadd, 1, .null, 0, 0, 0, 0), (257, .iaload, 1, .null, 0, 0, 0, 0),
  (258, .invokevirtual 13, 3, .null, 0, 129, 8126, 0), (261, .aload_n 2, 1, .null, 0, 0, 0, 0), (262, .aload_n 0, 1, .null, 0, 0, 0, 0), (263, .iload_n 3, 1, .null, 0, 0, 0, 0),
  (264, .iconst 1, 1, .null, 0, 0, 0, 0), (265, .iadd, 1, .null, 0, 0, 0, 0), (266, .iaload, 1, .null, 0, 0, 0, 0), (267, .aload_n 0, 1, .null, 0, 0, 0, 0),
  (268, .iload_n 3, 1, .null, 0, 0, 0, 0), (269, .iconst 2, 1, .null, 0, 0, 0, 0), (270, .iadd, 1, .null, 0, 0, 0, 0), (271, .iaload, 1, .null, 0, 0, 0, 0),
  (272, .aload_n 0, 1, .null, 0, 0, 0, 0), (273, .iload_n 3, 1, .null, 0, 0, 0, 0), (274, .iconst 3, 1, .null, 0, 0, 0, 0), (275, .iadd, 1, .null, 0, 0, 0, 0),
  (276, .iaload, 1, .null, 0, 0, 0, 0), (277, .aload_n 0, 1, .null, 0, 0, 0, 0), (278, .iload_n 3, 1, .null, 0, 0, 0, 0), (279, .iconst 4, 1, .null, 0, 0, 0, 0),
  (280, .iadd, 1, .null, 0, 0, 0, 0), (281, .iaload, 1, .null, 0, 0, 0, 0), (282, .aload_n 0, 1, .null, 0, 0, 0, 0), (283, .iload_n 3, 1, .null, 0, 0, 0, 0),
  (284, .iconst 5, 1, .null, 0, 0, 0, 0), (285, .iadd, 1, .null, 0, 0, 0, 0), (286, .iaload, 1, .null, 0, 0, 0, 0), (287, .invokevirtual 17, 3, .null, 0, 183, 12122, 0),
  (290, .if_icmp .eq 1424, 3, .null, 1206, 0, 0, 0), (293, .iconst 0, 1, .null, 0, 0, 0, 0), (294, .ireturn, 1, .null, 0, 0, 0, 0), (295, .aload_n 1, 1, .null, 0, 0, 0, 0),
  (296, .aload_n 0, 1, .null, 0, 0, 0, 0), (297, .iload_n 3, 1, .null, 0, 0, 0, 0), (298, .iconst 1, 1, .null, 0, 0, 0, 0), (299, .iadd, 1, .null, 0, 0, 0, 0),
  (300, .iaload, 1, .null, 0, 0, 0, 0), (301, .invokevirtual 18, 3, .null, 0, 131, 8134, 0), (304, .aload_n 2, 1, .null, 0, 0, 0, 0), (305, .aload_n 0, 1, .null, 0, 0, 0, 0),
  (306, .iload_n 3, 1, .null, 0, 0, 0, 0), (307, .iconst 1, 1, .null, 0, 0, 0, 0), (308, .iadd, 1, .null, 0, 0, 0, 0), (309, .iaload, 1, .null, 0, 0, 0, 0),
  (310, .invokevirtual 22, 3, .null, 0, 205, 12126, 0), (313, .if_icmp .eq 1401, 3, .null, 1206, 0, 0, 0), (316, .iconst 0, 1, .null, 0, 0, 0, 0), (317, .ireturn, 1, .null, 0, 0, 0, 0),
  (318, .aload_n 1, 1, .null, 0, 0, 0, 0), (319, .aload_n 0, 1, .null, 0, 0, 0, 0), (320, .iload_n 3, 1, .null, 0, 0, 0, 0), (321, .iconst 1, 1, .null, 0, 0, 0, 0),
  (322, .iadd, 1, .null, 0, 0, 0, 0), (323, .iaload, 1, .null, 0, 0, 0, 0), (324, .invokevirtual 23, 3, .null, 0, 132, 9070, 0), (327, .aload_n 2, 1, .null, 0, 0, 0, 0),
  (328, .aload_n 0, 1, .null, 0, 0, 0, 0), (329, .iload_n 3, 1, .null, 0, 0, 0, 0), (330, .iconst 1, 1, .null, 0, 0, 0, 0), (331, .iadd, 1, .null, 0, 0, 0, 0),
  (332, .iaload, 1, .null, 0, 0, 0, 0), (333, .invokevirtual 26, 3, .null, 0, 206, 12217, 0), (336, .if_icmp .eq 1378, 3, .null, 1206, 0, 0, 0), (339, .iconst 0, 1, .null, 0, 0, 0, 0),
  (340, .ireturn, 1, .null, 0, 0, 0, 0), (341, .aload_n 1, 1, .null, 0, 0, 0, 0), (342, .aload_n 0, 1, .null, 0, 0, 0, 0), (343, .iload_n 3, 1, .null, 0, 0, 0, 0),
  (344, .iconst 1, 1, .null, 0, 0, 0, 0), (345, .iadd, 1, .null, 0, 0, 0, 0), (346, .iaload, 1, .null, 0, 0, 0, 0), (347, .aload_n 0, 1, .null, 0, 0, 0, 0),
  (348, .iload_n 3, 1, .null, 0, 0, 0, 0), (349, .iconst 2, 1, .null, 0, 0, 0, 0), (350, .iadd, 1, .null, 0, 0, 0, 0), (351, .iaload, 1, .null, 0, 0, 0, 0),
  (352, .aload_n 0, 1, .null, 0, 0, 0, 0), (353, .iload_n 3, 1, .null, 0, 0, 0, 0), (354, .iconst 3, 1, .null, 0, 0, 0, 0), (355, .iadd, 1, .null, 0, 0, 0, 0),
  (356, .iaload, 1, .null, 0, 0, 0, 0), (357, .invokevirtual 27, 3, .null, 0, 133, 9074, 0), (360, .aload_n 2, 1, .null, 0, 0, 0, 0), (361, .aload_n 0, 1, .null, 0, 0, 0, 0),
  (362, .iload_n 3, 1, .null, 0, 0, 0, 0), (363, .iconst 1, 1, .null, 0, 0, 0, 0), (364, .iadd, 1, .null, 0, 0, 0, 0), (365, .iaload, 1, .null, 0, 0, 0, 0),
  (366, .aload_n 0, 1, .null, 0, 0, 0, 0), (367, .iload_n 3, 1, .null, 0, 0, 0, 0), (368, .iconst 2, 1, .null, 0, 0, 0, 0), (369, .iadd, 1, .null, 0, 0, 0, 0),
  (370, .iaload, 1, .null, 0, 0, 0, 0), (371, .aload_n 0, 1, .null, 0, 0, 0, 0), (372, .iload_n 3, 1, .null, 0, 0, 0, 0), (373, .iconst 3, 1, .null, 0, 0, 0, 0),
  (374, .iadd, 1, .null, 0, 0, 0, 0), (375, .iaload, 1, .null, 0, 0, 0, 0), (376, .invokevirtual 31, 3, .null, 0, 215, 12221, 0), (379, .if_icmp .eq 1335, 3, .null, 1206, 0, 0, 0),
  (382, .iconst 0, 1, .null, 0, 0, 0, 0), (383, .ireturn, 1, .null, 0, 0, 0, 0), (384, .aload_n 1, 1, .null, 0, 0, 0, 0), (385, .aload_n 0, 1, .null, 0, 0, 0, 0),
  (386, .iload_n 3, 1, .null, 0, 0, 0, 0), (387, .iconst 1, 1, .null, 0, 0, 0, 0), (388, .iadd, 1, .null, 0, 0, 0, 0), (389, .iaload, 1, .null, 0, 0, 0, 0),
  (390, .aload_n 0, 1, .null, 0, 0, 0, 0), (391, .iload_n 3, 1, .null, 0, 0, 0, 0), (392, .iconst 2, 1, .null, 0, 0, 0, 0), (393, .iadd, 1, .null, 0, 0, 0, 0),
  (394, .iaload, 1, .null, 0, 0, 0, 0), (395, .invokevirtual 32, 3, .null, 0, 134, 9095, 0), (398, .aload_n 2, 1, .null, 0, 0, 0, 0), (399, .aload_n 0, 1, .null, 0, 0, 0, 0),
  (400, .iload_n 3, 1, .null, 0, 0, 0, 0), (401, .iconst 1, 1, .null, 0, 0, 0, 0), (402, .iadd, 1, .null, 0, 0, 0, 0), (403, .iaload, 1, .null, 0, 0, 0, 0),
  (404, .aload_n 0, 1, .null, 0, 0, 0, 0), (405, .iload_n 3, 1, .null, 0, 0, 0, 0), (406, .iconst 2, 1, .null, 0, 0, 0, 0), (407, .iadd, 1, .null, 0, 0, 0, 0),
  (408, .iaload, 1, .null, 0, 0, 0, 0), (409, .invokevirtual 36, 3, .null, 0, 216, 12234, 0), (412, .if_icmp .eq 1302, 3, .null, 1206, 0, 0, 0), (415, .iconst 0, 1, .null, 0, 0, 0, 0),
  (416, .ireturn, 1, .null, 0, 0, 0, 0), (417, .aload_n 1, 1, .null, 0, 0, 0, 0), (418, .aload_n 0, 1, .null, 0, 0, 0, 0), (419, .iload_n 3, 1, .null, 0, 0, 0, 0),
  (420, .iconst 1, 1, .null, 0, 0, 0, 0), (421, .iadd, 1, .null, 0, 0, 0, 0), (422, .iaload, 1, .null, 0, 0, 0, 0), (423, .invokevirtual 37, 3, .null, 0, 135, 9103, 0),
  (426, .aload_n 2, 1, .null, 0, 0, 0, 0), (427, .aload_n 0, 1, .null, 0, 0, 0, 0), (428, .iload_n 3, 1, .null, 0, 0, 0, 0), (429, .iconst 1, 1, .null, 0, 0, 0, 0),
  (430, .iadd, 1, .null, 0, 0, 0, 0), (431, .iaload, 1, .null, 0, 0, 0, 0), (432, .invokevirtual 40, 3, .null, 0, 217, 12238, 0), (435, .if_icmp .eq 1279, 3, .null, 1206, 0, 0, 0),
  (438, .iconst 0, 1, .null, 0, 0, 0, 0), (439, .ireturn, 1, .null, 0, 0, 0, 0), (440, .aload_n 1, 1, .null, 0, 0, 0, 0), (441, .aload_n 0, 1, .null, 0, 0, 0, 0),
  (442, .iload_n 3, 1, .null, 0, 0, 0, 0), (443, .iconst 1, 1, .null, 0, 0, 0, 0), (444, .iadd, 1, .null, 0, 0, 0, 0), (445, .iaload, 1, .null, 0, 0, 0, 0),
  (446, .invokevirtual 41, 3, .null, 0, 136, 9115, 0), (449, .aload_n 2, 1, .null, 0, 0, 0, 0), (450, .aload_n 0, 1, .null, 0, 0, 0, 0), (451, .iload_n 3, 1, .null, 0, 0, 0, 0),
  (452, .iconst 1, 1, .null, 0, 0, 0, 0), (453, .iadd, 1, .null, 0, 0, 0, 0), (454, .iaload, 1, .null, 0, 0, 0, 0), (455, .invokevirtual 44, 3, .null, 0, 218, 13006, 0),
  (458, .if_icmp .eq 1256, 3, .null, 1206, 0, 0, 0), (461, .iconst 0, 1, .null, 0, 0, 0, 0), (462, .ireturn, 1, .null, 0, 0, 0, 0), (463, .aload_n 1, 1, .null, 0, 0, 0, 0),
  (464, .aload_n 0, 1, .null, 0, 0, 0, 0), (465, .iload_n 3, 1, .null, 0, 0, 0, 0), (466, .iconst 1, 1, .null, 0, 0, 0, 0), (467, .iadd, 1, .null, 0, 0, 0, 0),
  (468, .iaload, 1, .null, 0, 0, 0, 0), (469, .invokevirtual 45, 3, .null, 0, 137, 9134, 0), (472, .aload_n 2, 1, .null, 0, 0, 0, 0), (473, .aload_n 0, 1, .null, 0, 0, 0, 0),
  (474, .iload_n 3, 1, .null, 0, 0, 0, 0), (475, .iconst 1, 1, .null, 0, 0, 0, 0), (476, .iadd, 1, .null, 0, 0, 0, 0), (477, .iaload, 1, .null, 0, 0, 0, 0),
  (478, .invokevirtual 48, 3, .null, 0, 220, 13014, 0), (481, .if_icmp .eq 1233, 3, .null, 1206, 0, 0, 0), (484, .iconst 0, 1, .null, 0, 0, 0, 0), (485, .ireturn, 1, .null, 0, 0, 0, 0),
  (486, .aload_n 1, 1, .null, 0, 0, 0, 0), (487, .aload_n 0, 1, .null, 0, 0, 0, 0), (488, .iload_n 3, 1, .null, 0, 0, 0, 0), (489, .iconst 1, 1, .null, 0, 0, 0, 0),
  (490, .iadd, 1, .null, 0, 0, 0, 0), (491, .iaload, 1, .null, 0, 0, 0, 0), (492, .aload_n 0, 1, .null, 0, 0, 0, 0), (493, .iload_n 3, 1, .null, 0, 0, 0, 0),
  (494, .iconst 2, 1, .null, 0, 0, 0, 0), (495, .iadd, 1, .null, 0, 0, 0, 0), (496, .iaload, 1, .null, 0, 0, 0, 0), (497, .aload_n 0, 1, .null, 0, 0, 0, 0),
  (498, .iload_n 3, 1, .null, 0, 0, 0, 0), (499, .iconst 3, 1, .null, 0, 0, 0, 0), (500, .iadd, 1, .null, 0, 0, 0, 0), (501, .iaload, 1, .null, 0, 0, 0, 0),
  (502, .invokevirtual 49, 3, .null, 0, 138, 9150, 0), (505, .aload_n 2, 1, .null, 0, 0, 0, 0), (506, .aload_n 0, 1, .null, 0, 0, 0, 0), (507, .iload_n 3, 1, .null, 0, 0, 0, 0),
  (508, .iconst 1, 1, .null, 0, 0, 0, 0), (509, .iadd, 1, .null, 0, 0, 0, 0), (510, .iaload, 1, .null, 0, 0, 0, 0), (511, .aload_n 0, 1, .null, 0, 0, 0, 0),
  (512, .iload_n 3, 1, .null, 0, 0, 0, 0), (513, .iconst 2, 1, .null, 0, 0, 0, 0), (514, .iadd, 1, .null, 0, 0, 0, 0), (515, .iaload, 1, .null, 0, 0, 0, 0),
  (516, .aload_n 0, 1, .null, 0, 0, 0, 0), (517, .iload_n 3, 1, .null, 0, 0, 0, 0), (518, .iconst 3, 1, .null, 0, 0, 0, 0), (519, .iadd, 1, .null, 0, 0, 0, 0),
  (520, .iaload, 1, .null, 0, 0, 0, 0), (521, .invokevirtual 52, 3, .null, 0, 224, 13023, 0), (524, .if_icmp .eq 1190, 3, .null, 1206, 0, 0, 0), (527, .iconst 0, 1, .null, 0, 0, 0, 0),
  (528, .ireturn, 1, .null, 0, 0, 0, 0), (529, .aload_n 1, 1, .null, 0, 0, 0, 0), (530, .aload_n 0, 1, .null, 0, 0, 0, 0), (531, .iload_n 3, 1, .null, 0, 0, 0, 0),
  (532, .iconst 1, 1, .null, 0, 0, 0, 0), (533, .iadd, 1, .null, 0, 0, 0, 0), (534, .iaload, 1, .null, 0, 0, 0, 0), (535, .aload_n 0, 1, .null, 0, 0, 0, 0),
  (536, .iload_n 3, 1, .null, 0, 0, 0, 0), (537, .iconst 2, 1, .null, 0, 0, 0, 0), (538, .iadd, 1, .null, 0, 0, 0, 0), (539, .iaload, 1, .null, 0, 0, 0, 0),
  (540, .invokevirtual 53, 3, .null, 0, 139, 9178, 0), (543, .aload_n 2, 1, .null, 0, 0, 0, 0), (544, .aload_n 0, 1, .null, 0, 0, 0, 0), (545, .iload_n 3, 1, .null, 0, 0, 0, 0),
  (546, .iconst 1, 1, .null, 0, 0, 0, 0), (547, .iadd, 1, .null, 0, 0, 0, 0), (548, .iaload, 1, .null, 0, 0, 0, 0), (549, .aload_n 0, 1, .null, 0, 0, 0, 0),
  (550, .iload_n 3, 1, .null, 0, 0, 0, 0), (551, .iconst 2, 1, .null, 0, 0, 0, 0), (552, .iadd, 1, .null, 0, 0, 0, 0), (553, .iaload, 1, .null, 0, 0, 0, 0),
  (554, .invokevirtual 56, 3, .null, 0, 226, 13039, 0), (557, .if_icmp .eq 1157, 3, .null, 1206, 0, 0, 0), (560, .iconst 0, 1, .null, 0, 0, 0, 0), (561, .ireturn, 1, .null, 0, 0, 0, 0),
  (562, .aload_n 1, 1, .null, 0, 0, 0, 0), (563, .aload_n 0, 1, .null, 0, 0, 0, 0), (564, .iload_n 3, 1, .null, 0, 0, 0, 0), (565, .iconst 1, 1, .null, 0, 0, 0, 0),
  (566, .iadd, 1, .null, 0, 0, 0, 0), (567, .iaload, 1, .null, 0, 0, 0, 0), (568, .aload_n 0, 1, .null, 0, 0, 0, 0), (569, .iload_n 3, 1, .null, 0, 0, 0, 0),
  (570, .iconst 2, 1, .null, 0, 0, 0, 0), (571, .iadd, 1, .null, 0, 0, 0, 0), (572, .iaload, 1, .null, 0, 0, 0, 0), (573, .invokevirtual 57, 3, .null, 0, 140, 9197, 0),
  (576, .aload_n 2, 1, .null, 0, 0, 0, 0), (577, .aload_n 0, 1, .null, 0, 0, 0, 0), (578, .iload_n 3, 1, .null, 0, 0, 0, 0), (579, .iconst 1, 1, .null, 0, 0, 0, 0),
  (580, .iadd, 1, .null, 0, 0, 0, 0), (581, .iaload, 1, .null, 0, 0, 0, 0), (582, .aload_n 0, 1, .null, 0, 0, 0, 0), (583, .iload_n 3, 1, .null, 0, 0, 0, 0),
  (584, .iconst 2, 1, .null, 0, 0, 0, 0), (585, .iadd, 1, .null, 0, 0, 0, 0), (586, .iaload, 1, .null, 0, 0, 0, 0), (587, .invokevirtual 60, 3, .null, 0, 228, 13047, 0),
  (590, .if_icmp .eq 1124, 3, .null, 1206, 0, 0, 0), (593, .iconst 0, 1, .null, 0, 0, 0, 0), (594, .ireturn, 1, .null, 0, 0, 0, 0), (595, .aload_n 1, 1, .null, 0, 0, 0, 0),
  (596, .aload_n 0, 1, .null, 0, 0, 0, 0), (597, .iload_n 3, 1, .null, 0, 0, 0, 0), (598, .iconst 1, 1, .null, 0, 0, 0, 0), (599, .iadd, 1, .null, 0, 0, 0, 0),
  (600, .iaload, 1, .null, 0, 0, 0, 0), (601, .aload_n 0, 1, .null, 0, 0, 0, 0), (602, .iload_n 3, 1, .null, 0, 0, 0, 0), (603, .iconst 2, 1, .null, 0, 0, 0, 0),
  (604, .iadd, 1, .null, 0, 0, 0, 0), (605, .iaload, 1, .null, 0, 0, 0, 0), (606, .aload_n 0, 1, .null, 0, 0, 0, 0), (607, .iload_n 3, 1, .null, 0, 0, 0, 0),
  (608, .iconst 3, 1, .null, 0, 0, 0, 0), (609, .iadd, 1, .null, 0, 0, 0, 0), (610, .iaload, 1, .null, 0, 0, 0, 0), (611, .invokevirtual 61, 3, .null, 0, 141, 9209, 0),
  (614, .aload_n 2, 1, .null, 0, 0, 0, 0), (615, .aload_n 0, 1, .null, 0, 0, 0, 0), (616, .iload_n 3, 1, .null, 0, 0, 0, 0), (617, .iconst 1, 1, .null, 0, 0, 0, 0),
  (618, .iadd, 1, .null, 0, 0, 0, 0), (619, .iaload, 1, .null, 0, 0, 0, 0), (620, .aload_n 0, 1, .null, 0, 0, 0, 0), (621, .iload_n 3, 1, .null, 0, 0, 0, 0),
  (622, .iconst 2, 1, .null, 0, 0, 0, 0), (623, .iadd, 1, .null, 0, 0, 0, 0), (624, .iaload, 1, .null, 0, 0, 0, 0), (625, .aload_n 0, 1, .null, 0, 0, 0, 0),
  (626, .iload_n 3, 1, .null, 0, 0, 0, 0), (627, .iconst 3, 1, .null, 0, 0, 0, 0), (628, .iadd, 1, .null, 0, 0, 0, 0), (629, .iaload, 1, .null, 0, 0, 0, 0),
  (630, .invokevirtual 64, 3, .null, 0, 229, 13055, 0), (633, .if_icmp .eq 1081, 3, .null, 1206, 0, 0, 0), (636, .iconst 0, 1, .null, 0, 0, 0, 0), (637, .ireturn, 1, .null, 0, 0, 0, 0),
  (638, .aload_n 1, 1, .null, 0, 0, 0, 0), (639, .aload_n 0, 1, .null, 0, 0, 0, 0), (640, .iload_n 3, 1, .null, 0, 0, 0, 0), (641, .iconst 1, 1, .null, 0, 0, 0, 0),
  (642, .iadd, 1, .null, 0, 0, 0, 0), (643, .iaload, 1, .null, 0, 0, 0, 0), (644, .aload_n 0, 1, .null, 0, 0, 0, 0), (645, .iload_n 3, 1, .null, 0, 0, 0, 0),
  (646, .iconst 2, 1, .null, 0, 0, 0, 0), (647, .iadd, 1, .null, 0, 0, 0, 0), (648, .iaload, 1, .null, 0, 0, 0, 0), (649, .invokevirtual 65, 3, .null, 0, 142, 9214, 0),
  (652, .aload_n 2, 1, .null, 0, 0, 0, 0), (653, .aload_n 0, 1, .null, 0, 0, 0, 0), (654, .iload_n 3, 1, .null, 0, 0, 0, 0), (655, .iconst 1, 1, .null, 0, 0, 0, 0),
  (656, .iadd, 1, .null, 0, 0, 0, 0), (657, .iaload, 1, .null, 0, 0, 0, 0), (658, .aload_n 0, 1, .null, 0, 0, 0, 0), (659, .iload_n 3, 1, .null, 0, 0, 0, 0),
  (660, .iconst 2, 1, .null, 0, 0, 0, 0), (661, .iadd, 1, .null, 0, 0, 0, 0), (662, .iaload, 1, .null, 0, 0, 0, 0), (663, .invokevirtual 68, 3, .null, 0, 230, 13059, 0),
  (666, .if_icmp .eq 1048, 3, .null, 1206, 0, 0, 0), (669, .iconst 0, 1, .null, 0, 0, 0, 0), (670, .ireturn, 1, .null, 0, 0, 0, 0), (671, .aload_n 1, 1, .null, 0, 0, 0, 0),
  (672, .aload_n 0, 1, .null, 0, 0, 0, 0), (673, .iload_n 3, 1, .null, 0, 0, 0, 0), (674, .iconst 1, 1, .null, 0, 0, 0, 0), (675, .iadd, 1, .null, 0, 0, 0, 0),
  (676, .iaload, 1, .null, 0, 0, 0, 0), (677, .aload_n 0, 1, .null, 0, 0, 0, 0), (678, .iload_n 3, 1, .null, 0, 0, 0, 0), (679, .iconst 2, 1, .null, 0, 0, 0, 0),
  (680, .iadd, 1, .null, 0, 0, 0, 0), (681, .iaload, 1, .null, 0, 0, 0, 0), (682, .invokevirtual 69, 3, .null, 0, 143, 9223, 0), (685, .aload_n 2, 1, .null, 0, 0, 0, 0),
  (686, .aload_n 0, 1, .null, 0, 0, 0, 0), (687, .iload_n 3, 1, .null, 0, 0, 0, 0), (688, .iconst 1, 1, .null, 0, 0, 0, 0), (689, .iadd, 1, .null, 0, 0, 0, 0),
  (690, .iaload, 1, .null, 0, 0, 0, 0), (691, .aload_n 0, 1, .null, 0, 0, 0, 0), (692, .iload_n 3, 1, .null, 0, 0, 0, 0), (693, .iconst 2, 1, .null, 0, 0, 0, 0),
  (694, .iadd, 1, .null, 0, 0, 0, 0), (695, .iaload, 1, .null, 0, 0, 0, 0), (696, .invokevirtual 72, 3, .null, 0, 238, 13067, 0), (699, .if_icmp .eq 1015, 3, .null, 1206, 0, 0, 0),
  (702, .iconst 0, 1, .null, 0, 0, 0, 0), (703, .ireturn, 1, .null, 0, 0, 0, 0), (704, .aload_n 1, 1, .null, 0, 0, 0, 0), (705, .aload_n 0, 1, .null, 0, 0, 0, 0),
  (706, .iload_n 3, 1, .null, 0, 0, 0, 0), (707, .iconst 1, 1, .null, 0, 0, 0, 0), (708, .iadd, 1, .null, 0, 0, 0, 0), (709, .iaload, 1, .null, 0, 0, 0, 0),
  (710, .aload_n 0, 1, .null, 0, 0, 0, 0), (711, .iload_n 3, 1, .null, 0, 0, 0, 0), (712, .iconst 2, 1, .null, 0, 0, 0, 0), (713, .iadd, 1, .null, 0, 0, 0, 0),
  (714, .iaload, 1, .null, 0, 0, 0, 0), (715, .invokevirtual 73, 3, .null, 0, 144, 10052, 0), (718, .aload_n 2, 1, .null, 0, 0, 0, 0), (719, .aload_n 0, 1, .null, 0, 0, 0, 0),
  (720, .iload_n 3, 1, .null, 0, 0, 0, 0), (721, .iconst 1, 1, .null, 0, 0, 0, 0), (722, .iadd, 1, .null, 0, 0, 0, 0), (723, .iaload, 1, .null, 0, 0, 0, 0),
  (724, .aload_n 0, 1, .null, 0, 0, 0, 0), (725, .iload_n 3, 1, .null, 0, 0, 0, 0), (726, .iconst 2, 1, .null, 0, 0, 0, 0), (727, .iadd, 1, .null, 0, 0, 0, 0),
  (728, .iaload, 1, .null, 0, 0, 0, 0), (729, .invokevirtual 76, 3, .null, 0, 239, 13108, 0), (732, .if_icmp .eq 982, 3, .null, 1206, 0, 0, 0), (735, .iconst 0, 1, .null, 0, 0, 0, 0),
  (736, .ireturn, 1, .null, 0, 0, 0, 0), (737, .aload_n 1, 1, .null, 0, 0, 0, 0), (738, .invokevirtual 77, 3, .null, 0, 146, 10056, 0), (741, .aload_n 2, 1, .null, 0, 0, 0, 0),
  (742, .invokevirtual 81, 3, .null, 0, 240, 13112, 0), (745, .if_icmp .eq 969, 3, .null, 1206, 0, 0, 0), (748, .iconst 0, 1, .null, 0, 0, 0, 0), (749, .ireturn, 1, .null, 0, 0, 0, 0),
  (750, .aload_n 1, 1, .null, 0, 0, 0, 0), (751, .aload_n 0, 1, .null, 0, 0, 0, 0), (752, .iload_n 3, 1, .null, 0, 0, 0, 0), (753, .iconst 1, 1, .null, 0, 0, 0, 0),
  (754, .iadd, 1, .null, 0, 0, 0, 0), (755, .iaload, 1, .null, 0, 0, 0, 0), (756, .aload_n 0, 1, .null, 0, 0, 0, 0), (757, .iload_n 3, 1, .null, 0, 0, 0, 0),
  (758, .iconst 2, 1, .null, 0, 0, 0, 0), (759, .iadd, 1, .null, 0, 0, 0, 0), (760, .iaload, 1, .null, 0, 0, 0, 0), (761, .invokevirtual 82, 3, .null, 0, 147, 10069, 0),
  (764, .aload_n 2, 1, .null, 0, 0, 0, 0), (765, .aload_n 0, 1, .null, 0, 0, 0, 0), (766, .iload_n 3, 1, .null, 0, 0, 0, 0), (767, .iconst 1, 1, .null, 0, 0, 0, 0),
  (768, .iadd, 1, .null, 0, 0, 0, 0), (769, .iaload, 1, .null, 0, 0, 0, 0), (770, .aload_n 0, 1, .null, 0, 0, 0, 0), (771, .iload_n 3, 1, .null, 0, 0, 0, 0),
  (772, .iconst 2, 1, .null, 0, 0, 0, 0), (773, .iadd, 1, .null, 0, 0, 0, 0), (774, .iaload, 1, .null, 0, 0, 0, 0), (775, .invokevirtual 85, 3, .null, 0, 243, 13116, 0),
  (778, .if_icmp .eq 936, 3, .null, 1206, 0, 0, 0), (781, .iconst 0, 1, .null, 0, 0, 0, 0), (782, .ireturn, 1, .null, 0, 0, 0, 0), (783, .aload_n 1, 1, .null, 0, 0, 0, 0),
  (784, .invokevirtual 86, 3, .null, 0, 148, 10099, 0), (787, .aload_n 2, 1, .null, 0, 0, 0, 0), (788, .invokevirtual 89, 3, .null, 0, 244, 13124, 0), (791, .if_icmp .eq 923, 3, .null, 1206, 0, 0, 0),
  (794, .iconst 0, 1, .null, 0, 0, 0, 0), (795, .ireturn, 1, .null, 0, 0, 0, 0), (796, .aload_n 1, 1, .null, 0, 0, 0, 0), (797, .aload_n 0, 1, .null, 0, 0, 0, 0),
  (798, .iload_n 3, 1, .null, 0, 0, 0, 0), (799, .iconst 1, 1, .null, 0, 0, 0, 0), (800, .iadd, 1, .null, 0, 0, 0, 0), (801, .iaload, 1, .null, 0, 0, 0, 0),
  (802, .invokevirtual 90, 3, .null, 0, 149, 10103, 0), (805, .aload_n 2, 1, .null, 0, 0, 0, 0), (806, .aload_n 0, 1, .null, 0, 0, 0, 0), (807, .iload_n 3, 1, .null, 0, 0, 0, 0),
  (808, .iconst 1, 1, .null, 0, 0, 0, 0), (809, .iadd, 1, .null, 0, 0, 0, 0), (810, .iaload, 1, .null, 0, 0, 0, 0), (811, .invokevirtual 93, 3, .null, 0, 245, 13128, 0),
  (814, .if_icmp .eq 900, 3, .null, 1206, 0, 0, 0), (817, .iconst 0, 1, .null, 0, 0, 0, 0), (818, .ireturn, 1, .null, 0, 0, 0, 0), (819, .aload_n 1, 1, .null, 0, 0, 0, 0),
  (820, .aload_n 0, 1, .null, 0, 0, 0, 0), (821, .iload_n 3, 1, .null, 0, 0, 0, 0), (822, .iconst 1, 1, .null, 0, 0, 0, 0), (823, .iadd, 1, .null, 0, 0, 0, 0),
  (824, .iaload, 1, .null, 0, 0, 0, 0), (825, .invokevirtual 94, 3, .null, 0, 150, 10128, 0), (828, .aload_n 2, 1, .null, 0, 0, 0, 0), (829, .aload_n 0, 1, .null, 0, 0, 0, 0),
  (830, .iload_n 3, 1, .null, 0, 0, 0, 0), (831, .iconst 1, 1, .null, 0, 0, 0, 0), (832, .iadd, 1, .null, 0, 0, 0, 0), (833, .iaload, 1, .null, 0, 0, 0, 0),
  (834, .invokevirtual 97, 3, .null, 0, 246, 13136, 0), (837, .if_icmp .eq 877, 3, .null, 1206, 0, 0, 0), (840, .iconst 0, 1, .null, 0, 0, 0, 0), (841, .ireturn, 1, .null, 0, 0, 0, 0),
  (842, .aload_n 1, 1, .null, 0, 0, 0, 0), (843, .invokevirtual 98, 3, .null, 0, 151, 10136, 0), (846, .aload_n 2, 1, .null, 0, 0, 0, 0), (847, .invokevirtual 101, 3, .null, 0, 249, 13140, 0),
  (850, .if_icmp .eq 864, 3, .null, 1206, 0, 0, 0), (853, .iconst 0, 1, .null, 0, 0, 0, 0), (854, .ireturn, 1, .null, 0, 0, 0, 0), (855, .aload_n 1, 1, .null, 0, 0, 0, 0),
  (856, .aload_n 0, 1, .null, 0, 0, 0, 0), (857, .iload_n 3, 1, .null, 0, 0, 0, 0), (858, .iconst 1, 1, .null, 0, 0, 0, 0), (859, .iadd, 1, .null, 0, 0, 0, 0),
  (860, .iaload, 1, .null, 0, 0, 0, 0), (861, .invokevirtual 102, 3, .null, 0, 152, 10148, 0), (864, .aload_n 2, 1, .null, 0, 0, 0, 0), (865, .aload_n 0, 1, .null, 0, 0, 0, 0),
  (866, .iload_n 3, 1, .null, 0, 0, 0, 0), (867, .iconst 1, 1, .null, 0, 0, 0, 0), (868, .iadd, 1, .null, 0, 0, 0, 0), (869, .iaload, 1, .null, 0, 0, 0, 0),
  (870, .invokevirtual 105, 3, .null, 0, 250, 13152, 0), (873, .if_icmp .eq 841, 3, .null, 1206, 0, 0, 0), (876, .iconst 0, 1, .null, 0, 0, 0, 0), (877, .ireturn, 1, .null, 0, 0, 0, 0),
  (878, .aload_n 1, 1, .null, 0, 0, 0, 0), (879, .aload_n 0, 1, .null, 0, 0, 0, 0), (880, .iload_n 3, 1, .null, 0, 0, 0, 0), (881, .iconst 1, 1, .null, 0, 0, 0, 0),
  (882, .iadd, 1, .null, 0, 0, 0, 0), (883, .iaload, 1, .null, 0, 0, 0, 0), (884, .aload_n 0, 1, .null, 0, 0, 0, 0), (885, .iload_n 3, 1, .null, 0, 0, 0, 0),
  (886, .iconst 2, 1, .null, 0, 0, 0, 0), (887, .iadd, 1, .null, 0, 0, 0, 0), (888, .iaload, 1, .null, 0, 0, 0, 0), (889, .invokevirtual 106, 3, .null, 0, 153, 10158, 0),
  (892, .aload_n 2, 1, .null, 0, 0, 0, 0), (893, .aload_n 0, 1, .null, 0, 0, 0, 0), (894, .iload_n 3, 1, .null, 0, 0, 0, 0), (895, .iconst 1, 1, .null, 0, 0, 0, 0),
  (896, .iadd, 1, .null, 0, 0, 0, 0), (897, .iaload, 1, .null, 0, 0, 0, 0), (898, .aload_n 0, 1, .null, 0, 0, 0, 0), (899, .iload_n 3, 1, .null, 0, 0, 0, 0),
  (900, .iconst 2, 1, .null, 0, 0, 0, 0), (901, .iadd, 1, .null, 0, 0, 0, 0), (902, .iaload, 1, .null, 0, 0, 0, 0), (903, .invokevirtual 109, 3, .null, 0, 251, 13156, 0),
  (906, .if_icmp .eq 808, 3, .null, 1206, 0, 0, 0), (909, .iconst 0, 1, .null, 0, 0, 0, 0), (910, .ireturn, 1, .null, 0, 0, 0, 0), (911, .aload_n 1, 1, .null, 0, 0, 0, 0),
  (912, .aload_n 0, 1, .null, 0, 0, 0, 0), (913, .iload_n 3, 1, .null, 0, 0, 0, 0), (914, .iconst 1, 1, .null, 0, 0, 0, 0), (915, .iadd, 1, .null, 0, 0, 0, 0),
  (916, .iaload, 1, .null, 0, 0, 0, 0), (917, .invokevirtual 110, 3, .null, 0, 154, 10162, 0), (920, .aload_n 2, 1, .null, 0, 0, 0, 0), (921, .aload_n 0, 1, .null, 0, 0, 0, 0),
  (922, .iload_n 3, 1, .null, 0, 0, 0, 0), (923, .iconst 1, 1, .null, 0, 0, 0, 0), (924, .iadd, 1, .null, 0, 0, 0, 0), (925, .iaload, 1, .null, 0, 0, 0, 0),
  (926, .invokevirtual 113, 3, .null, 0, 252, 13160, 0), (929, .if_icmp .eq 785, 3, .null, 1206, 0, 0, 0), (932, .iconst 0, 1, .null, 0, 0, 0, 0), (933, .ireturn, 1, .null, 0, 0, 0, 0),
  (934, .aload_n 1, 1, .null, 0, 0, 0, 0), (935, .aload_n 0, 1, .null, 0, 0, 0, 0), (936, .iload_n 3, 1, .null, 0, 0, 0, 0), (937, .iconst 1, 1, .null, 0, 0, 0, 0),
  (938, .iadd, 1, .null, 0, 0, 0, 0), (939, .iaload, 1, .null, 0, 0, 0, 0), (940, .aload_n 0, 1, .null, 0, 0, 0, 0), (941, .iload_n 3, 1, .null, 0, 0, 0, 0),
  (942, .iconst 2, 1, .null, 0, 0, 0, 0), (943, .iadd, 1, .null, 0, 0, 0, 0), (944, .iaload, 1, .null, 0, 0, 0, 0), (945, .aload_n 0, 1, .null, 0, 0, 0, 0),
  (946, .iload_n 3, 1, .null, 0, 0, 0, 0), (947, .iconst 3, 1, .null, 0, 0, 0, 0), (948, .iadd, 1, .null, 0, 0, 0, 0), (949, .iaload, 1, .null, 0, 0, 0, 0),
  (950, .ifCond .eq 7, 3, .null, 599, 0, 0, 0), (953, .iconst 1, 1, .null, 0, 0, 0, 0), (954, .goto 4, 3, .null, 600, 0, 0, 0), (957, .iconst 0, 1, .null, 0, 0, 0, 0),
  (958, .invokevirtual 114, 3, .null, 0, 155, 10185, 0), (961, .aload_n 2, 1, .null, 0, 0, 0, 0), (962, .aload_n 0, 1, .null, 0, 0, 0, 0), (963, .iload_n 3, 1, .null, 0, 0, 0, 0),
  (964, .iconst 1, 1, .null, 0, 0, 0, 0), (965, .iadd, 1, .null, 0, 0, 0, 0), (966, .iaload, 1, .null, 0, 0, 0, 0), (967, .aload_n 0, 1, .null, 0, 0, 0, 0),
  (968, .iload_n 3, 1, .null, 0, 0, 0, 0), (969, .iconst 2, 1, .null, 0, 0, 0, 0), (970, .iadd, 1, .null, 0, 0, 0, 0), (971, .iaload, 1, .null, 0, 0, 0, 0),
  (972, .aload_n 0, 1, .null, 0, 0, 0, 0), (973, .iload_n 3, 1, .null, 0, 0, 0, 0), (974, .iconst 3, 1, .null, 0, 0, 0, 0), (975, .iadd, 1, .null, 0, 0, 0, 0),
  (976, .iaload, 1, .null, 0, 0, 0, 0), (977, .ifCond .eq 7, 3, .null, 620, 0, 0, 0), (980, .iconst 1, 1, .null, 0, 0, 0, 0), (981, .goto 4, 3, .null, 621, 0, 0, 0),
  (984, .iconst 0, 1, .null, 0, 0, 0, 0), (985, .invokevirtual 118, 3, .null, 0, 257, 13166, 0), (988, .if_icmp .eq 726, 3, .null, 1206, 0, 0, 0), (991, .iconst 0, 1, .null, 0, 0, 0, 0),
  (992, .ireturn, 1, .null, 0, 0, 0, 0), (993, .aload_n 1, 1, .null, 0, 0, 0, 0), (994, .aload_n 0, 1, .null, 0, 0, 0, 0), (995, .iload_n 3, 1, .null, 0, 0, 0, 0),
  (996, .iconst 1, 1, .null, 0, 0, 0, 0), (997, .iadd, 1, .null, 0, 0, 0, 0), (998, .iaload, 1, .null, 0, 0, 0, 0), (999, .aload_n 0, 1, .null, 0, 0, 0, 0),
  (1000, .iload_n 3, 1, .null, 0, 0, 0, 0), (1001, .iconst 2, 1, .null, 0, 0, 0, 0), (1002, .iadd, 1, .null, 0, 0, 0, 0), (1003, .iaload, 1, .null, 0, 0, 0, 0),
  (1004, .ifCond .eq 7, 3, .null, 639, 0, 0, 0), (1007, .iconst 1, 1, .null, 0, 0, 0, 0), (1008, .goto 4, 3, .null, 640, 0, 0, 0), (1011, .iconst 0, 1, .null, 0, 0, 0, 0),
  (1012, .invokevirtual 119, 3, .null, 0, 156, 10213, 0), (1015, .aload_n 2, 1, .null, 0, 0, 0, 0), (1016, .aload_n 0, 1, .null, 0, 0, 0, 0), (1017, .iload_n 3, 1, .null, 0, 0, 0, 0),
  (1018, .iconst 1, 1, .null, 0, 0, 0, 0), (1019, .iadd, 1, .null, 0, 0, 0, 0), (1020, .iaload, 1, .null, 0, 0, 0, 0), (1021, .aload_n 0, 1, .null, 0, 0, 0, 0),
  (1022, .iload_n 3, 1, .null, 0, 0, 0, 0), (1023, .iconst 2, 1, .null, 0, 0, 0, 0), (1024, .iadd, 1, .null, 0, 0, 0, 0), (1025, .iaload, 1, .null, 0, 0, 0, 0),
  (1026, .ifCond .eq 7, 3, .null, 655, 0, 0, 0), (1029, .iconst 1, 1, .null, 0, 0, 0, 0), (1030, .goto 4, 3, .null, 656, 0, 0, 0), (1033, .iconst 0, 1, .null, 0, 0, 0, 0),
  (1034, .invokevirtual 123, 3, .null, 0, 258, 13186, 0), (1037, .if_icmp .eq 677, 3, .null, 1206, 0, 0, 0), (1040, .iconst 0, 1, .null, 0, 0, 0, 0), (1041, .ireturn, 1, .null, 0, 0, 0, 0),
  (1042, .aload_n 1, 1, .null, 0, 0, 0, 0), (1043, .aload_n 0, 1, .null, 0, 0, 0, 0), (1044, .iload_n 3, 1, .null, 0, 0, 0, 0), (1045, .iconst 1, 1, .null, 0, 0, 0, 0),
  (1046, .iadd, 1, .null, 0, 0, 0, 0), (1047, .iaload, 1, .null, 0, 0, 0, 0), (1048, .invokevirtual 124, 3, .null, 0, 157, 10227, 0), (1051, .aload_n 2, 1, .null, 0, 0, 0, 0),
  (1052, .aload_n 0, 1, .null, 0, 0, 0, 0), (1053, .iload_n 3, 1, .null, 0, 0, 0, 0), (1054, .iconst 1, 1, .null, 0, 0, 0, 0), (1055, .iadd, 1, .null, 0, 0, 0, 0),
  (1056, .iaload, 1, .null, 0, 0, 0, 0), (1057, .invokevirtual 127, 3, .null, 0, 260, 13190, 0), (1060, .if_icmp .eq 654, 3, .null, 1206, 0, 0, 0), (1063, .iconst 0, 1, .null, 0, 0, 0, 0),
  (1064, .ireturn, 1, .null, 0, 0, 0, 0), (1065, .aload_n 1, 1, .null, 0, 0, 0, 0), (1066, .aload_n 0, 1, .null, 0, 0, 0, 0), (1067, .iload_n 3, 1, .null, 0, 0, 0, 0),
  (1068, .iconst 1, 1, .null, 0, 0, 0, 0), (1069, .iadd, 1, .null, 0, 0, 0, 0), (1070, .iaload, 1, .null, 0, 0, 0, 0), (1071, .aload_n 0, 1, .null, 0, 0, 0, 0),
  (1072, .iload_n 3, 1, .null, 0, 0, 0, 0), (1073, .iconst 2, 1, .null, 0, 0, 0, 0), (1074, .iadd, 1, .null, 0, 0, 0, 0), (1075, .iaload, 1, .null, 0, 0, 0, 0),
  (1076, .invokevirtual 128, 3, .null, 0, 158, 11020, 0), (1079, .aload_n 2, 1, .null, 0, 0, 0, 0), (1080, .aload_n 0, 1, .null, 0, 0, 0, 0), (1081, .iload_n 3, 1, .null, 0, 0, 0, 0),
  (1082, .iconst 1, 1, .null, 0, 0, 0, 0), (1083, .iadd, 1, .null, 0, 0, 0, 0), (1084, .iaload, 1, .null, 0, 0, 0, 0), (1085, .aload_n 0, 1, .null, 0, 0, 0, 0),
  (1086, .iload_n 3, 1, .null, 0, 0, 0, 0), (1087, .iconst 2, 1, .null, 0, 0, 0, 0), (1088, .iadd, 1, .null, 0, 0, 0, 0), (1089, .iaload, 1, .null, 0, 0, 0, 0),
  (1090, .invokevirtual 131, 3, .null, 0, 262, 13201, 0), (1093, .if_icmp .eq 621, 3, .null, 1206, 0, 0, 0), (1096, .iconst 0, 1, .null, 0, 0, 0, 0), (1097, .ireturn, 1, .null, 0, 0, 0, 0),
  (1098, .aload_n 1, 1, .null, 0, 0, 0, 0), (1099, .invokevirtual 132, 3, .null, 0, 159, 11029, 0), (1102, .aload_n 2, 1, .null, 0, 0, 0, 0), (1103, .invokevirtual 135, 3, .null, 0, 263, 13209, 0),
  (1106, .if_icmp .eq 608, 3, .null, 1206, 0, 0, 0), (1109, .iconst 0, 1, .null, 0, 0, 0, 0), (1110, .ireturn, 1, .null, 0, 0, 0, 0), (1111, .aload_n 1, 1, .null, 0, 0, 0, 0),
  (1112, .aload_n 0, 1, .null, 0, 0, 0, 0), (1113, .iload_n 3, 1, .null, 0, 0, 0, 0), (1114, .iconst 1, 1, .null, 0, 0, 0, 0), (1115, .iadd, 1, .null, 0, 0, 0, 0),
  (1116, .iaload, 1, .null, 0, 0, 0, 0), (1117, .aload_n 0, 1, .null, 0, 0, 0, 0), (1118, .iload_n 3, 1, .null, 0, 0, 0, 0), (1119, .iconst 2, 1, .null, 0, 0, 0, 0),
  (1120, .iadd, 1, .null, 0, 0, 0, 0), (1121, .iaload, 1, .null, 0, 0, 0, 0), (1122, .invokevirtual 136, 3, .null, 0, 160, 11037, 0), (1125, .aload_n 2, 1, .null, 0, 0, 0, 0),
  (1126, .aload_n 0, 1, .null, 0, 0, 0, 0), (1127, .iload_n 3, 1, .null, 0, 0, 0, 0), (1128, .iconst 1, 1, .null, 0, 0, 0, 0), (1129, .iadd, 1, .null, 0, 0, 0, 0),
  (1130, .iaload, 1, .null, 0, 0, 0, 0), (1131, .aload_n 0, 1, .null, 0, 0, 0, 0), (1132, .iload_n 3, 1, .null, 0, 0, 0, 0), (1133, .iconst 2, 1, .null, 0, 0, 0, 0),
  (1134, .iadd, 1, .null, 0, 0, 0, 0), (1135, .iaload, 1, .null, 0, 0, 0, 0), (1136, .invokevirtual 139, 3, .null, 0, 264, 13213, 0), (1139, .if_icmp .eq 575, 3, .null, 1206, 0, 0, 0),
  (1142, .iconst 0, 1, .null, 0, 0, 0, 0), (1143, .ireturn, 1, .null, 0, 0, 0, 0), (1144, .aload_n 1, 1, .null, 0, 0, 0, 0), (1145, .aload_n 0, 1, .null, 0, 0, 0, 0),
  (1146, .iload_n 3, 1, .null, 0, 0, 0, 0), (1147, .iconst 1, 1, .null, 0, 0, 0, 0), (1148, .iadd, 1, .null, 0, 0, 0, 0), (1149, .iaload, 1, .null, 0, 0, 0, 0),
  (1150, .aload_n 0, 1, .null, 0, 0, 0, 0), (1151, .iload_n 3, 1, .null, 0, 0, 0, 0), (1152, .iconst 2, 1, .null, 0, 0, 0, 0), (1153, .iadd, 1, .null, 0, 0, 0, 0),
  (1154, .iaload, 1, .null, 0, 0, 0, 0), (1155, .invokevirtual 140, 3, .null, 0, 161, 11041, 0), (1158, .aload_n 2, 1, .null, 0, 0, 0, 0), (1159, .aload_n 0, 1, .null, 0, 0, 0, 0),
  (1160, .iload_n 3, 1, .null, 0, 0, 0, 0), (1161, .iconst 1, 1, .null, 0, 0, 0, 0), (1162, .iadd, 1, .null, 0, 0, 0, 0), (1163, .iaload, 1, .null, 0, 0, 0, 0),
  (1164, .aload_n 0, 1, .null, 0, 0, 0, 0), (1165, .iload_n 3, 1, .null, 0, 0, 0, 0), (1166, .iconst 2, 1, .null, 0, 0, 0, 0), (1167, .iadd, 1, .null, 0, 0, 0, 0),
  (1168, .iaload, 1, .null, 0, 0, 0, 0), (1169, .invokevirtual 143, 3, .null, 0, 268, 13217, 0), (1172, .if_icmp .eq 542, 3, .null, 1206, 0, 0, 0), (1175, .iconst 0, 1, .null, 0, 0, 0, 0),
  (1176, .ireturn, 1, .null, 0, 0, 0, 0), (1177, .aload_n 1, 1, .null, 0, 0, 0, 0), (1178, .aload_n 0, 1, .null, 0, 0, 0, 0), (1179, .iload_n 3, 1, .null, 0, 0, 0, 0),
  (1180, .iconst 1, 1, .null, 0, 0, 0, 0), (1181, .iadd, 1, .null, 0, 0, 0, 0), (1182, .iaload, 1, .null, 0, 0, 0, 0), (1183, .aload_n 0, 1, .null, 0, 0, 0, 0),
  (1184, .iload_n 3, 1, .null, 0, 0, 0, 0), (1185, .iconst 2, 1, .null, 0, 0, 0, 0), (1186, .iadd, 1, .null, 0, 0, 0, 0), (1187, .iaload, 1, .null, 0, 0, 0, 0),
  (1188, .aload_n 0, 1, .null, 0, 0, 0, 0), (1189, .iload_n 3, 1, .null, 0, 0, 0, 0), (1190, .iconst 3, 1, .null, 0, 0, 0, 0), (1191, .iadd, 1, .null, 0, 0, 0, 0),
  (1192, .iaload, 1, .null, 0, 0, 0, 0), (1193, .invokevirtual 144, 3, .null, 0, 162, 11074, 0), (1196, .aload_n 2, 1, .null, 0, 0, 0, 0), (1197, .aload_n 0, 1, .null, 0, 0, 0, 0),
  (1198, .iload_n 3, 1, .null, 0, 0, 0, 0), (1199, .iconst 1, 1, .null, 0, 0, 0, 0), (1200, .iadd, 1, .null, 0, 0, 0, 0), (1201, .iaload, 1, .null, 0, 0, 0, 0),
  (1202, .aload_n 0, 1, .null, 0, 0, 0, 0), (1203, .iload_n 3, 1, .null, 0, 0, 0, 0), (1204, .iconst 2, 1, .null, 0, 0, 0, 0), (1205, .iadd, 1, .null, 0, 0, 0, 0),
  (1206, .iaload, 1, .null, 0, 0, 0, 0), (1207, .aload_n 0, 1, .null, 0, 0, 0, 0), (1208, .iload_n 3, 1, .null, 0, 0, 0, 0), (1209, .iconst 3, 1, .null, 0, 0, 0, 0),
  (1210, .iadd, 1, .null, 0, 0, 0, 0), (1211, .iaload, 1, .null, 0, 0, 0, 0), (1212, .invokevirtual 147, 3, .null, 0, 269, 13233, 0), (1215, .if_icmp .eq 499, 3, .null, 1206, 0, 0, 0),
  (1218, .iconst 0, 1, .null, 0, 0, 0, 0), (1219, .ireturn, 1, .null, 0, 0, 0, 0), (1220, .aload_n 1, 1, .null, 0, 0, 0, 0), (1221, .aload_n 0, 1, .null, 0, 0, 0, 0),
  (1222, .iload_n 3, 1, .null, 0, 0, 0, 0), (1223, .iconst 1, 1, .null, 0, 0, 0, 0), (1224, .iadd, 1, .null, 0, 0, 0, 0), (1225, .iaload, 1, .null, 0, 0, 0, 0),
  (1226, .aload_n 0, 1, .null, 0, 0, 0, 0), (1227, .iload_n 3, 1, .null, 0, 0, 0, 0), (1228, .iconst 2, 1, .null, 0, 0, 0, 0), (1229, .iadd, 1, .null, 0, 0, 0, 0),
  (1230, .iaload, 1, .null, 0, 0, 0, 0), (1231, .aload_n 0, 1, .null, 0, 0, 0, 0), (1232, .iload_n 3, 1, .null, 0, 0, 0, 0), (1233, .iconst 3, 1, .null, 0, 0, 0, 0),
  (1234, .iadd, 1, .null, 0, 0, 0, 0), (1235, .iaload, 1, .null, 0, 0, 0, 0), (1236, .invokevirtual 148, 3, .null, 0, 163, 11086, 0), (1239, .aload_n 2, 1, .null, 0, 0, 0, 0),
  (1240, .aload_n 0, 1, .null, 0, 0, 0, 0), (1241, .iload_n 3, 1, .null, 0, 0, 0, 0), (1242, .iconst 1, 1, .null, 0, 0, 0, 0), (1243, .iadd, 1, .null, 0, 0, 0, 0),
  (1244, .iaload, 1, .null, 0, 0, 0, 0), (1245, .aload_n 0, 1, .null, 0, 0, 0, 0), (1246, .iload_n 3, 1, .null, 0, 0, 0, 0), (1247, .iconst 2, 1, .null, 0, 0, 0, 0),
  (1248, .iadd, 1, .null, 0, 0, 0, 0), (1249, .iaload, 1, .null, 0, 0, 0, 0), (1250, .aload_n 0, 1, .null, 0, 0, 0, 0), (1251, .iload_n 3, 1, .null, 0, 0, 0, 0),
  (1252, .iconst 3, 1, .null, 0, 0, 0, 0), (1253, .iadd, 1, .null, 0, 0, 0, 0), (1254, .iaload, 1, .null, 0, 0, 0, 0), (1255, .invokevirtual 151, 3, .null, 0, 271, 13237, 0),
  (1258, .if_icmp .eq 456, 3, .null, 1206, 0, 0, 0), (1261, .iconst 0, 1, .null, 0, 0, 0, 0), (1262, .ireturn, 1, .null, 0, 0, 0, 0), (1263, .aload_n 1, 1, .null, 0, 0, 0, 0),
  (1264, .aload_n 0, 1, .null, 0, 0, 0, 0), (1265, .iload_n 3, 1, .null, 0, 0, 0, 0), (1266, .iconst 1, 1, .null, 0, 0, 0, 0), (1267, .iadd, 1, .null, 0, 0, 0, 0),
  (1268, .iaload, 1, .null, 0, 0, 0, 0), (1269, .aload_n 0, 1, .null, 0, 0, 0, 0), (1270, .iload_n 3, 1, .null, 0, 0, 0, 0), (1271, .iconst 2, 1, .null, 0, 0, 0, 0),
  (1272, .iadd, 1, .null, 0, 0, 0, 0), (1273, .iaload, 1, .null, 0, 0, 0, 0), (1274, .aload_n 0, 1, .null, 0, 0, 0, 0), (1275, .iload_n 3, 1, .null, 0, 0, 0, 0),
  (1276, .iconst 3, 1, .null, 0, 0, 0, 0), (1277, .iadd, 1, .null, 0, 0, 0, 0), (1278, .iaload, 1, .null, 0, 0, 0, 0), (1279, .invokevirtual 152, 3, .null, 0, 164, 11100, 0),
  (1282, .aload_n 2, 1, .null, 0, 0, 0, 0), (1283, .aload_n 0, 1, .null, 0, 0, 0, 0), (1284, .iload_n 3, 1, .null, 0, 0, 0, 0), (1285, .iconst 1, 1, .null, 0, 0, 0, 0),
  (1286, .iadd, 1, .null, 0, 0, 0, 0), (1287, .iaload, 1, .null, 0, 0, 0, 0), (1288, .aload_n 0, 1, .null, 0, 0, 0, 0), (1289, .iload_n 3, 1, .null, 0, 0, 0, 0),
  (1290, .iconst 2, 1, .null, 0, 0, 0, 0), (1291, .iadd, 1, .null, 0, 0, 0, 0), (1292, .iaload, 1, .null, 0, 0, 0, 0), (1293, .aload_n 0, 1, .null, 0, 0, 0, 0),
  (1294, .iload_n 3, 1, .null, 0, 0, 0, 0), (1295, .iconst 3, 1, .null, 0, 0, 0, 0), (1296, .iadd, 1, .null, 0, 0, 0, 0), (1297, .iaload, 1, .null, 0, 0, 0, 0),
  (1298, .invokevirtual 155, 3, .null, 0, 272, 14006, 0), (1301, .if_icmp .eq 413, 3, .null, 1206, 0, 0, 0), (1304, .iconst 0, 1, .null, 0, 0, 0, 0), (1305, .ireturn, 1, .null, 0, 0, 0, 0),
  (1306, .aload_n 1, 1, .null, 0, 0, 0, 0), (1307, .aload_n 0, 1, .null, 0, 0, 0, 0), (1308, .iload_n 3, 1, .null, 0, 0, 0, 0), (1309, .iconst 1, 1, .null, 0, 0, 0, 0),
  (1310, .iadd, 1, .null, 0, 0, 0, 0), (1311, .iaload, 1, .null, 0, 0, 0, 0), (1312, .aload_n 0, 1, .null, 0, 0, 0, 0), (1313, .iload_n 3, 1, .null, 0, 0, 0, 0),
  (1314, .iconst 2, 1, .null, 0, 0, 0, 0), (1315, .iadd, 1, .null, 0, 0, 0, 0), (1316, .iaload, 1, .null, 0, 0, 0, 0), (1317, .aload_n 0, 1, .null, 0, 0, 0, 0),
  (1318, .iload_n 3, 1, .null, 0, 0, 0, 0), (1319, .iconst 3, 1, .null, 0, 0, 0, 0), (1320, .iadd, 1, .null, 0, 0, 0, 0), (1321, .iaload, 1, .null, 0, 0, 0, 0),
  (1322, .invokevirtual 156, 3, .null, 0, 166, 11120, 0), (1325, .aload_n 2, 1, .null, 0, 0, 0, 0), (1326, .aload_n 0, 1, .null, 0, 0, 0, 0), (1327, .iload_n 3, 1, .null, 0, 0, 0, 0),
  (1328, .iconst 1, 1, .null, 0, 0, 0, 0), (1329, .iadd, 1, .null, 0, 0, 0, 0), (1330, .iaload, 1, .null, 0, 0, 0, 0), (1331, .aload_n 0, 1, .null, 0, 0, 0, 0),
  (1332, .iload_n 3, 1, .null, 0, 0, 0, 0), (1333, .iconst 2, 1, .null, 0, 0, 0, 0), (1334, .iadd, 1, .null, 0, 0, 0, 0), (1335, .iaload, 1, .null, 0, 0, 0, 0),
  (1336, .aload_n 0, 1, .null, 0, 0, 0, 0), (1337, .iload_n 3, 1, .null, 0, 0, 0, 0), (1338, .iconst 3, 1, .null, 0, 0, 0, 0), (1339, .iadd, 1, .null, 0, 0, 0, 0),
  (1340, .iaload, 1, .null, 0, 0, 0, 0), (1341, .invokevirtual 159, 3, .null, 0, 273, 14010, 0), (1344, .if_icmp .eq 370, 3, .null, 1206, 0, 0, 0), (1347, .iconst 0, 1, .null, 0, 0, 0, 0),
  (1348, .ireturn, 1, .null, 0, 0, 0, 0), (1349, .aload_n 1, 1, .null, 0, 0, 0, 0), (1350, .aload_n 0, 1, .null, 0, 0, 0, 0), (1351, .iload_n 3, 1, .null, 0, 0, 0, 0),
  (1352, .iconst 1, 1, .null, 0, 0, 0, 0), (1353, .iadd, 1, .null, 0, 0, 0, 0), (1354, .iaload, 1, .null, 0, 0, 0, 0), (1355, .aload_n 0, 1, .null, 0, 0, 0, 0),
  (1356, .iload_n 3, 1, .null, 0, 0, 0, 0), (1357, .iconst 2, 1, .null, 0, 0, 0, 0), (1358, .iadd, 1, .null, 0, 0, 0, 0), (1359, .iaload, 1, .null, 0, 0, 0, 0),
  (1360, .aload_n 0, 1, .null, 0, 0, 0, 0), (1361, .iload_n 3, 1, .null, 0, 0, 0, 0), (1362, .iconst 3, 1, .null, 0, 0, 0, 0), (1363, .iadd, 1, .null, 0, 0, 0, 0),
  (1364, .iaload, 1, .null, 0, 0, 0, 0), (1365, .invokevirtual 160, 3, .null, 0, 168, 11128, 0), (1368, .aload_n 2, 1, .null, 0, 0, 0, 0), (1369, .aload_n 0, 1, .null, 0, 0, 0, 0),
  (1370, .iload_n 3, 1, .null, 0, 0, 0, 0), (1371, .iconst 1, 1, .null, 0, 0, 0, 0), (1372, .iadd, 1, .null, 0, 0, 0, 0), (1373, .iaload, 1, .null, 0, 0, 0, 0),
  (1374, .aload_n 0, 1, .null, 0, 0, 0, 0), (1375, .iload_n 3, 1, .null, 0, 0, 0, 0), (1376, .iconst 2, 1, .null, 0, 0, 0, 0), (1377, .iadd, 1, .null, 0, 0, 0, 0),
  (1378, .iaload, 1, .null, 0, 0, 0, 0), (1379, .aload_n 0, 1, .null, 0, 0, 0, 0), (1380, .iload_n 3, 1, .null, 0, 0, 0, 0), (1381, .iconst 3, 1, .null, 0, 0, 0, 0),
  (1382, .iadd, 1, .null, 0, 0, 0, 0), (1383, .iaload, 1, .null, 0, 0, 0, 0), (1384, .invokevirtual 164, 3, .null, 0, 276, 14014, 0), (1387, .lcmp, 1, .null, 0, 0, 0, 0),
  (1388, .ifCond .eq 326, 3, .null, 1206, 0, 0, 0), (1391, .iconst 0, 1, .null, 0, 0, 0, 0), (1392, .ireturn, 1, .null, 0, 0, 0, 0), (1393, .aload_n 1, 1, .null, 0, 0, 0, 0),
  (1394, .aload_n 0, 1, .null, 0, 0, 0, 0), (1395, .iload_n 3, 1, .null, 0, 0, 0, 0), (1396, .iconst 1, 1, .null, 0, 0, 0, 0), (1397, .iadd, 1, .null, 0, 0, 0, 0),
  (1398, .iaload, 1, .null, 0, 0, 0, 0), (1399, .invokevirtual 165, 3, .null, 0, 169, 11148, 0), (1402, .aload_n 2, 1, .null, 0, 0, 0, 0), (1403, .aload_n 0, 1, .null, 0, 0, 0, 0),
  (1404, .iload_n 3, 1, .null, 0, 0, 0, 0), (1405, .iconst 1, 1, .null, 0, 0, 0, 0), (1406, .iadd, 1, .null, 0, 0, 0, 0), (1407, .iaload, 1, .null, 0, 0, 0, 0),
  (1408, .invokevirtual 168, 3, .null, 0, 278, 14028, 0), (1411, .if_icmp .eq 303, 3, .null, 1206, 0, 0, 0), (1414, .iconst 0, 1, .null, 0, 0, 0, 0), (1415, .ireturn, 1, .null, 0, 0, 0, 0),
  (1416, .aload_n 1, 1, .null, 0, 0, 0, 0), (1417, .aload_n 0, 1, .null, 0, 0, 0, 0), (1418, .iload_n 3, 1, .null, 0, 0, 0, 0), (1419, .iconst 1, 1, .null, 0, 0, 0, 0),
  (1420, .iadd, 1, .null, 0, 0, 0, 0), (1421, .iaload, 1, .null, 0, 0, 0, 0), (1422, .invokevirtual 169, 3, .null, 0, 170, 11159, 0), (1425, .aload_n 2, 1, .null, 0, 0, 0, 0),
  (1426, .aload_n 0, 1, .null, 0, 0, 0, 0), (1427, .iload_n 3, 1, .null, 0, 0, 0, 0), (1428, .iconst 1, 1, .null, 0, 0, 0, 0), (1429, .iadd, 1, .null, 0, 0, 0, 0),
  (1430, .iaload, 1, .null, 0, 0, 0, 0), (1431, .invokevirtual 172, 3, .null, 0, 279, 14038, 0), (1434, .if_icmp .eq 280, 3, .null, 1206, 0, 0, 0), (1437, .iconst 0, 1, .null, 0, 0, 0, 0),
  (1438, .ireturn, 1, .null, 0, 0, 0, 0), (1439, .aload_n 1, 1, .null, 0, 0, 0, 0), (1440, .aload_n 0, 1, .null, 0, 0, 0, 0), (1441, .iload_n 3, 1, .null, 0, 0, 0, 0),
  (1442, .iconst 1, 1, .null, 0, 0, 0, 0), (1443, .iadd, 1, .null, 0, 0, 0, 0), (1444, .iaload, 1, .null, 0, 0, 0, 0), (1445, .aload_n 0, 1, .null, 0, 0, 0, 0),
  (1446, .iload_n 3, 1, .null, 0, 0, 0, 0), (1447, .iconst 2, 1, .null, 0, 0, 0, 0), (1448, .iadd, 1, .null, 0, 0, 0, 0), (1449, .iaload, 1, .null, 0, 0, 0, 0),
  (1450, .aload_n 0, 1, .null, 0, 0, 0, 0), (1451, .iload_n 3, 1, .null, 0, 0, 0, 0), (1452, .iconst 3, 1, .null, 0, 0, 0, 0), (1453, .iadd, 1, .null, 0, 0, 0, 0),
  (1454, .iaload, 1, .null, 0, 0, 0, 0), (1455, .invokevirtual 173, 3, .null, 0, 171, 11171, 0), (1458, .aload_n 2, 1, .null, 0, 0, 0, 0), (1459, .aload_n 0, 1, .null, 0, 0, 0, 0),
  (1460, .iload_n 3, 1, .null, 0, 0, 0, 0), (1461, .iconst 1, 1, .null, 0, 0, 0, 0), (1462, .iadd, 1, .null, 0, 0, 0, 0), (1463, .iaload, 1, .null, 0, 0, 0, 0),
  (1464, .aload_n 0, 1, .null, 0, 0, 0, 0), (1465, .iload_n 3, 1, .null, 0, 0, 0, 0), (1466, .iconst 2, 1, .null, 0, 0, 0, 0), (1467, .iadd, 1, .null, 0, 0, 0, 0),
  (1468, .iaload, 1, .null, 0, 0, 0, 0), (1469, .aload_n 0, 1, .null, 0, 0, 0, 0), (1470, .iload_n 3, 1, .null, 0, 0, 0, 0), (1471, .iconst 3, 1, .null, 0, 0, 0, 0),
  (1472, .iadd, 1, .null, 0, 0, 0, 0), (1473, .iaload, 1, .null, 0, 0, 0, 0), (1474, .invokevirtual 176, 3, .null, 0, 280, 14043, 0), (1477, .if_icmp .eq 237, 3, .null, 1206, 0, 0, 0),
  (1480, .iconst 0, 1, .null, 0, 0, 0, 0), (1481, .ireturn, 1, .null, 0, 0, 0, 0), (1482, .aload_n 1, 1, .null, 0, 0, 0, 0), (1483, .aload_n 0, 1, .null, 0, 0, 0, 0),
  (1484, .iload_n 3, 1, .null, 0, 0, 0, 0), (1485, .iconst 1, 1, .null, 0, 0, 0, 0), (1486, .iadd, 1, .null, 0, 0, 0, 0), (1487, .iaload, 1, .null, 0, 0, 0, 0),
  (1488, .invokevirtual 177, 3, .null, 0, 172, 11186, 0), (1491, .aload_n 2, 1, .null, 0, 0, 0, 0), (1492, .aload_n 0, 1, .null, 0, 0, 0, 0), (1493, .iload_n 3, 1, .null, 0, 0, 0, 0),
  (1494, .iconst 1, 1, .null, 0, 0, 0, 0), (1495, .iadd, 1, .null, 0, 0, 0, 0), (1496, .iaload, 1, .null, 0, 0, 0, 0), (1497, .invokevirtual 180, 3, .null, 0, 281, 14048, 0),
  (1500, .if_icmp .eq 214, 3, .null, 1206, 0, 0, 0), (1503, .iconst 0, 1, .null, 0, 0, 0, 0), (1504, .ireturn, 1, .null, 0, 0, 0, 0), (1505, .aload_n 1, 1, .null, 0, 0, 0, 0),
  (1506, .aload_n 0, 1, .null, 0, 0, 0, 0), (1507, .iload_n 3, 1, .null, 0, 0, 0, 0), (1508, .iconst 1, 1, .null, 0, 0, 0, 0), (1509, .iadd, 1, .null, 0, 0, 0, 0),
  (1510, .iaload, 1, .null, 0, 0, 0, 0), (1511, .aload_n 0, 1, .null, 0, 0, 0, 0), (1512, .iload_n 3, 1, .null, 0, 0, 0, 0), (1513, .iconst 2, 1, .null, 0, 0, 0, 0),
  (1514, .iadd, 1, .null, 0, 0, 0, 0), (1515, .iaload, 1, .null, 0, 0, 0, 0), (1516, .aload_n 0, 1, .null, 0, 0, 0, 0), (1517, .iload_n 3, 1, .null, 0, 0, 0, 0),
  (1518, .iconst 3, 1, .null, 0, 0, 0, 0), (1519, .iadd, 1, .null, 0, 0, 0, 0), (1520, .iaload, 1, .null, 0, 0, 0, 0), (1521, .invokevirtual 181, 3, .null, 0, 173, 11190, 0),
  (1524, .aload_n 2, 1, .null, 0, 0, 0, 0), (1525, .aload_n 0, 1, .null, 0, 0, 0, 0), (1526, .iload_n 3, 1, .null, 0, 0, 0, 0), (1527, .iconst 1, 1, .null, 0, 0, 0, 0),
  (1528, .iadd, 1, .null, 0, 0, 0, 0), (1529, .iaload, 1, .null, 0, 0, 0, 0), (1530, .aload_n 0, 1, .null, 0, 0, 0, 0), (1531, .iload_n 3, 1, .null, 0, 0, 0, 0),
  (1532, .iconst 2, 1, .null, 0, 0, 0, 0), (1533, .iadd, 1, .null, 0, 0, 0, 0), (1534, .iaload, 1, .null, 0, 0, 0, 0), (1535, .aload_n 0, 1, .null, 0, 0, 0, 0),
  (1536, .iload_n 3, 1, .null, 0, 0, 0, 0), (1537, .iconst 3, 1, .null, 0, 0, 0, 0), (1538, .iadd, 1, .null, 0, 0, 0, 0), (1539, .iaload, 1, .null, 0, 0, 0, 0),
  (1540, .invokevirtual 184, 3, .null, 0, 283, 14052, 0), (1543, .if_icmp .eq 171, 3, .null, 1206, 0, 0, 0), (1546, .iconst 0, 1, .null, 0, 0, 0, 0), (1547, .ireturn, 1, .null, 0, 0, 0, 0),
  (1548, .aload_n 1, 1, .null, 0, 0, 0, 0), (1549, .aload_n 0, 1, .null, 0, 0, 0, 0), (1550, .iload_n 3, 1, .null, 0, 0, 0, 0), (1551, .iconst 1, 1, .null, 0, 0, 0, 0),
  (1552, .iadd, 1, .null, 0, 0, 0, 0), (1553, .iaload, 1, .null, 0, 0, 0, 0), (1554, .aload_n 0, 1, .null, 0, 0, 0, 0), (1555, .iload_n 3, 1, .null, 0, 0, 0, 0),
  (1556, .iconst 2, 1, .null, 0, 0, 0, 0), (1557, .iadd, 1, .null, 0, 0, 0, 0), (1558, .iaload, 1, .null, 0, 0, 0, 0), (1559, .aload_n 0, 1, .null, 0, 0, 0, 0),
  (1560, .iload_n 3, 1, .null, 0, 0, 0, 0), (1561, .iconst 3, 1, .null, 0, 0, 0, 0), (1562, .iadd, 1, .null, 0, 0, 0, 0), (1563, .iaload, 1, .null, 0, 0, 0, 0),
  (1564, .i2l, 1, .null, 0, 0, 0, 0), (1565, .bipush 32, 2, .null, 0, 0, 0, 0), (1567, .lshl, 1, .null, 0, 0, 0, 0), (1568, .aload_n 0, 1, .null, 0, 0, 0, 0),
  (1569, .iload_n 3, 1, .null, 0, 0, 0, 0), (1570, .iconst 4, 1, .null, 0, 0, 0, 0), (1571, .iadd, 1, .null, 0, 0, 0, 0), (1572, .iaload, 1, .null, 0, 0, 0, 0),
  (1573, .i2l, 1, .null, 0, 0, 0, 0), (1574, .ldc2_w 185, 3, .long (4294967295), 0, 0, 14085, 0), (1577, .land, 1, .null, 0, 0, 0, 0), (1578, .lor, 1, .null, 0, 0, 0, 0),
  (1579, .invokevirtual 187, 3, .null, 0, 174, 11199, 0), (1582, .aload_n 2, 1, .null, 0, 0, 0, 0), (1583, .aload_n 0, 1, .null, 0, 0, 0, 0), (1584, .iload_n 3, 1, .null, 0, 0, 0, 0),
  (1585, .iconst 1, 1, .null, 0, 0, 0, 0), (1586, .iadd, 1, .null, 0, 0, 0, 0), (1587, .iaload, 1, .null, 0, 0, 0, 0), (1588, .aload_n 0, 1, .null, 0, 0, 0, 0),
  (1589, .iload_n 3, 1, .null, 0, 0, 0, 0), (1590, .iconst 2, 1, .null, 0, 0, 0, 0), (1591, .iadd, 1, .null, 0, 0, 0, 0), (1592, .iaload, 1, .null, 0, 0, 0, 0),
  (1593, .aload_n 0, 1, .null, 0, 0, 0, 0), (1594, .iload_n 3, 1, .null, 0, 0, 0, 0), (1595, .iconst 3, 1, .null, 0, 0, 0, 0), (1596, .iadd, 1, .null, 0, 0, 0, 0),
  (1597, .iaload, 1, .null, 0, 0, 0, 0), (1598, .i2l, 1, .null, 0, 0, 0, 0), (1599, .bipush 32, 2, .null, 0, 0, 0, 0), (1601, .lshl, 1, .null, 0, 0, 0, 0),
  (1602, .aload_n 0, 1, .null, 0, 0, 0, 0), (1603, .iload_n 3, 1, .null, 0, 0, 0, 0), (1604, .iconst 4, 1, .null, 0, 0, 0, 0), (1605, .iadd, 1, .null, 0, 0, 0, 0),
  (1606, .iaload, 1, .null, 0, 0, 0, 0), (1607, .i2l, 1, .null, 0, 0, 0, 0), (1608, .ldc2_w 185, 3, .long (4294967295), 0, 0, 14085, 0), (1611, .land, 1, .null, 0, 0, 0, 0),
  (1612, .lor, 1, .null, 0, 0, 0, 0), (1613, .invokevirtual 191, 3, .null, 0, 284, 14056, 0), (1616, .lcmp, 1, .null, 0, 0, 0, 0), (1617, .ifCond .eq 97, 3, .null, 1206, 0, 0, 0),
  (1620, .iconst 0, 1, .null, 0, 0, 0, 0), (1621, .ireturn, 1, .null, 0, 0, 0, 0), (1622, .aload_n 1, 1, .null, 0, 0, 0, 0), (1623, .aload_n 0, 1, .null, 0, 0, 0, 0),
  (1624, .iload_n 3, 1, .null, 0, 0, 0, 0), (1625, .iconst 1, 1, .null, 0, 0, 0, 0), (1626, .iadd, 1, .null, 0, 0, 0, 0), (1627, .iaload, 1, .null, 0, 0, 0, 0),
  (1628, .invokevirtual 192, 3, .null, 0, 175, 11213, 0), (1631, .aload_n 2, 1, .null, 0, 0, 0, 0), (1632, .aload_n 0, 1, .null, 0, 0, 0, 0), (1633, .iload_n 3, 1, .null, 0, 0, 0, 0),
  (1634, .iconst 1, 1, .null, 0, 0, 0, 0), (1635, .iadd, 1, .null, 0, 0, 0, 0), (1636, .iaload, 1, .null, 0, 0, 0, 0), (1637, .invokevirtual 195, 3, .null, 0, 285, 14065, 0),
  (1640, .if_icmp .eq 74, 3, .null, 1206, 0, 0, 0), (1643, .iconst 0, 1, .null, 0, 0, 0, 0), (1644, .ireturn, 1, .null, 0, 0, 0, 0), (1645, .aload_n 1, 1, .null, 0, 0, 0, 0),
  (1646, .aload_n 0, 1, .null, 0, 0, 0, 0), (1647, .iload_n 3, 1, .null, 0, 0, 0, 0), (1648, .iconst 1, 1, .null, 0, 0, 0, 0), (1649, .iadd, 1, .null, 0, 0, 0, 0),
  (1650, .iaload, 1, .null, 0, 0, 0, 0), (1651, .invokevirtual 196, 3, .null, 0, 176, 11217, 0), (1654, .aload_n 2, 1, .null, 0, 0, 0, 0), (1655, .aload_n 0, 1, .null, 0, 0, 0, 0),
  (1656, .iload_n 3, 1, .null, 0, 0, 0, 0), (1657, .iconst 1, 1, .null, 0, 0, 0, 0), (1658, .iadd, 1, .null, 0, 0, 0, 0), (1659, .iaload, 1, .null, 0, 0, 0, 0),
  (1660, .invokevirtual 199, 3, .null, 0, 286, 14069, 0), (1663, .if_icmp .eq 51, 3, .null, 1206, 0, 0, 0), (1666, .iconst 0, 1, .null, 0, 0, 0, 0), (1667, .ireturn, 1, .null, 0, 0, 0, 0),
  (1668, .aload_n 1, 1, .null, 0, 0, 0, 0), (1669, .aload_n 0, 1, .null, 0, 0, 0, 0), (1670, .iload_n 3, 1, .null, 0, 0, 0, 0), (1671, .iconst 1, 1, .null, 0, 0, 0, 0),
  (1672, .iadd, 1, .null, 0, 0, 0, 0), (1673, .iaload, 1, .null, 0, 0, 0, 0), (1674, .invokevirtual 200, 3, .null, 0, 177, 11221, 0), (1677, .aload_n 2, 1, .null, 0, 0, 0, 0),
  (1678, .aload_n 0, 1, .null, 0, 0, 0, 0), (1679, .iload_n 3, 1, .null, 0, 0, 0, 0), (1680, .iconst 1, 1, .null, 0, 0, 0, 0), (1681, .iadd, 1, .null, 0, 0, 0, 0),
  (1682, .iaload, 1, .null, 0, 0, 0, 0), (1683, .invokevirtual 203, 3, .null, 0, 287, 14073, 0), (1686, .if_icmp .eq 28, 3, .null, 1206, 0, 0, 0), (1689, .iconst 0, 1, .null, 0, 0, 0, 0),
  (1690, .ireturn, 1, .null, 0, 0, 0, 0), (1691, .aload_n 1, 1, .null, 0, 0, 0, 0), (1692, .aload_n 0, 1, .null, 0, 0, 0, 0), (1693, .iload_n 3, 1, .null, 0, 0, 0, 0),
  (1694, .iconst 1, 1, .null, 0, 0, 0, 0), (1695, .iadd, 1, .null, 0, 0, 0, 0), (1696, .iaload, 1, .null, 0, 0, 0, 0), (1697, .invokevirtual 204, 3, .null, 0, 178, 11225, 0),
  (1700, .aload_n 2, 1, .null, 0, 0, 0, 0), (1701, .aload_n 0, 1, .null, 0, 0, 0, 0), (1702, .iload_n 3, 1, .null, 0, 0, 0, 0), (1703, .iconst 1, 1, .null, 0, 0, 0, 0),
  (1704, .iadd, 1, .null, 0, 0, 0, 0), (1705, .iaload, 1, .null, 0, 0, 0, 0), (1706, .invokevirtual 207, 3, .null, 0, 289, 14077, 0), (1709, .if_icmp .eq 5, 3, .null, 1206, 0, 0, 0),
  (1712, .iconst 0, 1, .null, 0, 0, 0, 0), (1713, .ireturn, 1, .null, 0, 0, 0, 0), (1714, .iinc 3 6, 3, .null, 0, 0, 0, 0), (1717, .goto (-1699), 3, .null, 10, 0, 0, 0),
  (1720, .iconst 1, 1, .null, 0, 0, 0, 0), (1721, .ireturn, 1, .null, 0, 0, 0, 0)]
/-- OneBell$Chances.<init>(LOneBell$House;)V -/
def am_0 : ai_M := (0, ⟨an_0, "<init>", "(LOneBell$House;)V"⟩, prog_2_method_1_code, 2, none, 1, 1, 20, 8046, 8045, 0, 2, ar_0)
/-- OneBell$Chances.partsInto(LOneBell$Route;II)J -/
def am_1 : ai_M := (0, ⟨an_0, "partsInto", "(LOneBell$Route;II)J"⟩, prog_2_method_2_code, 4, (some .long), 3, 2, 52, 11137, 11135, 11136, 0, ar_1)
/-- OneBell$Chances.goBack(LOneBell$Route;I)V -/
def am_2 : ai_M := (0, ⟨an_0, "goBack", "(LOneBell$Route;I)V"⟩, prog_2_method_3_code, 7, none, 2, 1, 26, 11141, 11140, 3005, 0, ar_2)
/-- OneBell$Chances.allThere(LOneBell$Route;)I -/
def am_3 : ai_M := (0, ⟨an_0, "allThere", "(LOneBell$Route;)I"⟩, prog_2_method_4_code, 7, (some .int), 1, 2, 52, 11155, 11153, 11154, 0, ar_3)
/-- OneBell$Chances.bringBest(ILOneBell$Route;LOneBell$Route;)I -/
def am_4 : ai_M := (0, ⟨an_0, "bringBest", "(ILOneBell$Route;LOneBell$Route;)I"⟩, prog_2_method_5_code, 9, (some .int), 3, 3, 78, 11166, 11164, 11165, 0, ar_4)
/-- OneBell$Company.<init>(LOneBell$House;LOneBell$Search;)V -/
def am_5 : ai_M := (1, ⟨an_1, "<init>", "(LOneBell$House;LOneBell$Search;)V"⟩, prog_3_method_1_code, 3, none, 2, 1, 20, 8002, 8001, 0, 2, ar_5)
/-- OneBell$Company.stand()V -/
def am_6 : ai_M := (1, ⟨an_1, "stand", "()V"⟩, prog_3_method_2_code, 2, none, 0, 1, 21, 9185, 9183, 9184, 0, ar_6)
/-- OneBell$Company.spot(I)I -/
def am_7 : ai_M := (1, ⟨an_1, "spot", "(I)I"⟩, prog_3_method_3_code, 2, (some .int), 1, 0, 0, 11185, 11183, 11184, 0, ar_7)
/-- OneBell$Company.ring(I)V -/
def am_8 : ai_M := (1, ⟨an_1, "ring", "(I)V"⟩, prog_3_method_4_code, 3, none, 1, 1, 22, 9191, 9189, 9190, 0, ar_8)
/-- OneBell$Company.ringByDraws(II)I -/
def am_9 : ai_M := (1, ⟨an_1, "ringByDraws", "(II)I"⟩, prog_3_method_5_code, 7, (some .int), 2, 1, 22, 11178, 11176, 11177, 0, ar_9)
/-- OneBell$Company.together()I -/
def am_10 : ai_M := (1, ⟨an_1, "together", "()I"⟩, prog_3_method_6_code, 3, (some .int), 0, 0, 0, 9196, 9194, 9195, 0, ar_10)
/-- OneBell$Company.amissBits([II)I -/
def am_11 : ai_M := (1, ⟨an_1, "amissBits", "([II)I"⟩, prog_3_method_7_code, 6, (some .int), 2, 0, 0, 9208, 9207, 1003, 0, ar_11)
/-- OneBell$Company.leastAmiss()I -/
def am_12 : ai_M := (1, ⟨an_1, "leastAmiss", "()I"⟩, prog_3_method_8_code, 3, (some .int), 0, 1, 25, 9204, 9202, 9203, 0, ar_12)
/-- OneBell$Company.lead(IILOneBell$Route;)I -/
def am_13 : ai_M := (1, ⟨an_1, "lead", "(IILOneBell$Route;)I"⟩, prog_3_method_9_code, 6, (some .int), 3, 3, 67, 11048, 11046, 11047, 0, ar_13)
/-- OneBell$Company.gather(I)V -/
def am_14 : ai_M := (1, ⟨an_1, "gather", "(I)V"⟩, prog_3_method_10_code, 3, none, 1, 1, 21, 11052, 11051, 2011, 0, ar_14)
/-- OneBell$Company.packLed()I -/
def am_15 : ai_M := (1, ⟨an_1, "packLed", "()I"⟩, prog_3_method_11_code, 3, (some .int), 0, 0, 0, 11061, 11060, 2013, 0, ar_15)
/-- OneBell$Company.ringForLed(II)V -/
def am_16 : ai_M := (1, ⟨an_1, "ringForLed", "(II)V"⟩, prog_3_method_12_code, 5, none, 2, 1, 22, 11073, 11072, 2015, 0, ar_16)
/-- OneBell$Company.isLedAmiss()Z -/
def am_17 : ai_M := (1, ⟨an_1, "isLedAmiss", "()Z"⟩, prog_3_method_13_code, 1, (some .boolean), 0, 1, 25, 11056, 11055, 2012, 0, ar_17)
/-- OneBell$Company.areLedAt(I)Z -/
def am_18 : ai_M := (1, ⟨an_1, "areLedAt", "(I)Z"⟩, prog_3_method_14_code, 3, (some .boolean), 1, 0, 0, 11066, 11065, 2014, 0, ar_18)
/-- OneBell$Company.leadDeaf(IIILOneBell$Route;)I -/
def am_19 : ai_M := (1, ⟨an_1, "leadDeaf", "(IIILOneBell$Route;)I"⟩, prog_3_method_15_code, 12, (some .int), 4, 3, 67, 11085, 11083, 11084, 0, ar_19)
/-- OneBell$House.<init>()V -/
def am_20 : ai_M := (2, ⟨an_2, "<init>", "()V"⟩, prog_4_method_1_code, 1, none, 0, 1, 20, 7064, 7063, 0, 2, ar_20)
/-- OneBell$House.clear()V -/
def am_21 : ai_M := (2, ⟨an_2, "clear", "()V"⟩, prog_4_method_2_code, 3, none, 0, 1, 23, 8151, 8149, 8150, 0, ar_21)
/-- OneBell$House.take(LOneBell$House;)V -/
def am_22 : ai_M := (2, ⟨an_2, "take", "(LOneBell$House;)V"⟩, prog_4_method_3_code, 2, none, 1, 1, 26, 9061, 9059, 9060, 0, ar_22)
/-- OneBell$House.isRoom(I)Z -/
def am_23 : ai_M := (2, ⟨an_2, "isRoom", "(I)Z"⟩, prog_4_method_4_code, 2, (some .boolean), 1, 0, 0, 9081, 9079, 9080, 0, ar_23)
/-- OneBell$House.isTone(I)Z -/
def am_24 : ai_M := (2, ⟨an_2, "isTone", "(I)Z"⟩, prog_4_method_5_code, 2, (some .boolean), 1, 0, 0, 9085, 9083, 9084, 0, ar_24)
/-- OneBell$House.isWaiter(I)Z -/
def am_25 : ai_M := (2, ⟨an_2, "isWaiter", "(I)Z"⟩, prog_4_method_6_code, 2, (some .boolean), 1, 0, 0, 9110, 9108, 9109, 0, ar_25)
/-- OneBell$House.isSet(I)Z -/
def am_26 : ai_M := (2, ⟨an_2, "isSet", "(I)Z"⟩, prog_4_method_7_code, 2, (some .boolean), 1, 0, 0, 9221, 9219, 9220, 0, ar_26)
/-- OneBell$House.plainTo(II)I -/
def am_27 : ai_M := (2, ⟨an_2, "plainTo", "(II)I"⟩, prog_4_method_8_code, 3, (some .int), 2, 0, 0, 9033, 9031, 9032, 0, ar_27)
/-- OneBell$House.chanceTo(II)I -/
def am_28 : ai_M := (2, ⟨an_2, "chanceTo", "(II)I"⟩, prog_4_method_9_code, 3, (some .int), 2, 0, 0, 9090, 9088, 9089, 0, ar_28)
/-- OneBell$House.percent(II)I -/
def am_29 : ai_M := (2, ⟨an_2, "percent", "(II)I"⟩, prog_4_method_10_code, 3, (some .int), 2, 0, 0, 9094, 9092, 9093, 0, ar_29)
/-- OneBell$House.sign(I)I -/
def am_30 : ai_M := (2, ⟨an_2, "sign", "(I)I"⟩, prog_4_method_11_code, 2, (some .int), 1, 0, 0, 9102, 9100, 9101, 0, ar_30)
/-- OneBell$House.standsAt(I)I -/
def am_31 : ai_M := (2, ⟨an_2, "standsAt", "(I)I"⟩, prog_4_method_12_code, 2, (some .int), 1, 0, 0, 9114, 9112, 9113, 0, ar_31)
/-- OneBell$House.leadTo(III)V -/
def am_32 : ai_M := (2, ⟨an_2, "leadTo", "(III)V"⟩, prog_4_method_13_code, 4, none, 3, 0, 0, 8158, 8156, 8157, 0, ar_32)
/-- OneBell$House.leadByChance(IIII)V -/
def am_33 : ai_M := (2, ⟨an_2, "leadByChance", "(IIII)V"⟩, prog_4_method_14_code, 5, none, 4, 0, 0, 9037, 9035, 9036, 0, ar_33)
/-- OneBell$House.showSign(II)V -/
def am_34 : ai_M := (2, ⟨an_2, "showSign", "(II)V"⟩, prog_4_method_15_code, 3, none, 2, 0, 0, 9049, 9047, 9048, 0, ar_34)
/-- OneBell$House.addWaiter(I)V -/
def am_35 : ai_M := (2, ⟨an_2, "addWaiter", "(I)V"⟩, prog_4_method_16_code, 2, none, 1, 0, 0, 9057, 9055, 9056, 0, ar_35)
/-- OneBell$House.chanceCount()I -/
def am_36 : ai_M := (2, ⟨an_2, "chanceCount", "()I"⟩, prog_4_method_17_code, 4, (some .int), 0, 1, 22, 11232, 11230, 11231, 0, ar_36)
/-- OneBell$House.mayBits(II)I -/
def am_37 : ai_M := (2, ⟨an_2, "mayBits", "(II)I"⟩, prog_4_method_18_code, 4, (some .int), 2, 1, 22, 9130, 9128, 9129, 0, ar_37)
/-- OneBell$House.mayImage(II)I -/
def am_38 : ai_M := (2, ⟨an_2, "mayImage", "(II)I"⟩, prog_4_method_19_code, 5, (some .int), 2, 2, 45, 9126, 9124, 9125, 0, ar_38)
/-- OneBell$House.plainImage(II)I -/
def am_39 : ai_M := (2, ⟨an_2, "plainImage", "(II)I"⟩, prog_4_method_20_code, 5, (some .int), 2, 1, 22, 10121, 10119, 10120, 0, ar_39)
/-- OneBell$House.reachable(I)I -/
def am_40 : ai_M := (2, ⟨an_2, "reachable", "(I)I"⟩, prog_4_method_21_code, 5, (some .int), 1, 3, 69, 9122, 9120, 9121, 0, ar_40)
/-- OneBell$House.behind(LOneBell$Route;II)I -/
def am_41 : ai_M := (2, ⟨an_2, "behind", "(LOneBell$Route;II)I"⟩, prog_4_method_22_code, 6, (some .int), 3, 1, 22, 9173, 9171, 9172, 0, ar_41)
/-- OneBell$NumberRow.<init>()V -/
def am_42 : ai_M := (3, ⟨an_3, "<init>", "()V"⟩, prog_5_method_1_code, 1, none, 0, 1, 20, 8061, 8060, 0, 2, ar_42)
/-- OneBell$NumberRow.isMissing()Z -/
def am_43 : ai_M := (3, ⟨an_3, "isMissing", "()Z"⟩, prog_5_method_2_code, 1, (some .boolean), 0, 0, 0, 9145, 9143, 9144, 0, ar_43)
/-- OneBell$NumberRow.make(II)V -/
def am_44 : ai_M := (3, ⟨an_3, "make", "(II)V"⟩, prog_5_method_3_code, 3, none, 2, 1, 24, 11197, 11195, 11196, 0, ar_44)
/-- OneBell$NumberRow.put(IJ)J -/
def am_45 : ai_M := (3, ⟨an_3, "put", "(IJ)J"⟩, prog_5_method_4_code, 4, (some .long), 2, 1, 22, 11208, 11206, 11207, 0, ar_45)
/-- OneBell$NumberRow.cut(J)J -/
def am_46 : ai_M := (3, ⟨an_3, "cut", "(J)J"⟩, prog_5_method_5_code, 3, (some .long), 1, 0, 0, 11212, 11211, 3006, 0, ar_46)
/-- OneBell$NumberRow.tone(I)I -/
def am_47 : ai_M := (3, ⟨an_3, "tone", "(I)I"⟩, prog_5_method_6_code, 2, (some .int), 1, 0, 0, 9165, 9163, 9164, 0, ar_47)
/-- OneBell$NumberRow.firstBeyond(I)I -/
def am_48 : ai_M := (3, ⟨an_3, "firstBeyond", "(I)I"⟩, prog_5_method_7_code, 3, (some .int), 1, 0, 0, 9149, 9147, 9148, 0, ar_48)
/-- OneBell$Pairs.<init>()V -/
def am_49 : ai_M := (4, ⟨an_4, "<init>", "()V"⟩, prog_6_method_1_code, 1, none, 0, 1, 20, 7219, 7218, 0, 2, ar_49)
/-- OneBell$Pairs.at(II)I -/
def am_50 : ai_M := (4, ⟨an_4, "at", "(II)I"⟩, prog_6_method_2_code, 3, (some .int), 2, 0, 0, 10081, 10080, 1010, 0, ar_50)
/-- OneBell$Pairs.steps(II)I -/
def am_51 : ai_M := (4, ⟨an_4, "steps", "(II)I"⟩, prog_6_method_3_code, 3, (some .int), 2, 1, 22, 10098, 10096, 10097, 0, ar_51)
/-- OneBell$Pairs.measureMeetings(LOneBell$House;)V -/
def am_52 : ai_M := (4, ⟨an_4, "measureMeetings", "(LOneBell$House;)V"⟩, prog_6_method_4_code, 3, none, 1, 4, 95, 10076, 10074, 10075, 0, ar_52)
/-- OneBell$Pairs.measureSigns(LOneBell$House;)V -/
def am_53 : ai_M := (4, ⟨an_4, "measureSigns", "(LOneBell$House;)V"⟩, prog_6_method_5_code, 4, none, 1, 4, 95, 11027, 11025, 11026, 0, ar_53)
/-- OneBell$Pairs.measureOthers(LOneBell$House;)V -/
def am_54 : ai_M := (4, ⟨an_4, "measureOthers", "(LOneBell$House;)V"⟩, prog_6_method_6_code, 4, none, 1, 3, 72, 10085, 10084, 1011, 0, ar_54)
/-- OneBell$Pairs.measureStep(LOneBell$House;I)Z -/
def am_55 : ai_M := (4, ⟨an_4, "measureStep", "(LOneBell$House;I)Z"⟩, prog_6_method_7_code, 6, (some .boolean), 2, 2, 47, 10089, 10088, 1012, 0, ar_55)
/-- OneBell$Pairs.toneTowards(LOneBell$House;III)I -/
def am_56 : ai_M := (4, ⟨an_4, "toneTowards", "(LOneBell$House;III)I"⟩, prog_6_method_8_code, 6, (some .int), 4, 1, 22, 10093, 10092, 1013, 0, ar_56)
/-- OneBell$Pairs.addSteps(LOneBell$House;IILOneBell$Route;)V -/
def am_57 : ai_M := (4, ⟨an_4, "addSteps", "(LOneBell$House;IILOneBell$Route;)V"⟩, prog_6_method_9_code, 9, none, 4, 2, 47, 10116, 10114, 10115, 0, ar_57)
/-- OneBell$Pairs.nearest(II)I -/
def am_58 : ai_M := (4, ⟨an_4, "nearest", "(II)I"⟩, prog_6_method_10_code, 7, (some .int), 2, 2, 44, 10111, 10109, 10110, 0, ar_58)
/-- OneBell$Pairs.isFirstOfItsKind(I)Z -/
def am_59 : ai_M := (4, ⟨an_4, "isFirstOfItsKind", "(I)Z"⟩, prog_6_method_11_code, 3, (some .boolean), 1, 2, 44, 11036, 11034, 11035, 0, ar_59)
/-- OneBell$Pairs.isHome(LOneBell$House;I)Z -/
def am_60 : ai_M := (4, ⟨an_4, "isHome", "(LOneBell$House;I)Z"⟩, prog_6_method_12_code, 6, (some .boolean), 2, 2, 51, 10143, 10141, 10142, 0, ar_60)
/-- OneBell$Pairs.growHome(LOneBell$House;II)Z -/
def am_61 : ai_M := (4, ⟨an_4, "growHome", "(LOneBell$House;II)Z"⟩, prog_6_method_13_code, 10, (some .boolean), 3, 1, 22, 10147, 10146, 1014, 0, ar_61)
/-- OneBell$Pairs.mendingRoom(LOneBell$House;II)I -/
def am_62 : ai_M := (4, ⟨an_4, "mendingRoom", "(LOneBell$House;II)I"⟩, prog_6_method_14_code, 6, (some .int), 3, 3, 76, 10155, 10153, 10154, 0, ar_62)
/-- OneBell$Pairs.rowsApart(LOneBell$House;III)I -/
def am_63 : ai_M := (4, ⟨an_4, "rowsApart", "(LOneBell$House;III)I"⟩, prog_6_method_15_code, 7, (some .int), 4, 2, 53, 11093, 11091, 11092, 0, ar_63)
/-- OneBell$Pairs.countOneToneMore(LOneBell$House;)V -/
def am_64 : ai_M := (4, ⟨an_4, "countOneToneMore", "(LOneBell$House;)V"⟩, prog_6_method_16_code, 8, none, 1, 1, 26, 11097, 11096, 3001, 0, ar_64)
/-- OneBell$Pairs.firstApart(LOneBell$House;IIILOneBell$Route;)I -/
def am_65 : ai_M := (4, ⟨an_4, "firstApart", "(LOneBell$House;IIILOneBell$Route;)I"⟩, prog_6_method_17_code, 10, (some .int), 5, 3, 73, 11107, 11105, 11106, 0, ar_65)
/-- OneBell$Pairs.measureApart(LOneBell$House;I)V -/
def am_66 : ai_M := (4, ⟨an_4, "measureApart", "(LOneBell$House;I)V"⟩, prog_6_method_18_code, 5, none, 2, 2, 49, 11114, 11113, 3002, 0, ar_66)
/-- OneBell$Pairs.toneApart(LOneBell$House;III)I -/
def am_67 : ai_M := (4, ⟨an_4, "toneApart", "(LOneBell$House;III)I"⟩, prog_6_method_19_code, 8, (some .int), 4, 1, 22, 11118, 11117, 3003, 0, ar_67)
/-- OneBell$Reader.<init>()V -/
def am_68 : ai_M := (5, ⟨an_5, "<init>", "()V"⟩, prog_7_method_1_code, 1, none, 0, 1, 20, 7033, 7032, 0, 2, ar_68)
/-- OneBell$Reader.read([IILOneBell$House;)I -/
def am_69 : ai_M := (5, ⟨an_5, "read", "([IILOneBell$House;)I"⟩, prog_7_method_2_code, 5, (some .int), 3, 7, 165, 8141, 8139, 8140, 0, ar_69)
/-- OneBell$Reader.fail(II)V -/
def am_70 : ai_M := (5, ⟨an_5, "fail", "(II)V"⟩, prog_7_method_3_code, 3, none, 2, 0, 0, 8182, 8181, 6, 0, ar_70)
/-- OneBell$Reader.next()V -/
def am_71 : ai_M := (5, ⟨an_5, "next", "()V"⟩, prog_7_method_4_code, 2, none, 0, 1, 21, 8162, 8161, 1, 0, ar_71)
/-- OneBell$Reader.isLetter(I)Z -/
def am_72 : ai_M := (5, ⟨an_5, "isLetter", "(I)Z"⟩, prog_7_method_5_code, 2, (some .boolean), 1, 0, 0, 8166, 8165, 2, 0, ar_72)
/-- OneBell$Reader.isDigit(I)Z -/
def am_73 : ai_M := (5, ⟨an_5, "isDigit", "(I)Z"⟩, prog_7_method_6_code, 2, (some .boolean), 1, 0, 0, 8170, 8169, 3, 0, ar_73)
/-- OneBell$Reader.stands(I)Z -/
def am_74 : ai_M := (5, ⟨an_5, "stands", "(I)Z"⟩, prog_7_method_7_code, 2, (some .boolean), 1, 1, 22, 8178, 8177, 5, 0, ar_74)
/-- OneBell$Reader.readLine(LOneBell$House;)V -/
def am_75 : ai_M := (5, ⟨an_5, "readLine", "(LOneBell$House;)V"⟩, prog_7_method_8_code, 4, none, 1, 6, 142, 8174, 8173, 4, 0, ar_75)
/-- OneBell$Reader.lineFault(ILOneBell$House;)I -/
def am_76 : ai_M := (5, ⟨an_5, "lineFault", "(ILOneBell$House;)I"⟩, prog_7_method_9_code, 3, (some .int), 2, 0, 0, 9012, 9011, 9, 0, ar_76)
/-- OneBell$Reader.lineKind()I -/
def am_77 : ai_M := (5, ⟨an_5, "lineKind", "()I"⟩, prog_7_method_10_code, 1, (some .int), 0, 5, 122, 8186, 8185, 7, 0, ar_77)
/-- OneBell$Reader.spells(Ljava/lang/String;)Z -/
def am_78 : ai_M := (5, ⟨an_5, "spells", "(Ljava/lang/String;)Z"⟩, prog_7_method_11_code, 3, (some .boolean), 1, 4, 100, 8191, 8190, 8, 0, ar_78)
/-- OneBell$Reader.readNumbers(ILOneBell$House;)V -/
def am_79 : ai_M := (5, ⟨an_5, "readNumbers", "(ILOneBell$House;)V"⟩, prog_7_method_12_code, 3, none, 2, 4, 92, 9016, 9015, 10, 0, ar_79)
/-- OneBell$Reader.number(II)I -/
def am_80 : ai_M := (5, ⟨an_5, "number", "(II)I"⟩, prog_7_method_13_code, 5, (some .int), 2, 2, 43, 9020, 9019, 11, 0, ar_80)
/-- OneBell$Reader.readLead(LOneBell$House;)V -/
def am_81 : ai_M := (5, ⟨an_5, "readLead", "(LOneBell$House;)V"⟩, prog_7_method_14_code, 5, none, 1, 3, 67, 9024, 9023, 12, 0, ar_81)
/-- OneBell$Reader.readChance(LOneBell$House;)V -/
def am_82 : ai_M := (5, ⟨an_5, "readChance", "(LOneBell$House;)V"⟩, prog_7_method_15_code, 6, none, 1, 3, 67, 9029, 9028, 13, 0, ar_82)
/-- OneBell$Reader.readStuck(LOneBell$House;)V -/
def am_83 : ai_M := (5, ⟨an_5, "readStuck", "(LOneBell$House;)V"⟩, prog_7_method_16_code, 4, none, 1, 3, 67, 9041, 9040, 14, 0, ar_83)
/-- OneBell$Reader.readSign(LOneBell$House;)V -/
def am_84 : ai_M := (5, ⟨an_5, "readSign", "(LOneBell$House;)V"⟩, prog_7_method_17_code, 4, none, 1, 3, 67, 9045, 9044, 15, 0, ar_84)
/-- OneBell$Reader.readRoom(ILOneBell$House;)V -/
def am_85 : ai_M := (5, ⟨an_5, "readRoom", "(ILOneBell$House;)V"⟩, prog_7_method_18_code, 4, none, 2, 3, 67, 9053, 9052, 1000, 0, ar_85)
/-- OneBell$Route.<init>()V -/
def am_86 : ai_M := (6, ⟨an_6, "<init>", "()V"⟩, prog_8_method_1_code, 1, none, 0, 1, 20, 7139, 7138, 0, 2, ar_86)
/-- OneBell$Route.forget()V -/
def am_87 : ai_M := (6, ⟨an_6, "forget", "()V"⟩, prog_8_method_2_code, 1, none, 0, 0, 0, 9068, 9066, 9067, 0, ar_87)
/-- OneBell$Route.begin()V -/
def am_88 : ai_M := (6, ⟨an_6, "begin", "()V"⟩, prog_8_method_3_code, 1, none, 0, 0, 0, 9161, 9159, 9160, 0, ar_88)
/-- OneBell$Route.add(I)V -/
def am_89 : ai_M := (6, ⟨an_6, "add", "(I)V"⟩, prog_8_method_4_code, 2, none, 1, 0, 0, 9169, 9167, 9168, 0, ar_89)
/-- OneBell$Route.tone(I)I -/
def am_90 : ai_M := (6, ⟨an_6, "tone", "(I)I"⟩, prog_8_method_5_code, 2, (some .int), 1, 0, 0, 9177, 9175, 9176, 0, ar_90)
/-- OneBell$Route.put(II)V -/
def am_91 : ai_M := (6, ⟨an_6, "put", "(II)V"⟩, prog_8_method_6_code, 3, none, 2, 0, 0, 10039, 10037, 10038, 0, ar_91)
/-- OneBell$Route.take(LOneBell$Route;)V -/
def am_92 : ai_M := (6, ⟨an_6, "take", "(LOneBell$Route;)V"⟩, prog_8_method_7_code, 2, none, 1, 1, 26, 10125, 10123, 10124, 0, ar_92)
/-- OneBell$Route.beginFirst(I)V -/
def am_93 : ai_M := (6, ⟨an_6, "beginFirst", "(I)V"⟩, prog_8_method_8_code, 3, none, 1, 1, 21, 10033, 10031, 10032, 0, ar_93)
/-- OneBell$Route.advance(I)I -/
def am_94 : ai_M := (6, ⟨an_6, "advance", "(I)I"⟩, prog_8_method_9_code, 3, (some .int), 1, 0, 0, 10226, 10224, 10225, 0, ar_94)
/-- OneBell$Search.<init>(II)V -/
def am_95 : ai_M := (7, ⟨an_7, "<init>", "(II)V"⟩, prog_9_method_1_code, 3, none, 2, 1, 20, 7159, 7158, 0, 2, ar_95)
/-- OneBell$Search.begin()V -/
def am_96 : ai_M := (7, ⟨an_7, "begin", "()V"⟩, prog_9_method_2_code, 1, none, 0, 1, 23, 10004, 10002, 10003, 0, ar_96)
/-- OneBell$Search.size()I -/
def am_97 : ai_M := (7, ⟨an_7, "size", "()I"⟩, prog_9_method_3_code, 1, (some .int), 0, 0, 0, 10043, 10041, 10042, 0, ar_97)
/-- OneBell$Search.state(I)I -/
def am_98 : ai_M := (7, ⟨an_7, "state", "(I)I"⟩, prog_9_method_4_code, 2, (some .int), 1, 0, 0, 10047, 10045, 10046, 0, ar_98)
/-- OneBell$Search.slotOf(I)I -/
def am_99 : ai_M := (7, ⟨an_7, "slotOf", "(I)I"⟩, prog_9_method_5_code, 5, (some .int), 1, 0, 0, 10014, 10013, 1006, 0, ar_99)
/-- OneBell$Search.placeOf(I)I -/
def am_100 : ai_M := (7, ⟨an_7, "placeOf", "(I)I"⟩, prog_9_method_6_code, 3, (some .int), 1, 1, 24, 10182, 10180, 10181, 0, ar_100)
/-- OneBell$Search.add(III)Z -/
def am_101 : ai_M := (7, ⟨an_7, "add", "(III)Z"⟩, prog_9_method_7_code, 5, (some .boolean), 3, 1, 24, 10010, 10008, 10009, 0, ar_101)
/-- OneBell$Search.traceLast(LOneBell$Route;)I -/
def am_102 : ai_M := (7, ⟨an_7, "traceLast", "(LOneBell$Route;)I"⟩, prog_9_method_8_code, 5, (some .int), 1, 2, 43, 10029, 10027, 10028, 0, ar_102)
/-- OneBell$Sets.<init>(LOneBell$House;LOneBell$Search;)V -/
def am_103 : ai_M := (8, ⟨an_8, "<init>", "(LOneBell$House;LOneBell$Search;)V"⟩, prog_10_method_1_code, 3, none, 2, 1, 20, 7188, 7187, 0, 2, ar_103)
/-- OneBell$Sets.prepare(Z)V -/
def am_104 : ai_M := (8, ⟨an_8, "prepare", "(Z)V"⟩, prog_10_method_2_code, 8, none, 1, 2, 45, 9238, 9237, 1005, 0, ar_104)
/-- OneBell$Sets.imageOf(II)I -/
def am_105 : ai_M := (8, ⟨an_8, "imageOf", "(II)I"⟩, prog_10_method_3_code, 4, (some .int), 2, 0, 0, 10051, 10050, 1008, 0, ar_105)
/-- OneBell$Sets.isThere(II)Z -/
def am_106 : ai_M := (8, ⟨an_8, "isThere", "(II)Z"⟩, prog_10_method_4_code, 3, (some .boolean), 2, 1, 20, 10019, 10018, 1007, 0, ar_106)
/-- OneBell$Sets.bring(IIILOneBell$Route;)I -/
def am_107 : ai_M := (8, ⟨an_8, "bring", "(IIILOneBell$Route;)I"⟩, prog_10_method_5_code, 8, (some .int), 4, 3, 72, 9234, 9232, 9233, 0, ar_107)
/-- OneBell$Sets.bringThoughLost(ILOneBell$Search;LOneBell$Route;)I -/
def am_108 : ai_M := (8, ⟨an_8, "bringThoughLost", "(ILOneBell$Search;LOneBell$Route;)I"⟩, prog_10_method_6_code, 11, (some .int), 3, 3, 72, 10135, 10133, 10134, 0, ar_108)
/-- OneBell$Sets.spread()V -/
def am_109 : ai_M := (8, ⟨an_8, "spread", "()V"⟩, prog_10_method_7_code, 3, none, 0, 3, 72, 10067, 10066, 1009, 0, ar_109)
/-- OneBell$Sets.leastSize()I -/
def am_110 : ai_M := (8, ⟨an_8, "leastSize", "()I"⟩, prog_10_method_8_code, 3, (some .int), 0, 4, 94, 10063, 10061, 10062, 0, ar_110)
/-- OneBell$Sets.makeValues()V -/
def am_111 : ai_M := (8, ⟨an_8, "makeValues", "()V"⟩, prog_10_method_9_code, 1, none, 0, 0, 0, 10173, 10172, 1015, 0, ar_111)
/-- OneBell$Sets.rowsIntoOne(I)I -/
def am_112 : ai_M := (8, ⟨an_8, "rowsIntoOne", "(I)I"⟩, prog_10_method_10_code, 4, (some .int), 1, 4, 94, 10169, 10167, 10168, 0, ar_112)
/-- OneBell$Sets.countOneToneMore()V -/
def am_113 : ai_M := (8, ⟨an_8, "countOneToneMore", "()V"⟩, prog_10_method_11_code, 4, none, 0, 2, 46, 10178, 10177, 2000, 0, ar_113)
/-- OneBell$Sets.turns(I)I -/
def am_114 : ai_M := (8, ⟨an_8, "turns", "(I)I"⟩, prog_10_method_12_code, 5, (some .int), 1, 3, 73, 10234, 10232, 10233, 0, ar_114)
/-- OneBell$Sets.openTurns()V -/
def am_115 : ai_M := (8, ⟨an_8, "openTurns", "()V"⟩, prog_10_method_13_code, 2, none, 0, 1, 23, 11007, 11006, 2007, 0, ar_115)
/-- OneBell$Sets.findSigns()V -/
def am_116 : ai_M := (8, ⟨an_8, "findSigns", "()V"⟩, prog_10_method_14_code, 4, none, 0, 1, 21, 10238, 10237, 2005, 0, ar_116)
/-- OneBell$Sets.addUnsure(III)V -/
def am_117 : ai_M := (8, ⟨an_8, "addUnsure", "(III)V"⟩, prog_10_method_15_code, 6, none, 3, 2, 48, 11003, 11002, 2006, 0, ar_117)
/-- OneBell$Sets.settle(I)Z -/
def am_118 : ai_M := (8, ⟨an_8, "settle", "(I)Z"⟩, prog_10_method_16_code, 6, (some .boolean), 1, 1, 24, 11011, 11010, 2008, 0, ar_118)
/-- OneBell$Sets.isKnownWithin(II)Z -/
def am_119 : ai_M := (8, ⟨an_8, "isKnownWithin", "(II)Z"⟩, prog_10_method_17_code, 5, (some .boolean), 2, 0, 0, 11015, 11014, 2009, 0, ar_119)
/-- OneBell$Sets.isSettled(I)Z -/
def am_120 : ai_M := (8, ⟨an_8, "isSettled", "(I)Z"⟩, prog_10_method_18_code, 3, (some .boolean), 1, 1, 21, 11019, 11018, 2010, 0, ar_120)
/-- OneBell$Sight.<init>(LOneBell$House;)V -/
def am_121 : ai_M := (9, ⟨an_9, "<init>", "(LOneBell$House;)V"⟩, prog_11_method_1_code, 2, none, 1, 1, 20, 8024, 8023, 0, 2, ar_121)
/-- OneBell$Sight.inDoubt(LOneBell$Route;IZ)I -/
def am_122 : ai_M := (9, ⟨an_9, "inDoubt", "(LOneBell$Route;IZ)I"⟩, prog_11_method_2_code, 5, (some .int), 3, 3, 69, 10192, 10190, 10191, 0, ar_122)
/-- OneBell$Sight.stand(I)V -/
def am_123 : ai_M := (9, ⟨an_9, "stand", "(I)V"⟩, prog_11_method_3_code, 3, none, 1, 2, 45, 10196, 10195, 2001, 0, ar_123)
/-- OneBell$Sight.ring(III)V -/
def am_124 : ai_M := (9, ⟨an_9, "ring", "(III)V"⟩, prog_11_method_4_code, 5, none, 3, 2, 45, 10207, 10206, 2003, 0, ar_124)
/-- OneBell$Sight.narrow(I)V -/
def am_125 : ai_M := (9, ⟨an_9, "narrow", "(I)V"⟩, prog_11_method_5_code, 3, none, 1, 1, 23, 10200, 10199, 2002, 0, ar_125)
/-- OneBell$Sight.countDoubts(IIZ)I -/
def am_126 : ai_M := (9, ⟨an_9, "countDoubts", "(IIZ)I"⟩, prog_11_method_6_code, 7, (some .int), 3, 1, 23, 10212, 10211, 2004, 0, ar_126)
/-- OneBell$Sight.tellBest(IZLOneBell$Route;LOneBell$Route;)I -/
def am_127 : ai_M := (9, ⟨an_9, "tellBest", "(IZLOneBell$Route;LOneBell$Route;)I"⟩, prog_11_method_7_code, 10, (some .int), 4, 3, 69, 10220, 10218, 10219, 0, ar_127)
/-- OneBell.<init>()V -/
def am_128 : ai_M := (10, ⟨an_10, "<init>", "()V"⟩, prog_1_method_1_code, 2, none, 0, 2, 42, 7025, 7024, 0, 2, ar_128)
/-- OneBell.feed(IIIII)I -/
def am_129 : ai_M := (10, ⟨an_10, "feed", "(IIIII)I"⟩, prog_1_method_2_code, 6, (some .int), 5, 1, 22, 8129, 8127, 8128, 0, ar_129)
/-- OneBell.putOnTape(I)V -/
def am_130 : ai_M := (10, ⟨an_10, "putOnTape", "(I)V"⟩, prog_1_method_3_code, 3, none, 1, 0, 0, 8133, 8132, 0, 0, ar_130)
/-- OneBell.house(I)I -/
def am_131 : ai_M := (10, ⟨an_10, "house", "(I)I"⟩, prog_1_method_4_code, 3, (some .int), 1, 8, 189, 8137, 8135, 8136, 0, ar_131)
/-- OneBell.fault(I)I -/
def am_132 : ai_M := (10, ⟨an_10, "fault", "(I)I"⟩, prog_1_method_5_code, 2, (some .int), 1, 0, 0, 9073, 9071, 9072, 0, ar_132)
/-- OneBell.way(III)I -/
def am_133 : ai_M := (10, ⟨an_10, "way", "(III)I"⟩, prog_1_method_6_code, 4, (some .int), 3, 1, 22, 9077, 9075, 9076, 0, ar_133)
/-- OneBell.room(II)I -/
def am_134 : ai_M := (10, ⟨an_10, "room", "(II)I"⟩, prog_1_method_7_code, 3, (some .int), 2, 1, 21, 9098, 9096, 9097, 0, ar_134)
/-- OneBell.waiter(I)I -/
def am_135 : ai_M := (10, ⟨an_10, "waiter", "(I)I"⟩, prog_1_method_8_code, 2, (some .int), 1, 1, 21, 9106, 9104, 9105, 0, ar_135)
/-- OneBell.reach(I)I -/
def am_136 : ai_M := (10, ⟨an_10, "reach", "(I)I"⟩, prog_1_method_9_code, 2, (some .int), 1, 4, 93, 9118, 9116, 9117, 0, ar_136)
/-- OneBell.judge(I)I -/
def am_137 : ai_M := (10, ⟨an_10, "judge", "(I)I"⟩, prog_1_method_10_code, 2, (some .int), 1, 1, 22, 9137, 9135, 9136, 0, ar_137)
/-- OneBell.where(III)I -/
def am_138 : ai_M := (10, ⟨an_10, "where", "(III)I"⟩, prog_1_method_11_code, 5, (some .int), 3, 2, 47, 9153, 9151, 9152, 0, ar_138)
/-- OneBell.meeting(II)I -/
def am_139 : ai_M := (10, ⟨an_10, "meeting", "(II)I"⟩, prog_1_method_12_code, 6, (some .int), 2, 2, 44, 9181, 9179, 9180, 0, ar_139)
/-- OneBell.amiss(II)I -/
def am_140 : ai_M := (10, ⟨an_10, "amiss", "(II)I"⟩, prog_1_method_13_code, 6, (some .int), 2, 2, 47, 9200, 9198, 9199, 0, ar_140)
/-- OneBell.sees(III)I -/
def am_141 : ai_M := (10, ⟨an_10, "sees", "(III)I"⟩, prog_1_method_14_code, 5, (some .int), 3, 3, 71, 9212, 9210, 9211, 0, ar_141)
/-- OneBell.after(II)I -/
def am_142 : ai_M := (10, ⟨an_10, "after", "(II)I"⟩, prog_1_method_15_code, 6, (some .int), 2, 3, 69, 9217, 9215, 9216, 0, ar_142)
/-- OneBell.brings(II)I -/
def am_143 : ai_M := (10, ⟨an_10, "brings", "(II)I"⟩, prog_1_method_16_code, 3, (some .int), 2, 5, 122, 9226, 9224, 9225, 0, ar_143)
/-- OneBell.clean(II)I -/
def am_144 : ai_M := (10, ⟨an_10, "clean", "(II)I"⟩, prog_1_method_17_code, 3, (some .int), 2, 5, 122, 10055, 10053, 10054, 0, ar_144)
/-- OneBell.bringSet(III)I -/
def am_145 : ai_M := (10, ⟨an_10, "bringSet", "(III)I"⟩, prog_1_method_18_code, 4, (some .int), 3, 4, 99, 9230, 9229, 1004, 0, ar_145)
/-- OneBell.rank()I -/
def am_146 : ai_M := (10, ⟨an_10, "rank", "()I"⟩, prog_1_method_19_code, 1, (some .int), 0, 5, 116, 10059, 10057, 10058, 0, ar_146)
/-- OneBell.meet(II)I -/
def am_147 : ai_M := (10, ⟨an_10, "meet", "(II)I"⟩, prog_1_method_20_code, 3, (some .int), 2, 5, 117, 10072, 10070, 10071, 0, ar_147)
/-- OneBell.never()I -/
def am_148 : ai_M := (10, ⟨an_10, "never", "()I"⟩, prog_1_method_21_code, 3, (some .int), 0, 5, 117, 10102, 10100, 10101, 0, ar_148)
/-- OneBell.paired(I)I -/
def am_149 : ai_M := (10, ⟨an_10, "paired", "(I)I"⟩, prog_1_method_22_code, 7, (some .int), 1, 5, 117, 10106, 10104, 10105, 0, ar_149)
/-- OneBell.lost(I)I -/
def am_150 : ai_M := (10, ⟨an_10, "lost", "(I)I"⟩, prog_1_method_23_code, 2, (some .int), 1, 4, 102, 10131, 10129, 10130, 0, ar_150)
/-- OneBell.spare()I -/
def am_151 : ai_M := (10, ⟨an_10, "spare", "()I"⟩, prog_1_method_24_code, 3, (some .int), 0, 3, 76, 10139, 10137, 10138, 0, ar_151)
/-- OneBell.mended(I)I -/
def am_152 : ai_M := (10, ⟨an_10, "mended", "(I)I"⟩, prog_1_method_25_code, 5, (some .int), 1, 4, 101, 10151, 10149, 10150, 0, ar_152)
/-- OneBell.kernel(II)I -/
def am_153 : ai_M := (10, ⟨an_10, "kernel", "(II)I"⟩, prog_1_method_26_code, 7, (some .int), 2, 2, 47, 10161, 10159, 10160, 0, ar_153)
/-- OneBell.ways(I)I -/
def am_154 : ai_M := (10, ⟨an_10, "ways", "(I)I"⟩, prog_1_method_27_code, 2, (some .int), 1, 5, 117, 10165, 10163, 10164, 0, ar_154)
/-- OneBell.doubt(IIZ)I -/
def am_155 : ai_M := (10, ⟨an_10, "doubt", "(IIZ)I"⟩, prog_1_method_28_code, 5, (some .int), 3, 4, 93, 10188, 10186, 10187, 0, ar_155)
/-- OneBell.telling(IZ)I -/
def am_156 : ai_M := (10, ⟨an_10, "telling", "(IZ)I"⟩, prog_1_method_29_code, 3, (some .int), 2, 4, 98, 10216, 10214, 10215, 0, ar_156)
/-- OneBell.byTurns(I)I -/
def am_157 : ai_M := (10, ⟨an_10, "byTurns", "(I)I"⟩, prog_1_method_30_code, 2, (some .int), 1, 4, 97, 10230, 10228, 10229, 0, ar_157)
/-- OneBell.alike(II)I -/
def am_158 : ai_M := (10, ⟨an_10, "alike", "(II)I"⟩, prog_1_method_31_code, 3, (some .int), 2, 5, 118, 11023, 11021, 11022, 0, ar_158)
/-- OneBell.classes()I -/
def am_159 : ai_M := (10, ⟨an_10, "classes", "()I"⟩, prog_1_method_32_code, 3, (some .int), 0, 5, 118, 11032, 11030, 11031, 0, ar_159)
/-- OneBell.proof(II)I -/
def am_160 : ai_M := (10, ⟨an_10, "proof", "(II)I"⟩, prog_1_method_33_code, 4, (some .int), 2, 5, 118, 11040, 11038, 11039, 0, ar_160)
/-- OneBell.leads(II)I -/
def am_161 : ai_M := (10, ⟨an_10, "leads", "(II)I"⟩, prog_1_method_34_code, 4, (some .int), 2, 4, 92, 11044, 11042, 11043, 0, ar_161)
/-- OneBell.deaf(III)I -/
def am_162 : ai_M := (10, ⟨an_10, "deaf", "(III)I"⟩, prog_1_method_35_code, 4, (some .int), 3, 4, 98, 11077, 11075, 11076, 0, ar_162)
/-- OneBell.apart(III)I -/
def am_163 : ai_M := (10, ⟨an_10, "apart", "(III)I"⟩, prog_1_method_36_code, 4, (some .int), 3, 3, 79, 11089, 11087, 11088, 0, ar_163)
/-- OneBell.aparts(III)I -/
def am_164 : ai_M := (10, ⟨an_10, "aparts", "(III)I"⟩, prog_1_method_37_code, 4, (some .int), 3, 4, 102, 11103, 11101, 11102, 0, ar_164)
/-- OneBell.areTwoWaiters(II)Z -/
def am_165 : ai_M := (10, ⟨an_10, "areTwoWaiters", "(II)Z"⟩, prog_1_method_38_code, 3, (some .boolean), 2, 1, 21, 11081, 11080, 3000, 0, ar_165)
/-- OneBell.round(III)I -/
def am_166 : ai_M := (10, ⟨an_10, "round", "(III)I"⟩, prog_1_method_39_code, 9, (some .int), 3, 3, 73, 11123, 11121, 11122, 0, ar_166)
/-- OneBell.leadIn(II)I -/
def am_167 : ai_M := (10, ⟨an_10, "leadIn", "(II)I"⟩, prog_1_method_40_code, 7, (some .int), 2, 2, 47, 11127, 11126, 3004, 0, ar_167)
/-- OneBell.parts(III)J -/
def am_168 : ai_M := (10, ⟨an_10, "parts", "(III)J"⟩, prog_1_method_41_code, 5, (some .long), 3, 3, 75, 11131, 11129, 11130, 0, ar_168)
/-- OneBell.there(I)I -/
def am_169 : ai_M := (10, ⟨an_10, "there", "(I)I"⟩, prog_1_method_42_code, 3, (some .int), 1, 3, 78, 11151, 11149, 11150, 0, ar_169)
/-- OneBell.best(I)I -/
def am_170 : ai_M := (10, ⟨an_10, "best", "(I)I"⟩, prog_1_method_43_code, 2, (some .int), 1, 4, 106, 11162, 11160, 11161, 0, ar_170)
/-- OneBell.night(III)I -/
def am_171 : ai_M := (10, ⟨an_10, "night", "(III)I"⟩, prog_1_method_44_code, 7, (some .int), 3, 2, 48, 11174, 11172, 11173, 0, ar_171)
/-- OneBell.found(I)I -/
def am_172 : ai_M := (10, ⟨an_10, "found", "(I)I"⟩, prog_1_method_45_code, 2, (some .int), 1, 1, 21, 11189, 11187, 11188, 0, ar_172)
/-- OneBell.numbers(III)I -/
def am_173 : ai_M := (10, ⟨an_10, "numbers", "(III)I"⟩, prog_1_method_46_code, 4, (some .int), 3, 2, 46, 11193, 11191, 11192, 0, ar_173)
/-- OneBell.write(IIJ)J -/
def am_174 : ai_M := (10, ⟨an_10, "write", "(IIJ)J"⟩, prog_1_method_47_code, 5, (some .long), 3, 2, 45, 11202, 11200, 11201, 0, ar_174)
/-- OneBell.copy(I)I -/
def am_175 : ai_M := (10, ⟨an_10, "copy", "(I)I"⟩, prog_1_method_48_code, 3, (some .int), 1, 2, 45, 11216, 11214, 11215, 0, ar_175)
/-- OneBell.image(I)I -/
def am_176 : ai_M := (10, ⟨an_10, "image", "(I)I"⟩, prog_1_method_49_code, 2, (some .int), 1, 2, 47, 11220, 11218, 11219, 0, ar_176)
/-- OneBell.restore(I)I -/
def am_177 : ai_M := (10, ⟨an_10, "restore", "(I)I"⟩, prog_1_method_50_code, 2, (some .int), 1, 2, 47, 11224, 11222, 11223, 0, ar_177)
/-- OneBell.count(I)I -/
def am_178 : ai_M := (10, ⟨an_10, "count", "(I)I"⟩, prog_1_method_51_code, 2, (some .int), 1, 2, 45, 11228, 11226, 11227, 0, ar_178)
/-- OneBell.isRowNumber(I)Z -/
def am_179 : ai_M := (10, ⟨an_10, "isRowNumber", "(I)Z"⟩, prog_1_method_52_code, 2, (some .boolean), 1, 0, 0, 9141, 9140, 1001, 0, ar_179)
/-- OneBell.takeRow(I)I -/
def am_180 : ai_M := (10, ⟨an_10, "takeRow", "(I)I"⟩, prog_1_method_53_code, 3, (some .int), 1, 1, 22, 9157, 9156, 1002, 0, ar_180)
/-- OneBellModel.within(JJJ)Z -/
def am_181 : ai_M := (11, ⟨an_11, "within", "(JJJ)Z"⟩, prog_13_method_2_code, 6, (some .boolean), 3, 0, 0, 12132, 12131, 0, 1, ar_181)
/-- OneBellModel.<init>()V -/
def am_182 : ai_M := (11, ⟨an_11, "<init>", "()V"⟩, prog_13_method_3_code, 1, none, 0, 1, 20, 11237, 11236, 0, 2, ar_182)
/-- OneBellModel.feed(IIIII)I -/
def am_183 : ai_M := (11, ⟨an_11, "feed", "(IIIII)I"⟩, prog_13_method_4_code, 8, (some .int), 5, 0, 0, 12125, 12123, 12124, 0, ar_183)
/-- OneBellModel.see(I)I -/
def am_184 : ai_M := (11, ⟨an_11, "see", "(I)I"⟩, prog_13_method_5_code, 2, (some .int), 1, 0, 0, 12140, 12139, 3008, 0, ar_184)
/-- OneBellModel.isSmall(I)Z -/
def am_185 : ai_M := (11, ⟨an_11, "isSmall", "(I)Z"⟩, prog_13_method_6_code, 1, (some .boolean), 1, 0, 0, 12143, 12142, 0, 1, ar_185)
/-- OneBellModel.isDigit(I)Z -/
def am_186 : ai_M := (11, ⟨an_11, "isDigit", "(I)Z"⟩, prog_13_method_7_code, 1, (some .boolean), 1, 0, 0, 12153, 12152, 0, 1, ar_186)
/-- OneBellModel.keyAt()I -/
def am_187 : ai_M := (11, ⟨an_11, "keyAt", "()I"⟩, prog_13_method_8_code, 4, (some .int), 0, 4, 100, 12147, 12146, 3009, 0, ar_187)
/-- OneBellModel.next()V -/
def am_188 : ai_M := (11, ⟨an_11, "next", "()V"⟩, prog_13_method_9_code, 1, none, 0, 5, 123, 12136, 12135, 3007, 0, ar_188)
/-- OneBellModel.fails(I)V -/
def am_189 : ai_M := (11, ⟨an_11, "fails", "(I)V"⟩, prog_13_method_10_code, 2, none, 1, 0, 0, 12169, 12168, 3013, 0, ar_189)
/-- OneBellModel.is(I)Z -/
def am_190 : ai_M := (11, ⟨an_11, "is", "(I)Z"⟩, prog_13_method_11_code, 2, (some .boolean), 1, 0, 0, 12161, 12160, 3011, 0, ar_190)
/-- OneBellModel.eats(I)Z -/
def am_191 : ai_M := (11, ⟨an_11, "eats", "(I)Z"⟩, prog_13_method_12_code, 2, (some .boolean), 1, 6, 143, 12192, 12191, 4002, 0, ar_191)
/-- OneBellModel.needs(I)V -/
def am_192 : ai_M := (11, ⟨an_11, "needs", "(I)V"⟩, prog_13_method_13_code, 2, none, 1, 7, 164, 12216, 12215, 4008, 0, ar_192)
/-- OneBellModel.takes(II)I -/
def am_193 : ai_M := (11, ⟨an_11, "takes", "(II)I"⟩, prog_13_method_14_code, 4, (some .int), 2, 6, 143, 12173, 12172, 3014, 0, ar_193)
/-- OneBellModel.takesRoom()I -/
def am_194 : ai_M := (11, ⟨an_11, "takesRoom", "()I"⟩, prog_13_method_15_code, 1, (some .int), 0, 7, 166, 12188, 12187, 4001, 0, ar_194)
/-- OneBellModel.takesTone()I -/
def am_195 : ai_M := (11, ⟨an_11, "takesTone", "()I"⟩, prog_13_method_16_code, 1, (some .int), 0, 7, 166, 12204, 12203, 4005, 0, ar_195)
/-- OneBellModel.door(II)I -/
def am_196 : ai_M := (11, ⟨an_11, "door", "(II)I"⟩, prog_13_method_17_code, 2, (some .int), 2, 0, 0, 12180, 12179, 0, 1, ar_196)
/-- OneBellModel.readRooms()V -/
def am_197 : ai_M := (11, ⟨an_11, "readRooms", "()V"⟩, prog_13_method_18_code, 1, none, 0, 7, 166, 12165, 12164, 3012, 0, ar_197)
/-- OneBellModel.readTones()V -/
def am_198 : ai_M := (11, ⟨an_11, "readTones", "()V"⟩, prog_13_method_19_code, 3, none, 0, 7, 166, 12177, 12176, 3015, 0, ar_198)
/-- OneBellModel.readLead()V -/
def am_199 : ai_M := (11, ⟨an_11, "readLead", "()V"⟩, prog_13_method_20_code, 4, none, 0, 8, 186, 12196, 12195, 4003, 0, ar_199)
/-- OneBellModel.readChance()V -/
def am_200 : ai_M := (11, ⟨an_11, "readChance", "()V"⟩, prog_13_method_21_code, 5, none, 0, 8, 186, 12200, 12199, 4004, 0, ar_200)
/-- OneBellModel.readStuck()V -/
def am_201 : ai_M := (11, ⟨an_11, "readStuck", "()V"⟩, prog_13_method_22_code, 3, none, 0, 8, 186, 12208, 12207, 4006, 0, ar_201)
/-- OneBellModel.readSign()V -/
def am_202 : ai_M := (11, ⟨an_11, "readSign", "()V"⟩, prog_13_method_23_code, 3, none, 0, 8, 186, 12212, 12211, 4007, 0, ar_202)
/-- OneBellModel.readWaiter()V -/
def am_203 : ai_M := (11, ⟨an_11, "readWaiter", "()V"⟩, prog_13_method_24_code, 2, none, 0, 8, 186, 12184, 12183, 4000, 0, ar_203)
/-- OneBellModel.readLine()V -/
def am_204 : ai_M := (11, ⟨an_11, "readLine", "()V"⟩, prog_13_method_25_code, 2, none, 0, 9, 210, 12157, 12156, 3010, 0, ar_204)
/-- OneBellModel.house(I)I -/
def am_205 : ai_M := (11, ⟨an_11, "house", "(I)I"⟩, prog_13_method_26_code, 3, (some .int), 1, 10, 231, 12129, 12127, 12128, 0, ar_205)
/-- OneBellModel.fault(I)I -/
def am_206 : ai_M := (11, ⟨an_11, "fault", "(I)I"⟩, prog_13_method_27_code, 2, (some .int), 1, 0, 0, 12220, 12218, 12219, 0, ar_206)
/-- OneBellModel.isRoom(I)Z -/
def am_207 : ai_M := (11, ⟨an_11, "isRoom", "(I)Z"⟩, prog_13_method_28_code, 2, (some .boolean), 1, 1, 25, 12228, 12227, 4009, 0, ar_207)
/-- OneBellModel.isSet(I)Z -/
def am_208 : ai_M := (11, ⟨an_11, "isSet", "(I)Z"⟩, prog_13_method_29_code, 2, (some .boolean), 1, 1, 25, 13066, 13065, 5003, 0, ar_208)
/-- OneBellModel.isWaiter(I)Z -/
def am_209 : ai_M := (11, ⟨an_11, "isWaiter", "(I)Z"⟩, prog_13_method_30_code, 2, (some .boolean), 1, 1, 25, 13005, 13004, 4011, 0, ar_209)
/-- OneBellModel.plain(II)I -/
def am_210 : ai_M := (11, ⟨an_11, "plain", "(II)I"⟩, prog_13_method_31_code, 3, (some .int), 2, 1, 21, 12233, 12232, 4010, 0, ar_210)
/-- OneBellModel.mayOf(II)I -/
def am_211 : ai_M := (11, ⟨an_11, "mayOf", "(II)I"⟩, prog_13_method_32_code, 5, (some .int), 2, 2, 43, 13013, 13012, 4012, 0, ar_211)
/-- OneBellModel.plainOf(II)I -/
def am_212 : ai_M := (11, ⟨an_11, "plainOf", "(II)I"⟩, prog_13_method_33_code, 5, (some .int), 2, 2, 43, 13135, 13134, 5013, 0, ar_212)
/-- OneBellModel.bitsOf(I)I -/
def am_213 : ai_M := (11, ⟨an_11, "bitsOf", "(I)I"⟩, prog_13_method_34_code, 3, (some .int), 1, 0, 0, 13095, 13094, 0, 1, ar_213)
/-- OneBellModel.firstOf(I)I -/
def am_214 : ai_M := (11, ⟨an_11, "firstOf", "(I)I"⟩, prog_13_method_35_code, 2, (some .int), 1, 0, 0, 13200, 13199, 0, 1, ar_214)
/-- OneBellModel.way(III)I -/
def am_215 : ai_M := (11, ⟨an_11, "way", "(III)I"⟩, prog_13_method_36_code, 4, (some .int), 3, 2, 46, 12224, 12222, 12223, 0, ar_215)
/-- OneBellModel.room(II)I -/
def am_216 : ai_M := (11, ⟨an_11, "room", "(II)I"⟩, prog_13_method_37_code, 3, (some .int), 2, 2, 46, 12237, 12235, 12236, 0, ar_216)
/-- OneBellModel.waiter(I)I -/
def am_217 : ai_M := (11, ⟨an_11, "waiter", "(I)I"⟩, prog_13_method_38_code, 2, (some .int), 1, 2, 46, 13001, 12239, 13000, 0, ar_217)
/-- OneBellModel.reach(I)I -/
def am_218 : ai_M := (11, ⟨an_11, "reach", "(I)I"⟩, prog_13_method_39_code, 5, (some .int), 1, 3, 67, 13009, 13007, 13008, 0, ar_218)
/-- OneBellModel.firstWrong(I)I -/
def am_219 : ai_M := (11, ⟨an_11, "firstWrong", "(I)I"⟩, prog_13_method_40_code, 3, (some .int), 1, 1, 25, 13022, 13021, 4013, 0, ar_219)
/-- OneBellModel.judge(I)I -/
def am_220 : ai_M := (11, ⟨an_11, "judge", "(I)I"⟩, prog_13_method_41_code, 2, (some .int), 1, 2, 47, 13017, 13015, 13016, 0, ar_220)
/-- OneBellModel.refuses(I)I -/
def am_221 : ai_M := (11, ⟨an_11, "refuses", "(I)I"⟩, prog_13_method_42_code, 2, (some .int), 1, 2, 47, 13030, 13029, 4014, 0, ar_221)
/-- OneBellModel.toneAt(II)I -/
def am_222 : ai_M := (11, ⟨an_11, "toneAt", "(II)I"⟩, prog_13_method_43_code, 3, (some .int), 2, 0, 0, 13038, 13037, 5000, 0, ar_222)
/-- OneBellModel.walks(III)I -/
def am_223 : ai_M := (11, ⟨an_11, "walks", "(III)I"⟩, prog_13_method_44_code, 6, (some .int), 3, 2, 43, 13034, 13033, 4015, 0, ar_223)
/-- OneBellModel.where(III)I -/
def am_224 : ai_M := (11, ⟨an_11, "where", "(III)I"⟩, prog_13_method_45_code, 5, (some .int), 3, 3, 68, 13026, 13024, 13025, 0, ar_224)
/-- OneBellModel.meetsAt(II)I -/
def am_225 : ai_M := (11, ⟨an_11, "meetsAt", "(II)I"⟩, prog_13_method_46_code, 5, (some .int), 2, 3, 68, 13046, 13045, 5001, 0, ar_225)
/-- OneBellModel.meeting(II)I -/
def am_226 : ai_M := (11, ⟨an_11, "meeting", "(II)I"⟩, prog_13_method_47_code, 5, (some .int), 2, 4, 92, 13042, 13040, 13041, 0, ar_226)
/-- OneBellModel.amissAt(II)I -/
def am_227 : ai_M := (11, ⟨an_11, "amissAt", "(II)I"⟩, prog_13_method_48_code, 6, (some .int), 2, 3, 68, 13054, 13053, 5002, 0, ar_227)
/-- OneBellModel.amiss(II)I -/
def am_228 : ai_M := (11, ⟨an_11, "amiss", "(II)I"⟩, prog_13_method_49_code, 5, (some .int), 2, 4, 93, 13050, 13048, 13049, 0, ar_228)
/-- OneBellModel.sees(III)I -/
def am_229 : ai_M := (11, ⟨an_11, "sees", "(III)I"⟩, prog_13_method_50_code, 5, (some .int), 3, 3, 68, 13058, 13056, 13057, 0, ar_229)
/-- OneBellModel.after(II)I -/
def am_230 : ai_M := (11, ⟨an_11, "after", "(II)I"⟩, prog_13_method_51_code, 6, (some .int), 2, 3, 68, 13062, 13060, 13061, 0, ar_230)
/-- OneBellModel.begins()V -/
def am_231 : ai_M := (11, ⟨an_11, "begins", "()V"⟩, prog_13_method_52_code, 1, none, 0, 0, 0, 13082, 13081, 5006, 0, ar_231)
/-- OneBellModel.comes(IIII)Z -/
def am_232 : ai_M := (11, ⟨an_11, "comes", "(IIII)Z"⟩, prog_13_method_53_code, 6, (some .boolean), 4, 0, 0, 13086, 13085, 5007, 0, ar_232)
/-- OneBellModel.keeps(I)I -/
def am_233 : ai_M := (11, ⟨an_11, "keeps", "(I)I"⟩, prog_13_method_54_code, 4, (some .int), 1, 0, 0, 13107, 13106, 5011, 0, ar_233)
/-- OneBellModel.isGoal(II)Z -/
def am_234 : ai_M := (11, ⟨an_11, "isGoal", "(II)Z"⟩, prog_13_method_55_code, 3, (some .boolean), 2, 1, 22, 13092, 13091, 5008, 0, ar_234)
/-- OneBellModel.bringsTo(III)I -/
def am_235 : ai_M := (11, ⟨an_11, "bringsTo", "(III)I"⟩, prog_13_method_56_code, 7, (some .int), 3, 3, 67, 13078, 13077, 5005, 0, ar_235)
/-- OneBellModel.brought(III)I -/
def am_236 : ai_M := (11, ⟨an_11, "brought", "(III)I"⟩, prog_13_method_57_code, 5, (some .int), 3, 4, 93, 13074, 13073, 5004, 0, ar_236)
/-- OneBellModel.foundIf(I)I -/
def am_237 : ai_M := (11, ⟨an_11, "foundIf", "(I)I"⟩, prog_13_method_58_code, 3, (some .int), 1, 1, 23, 13099, 13098, 5009, 0, ar_237)
/-- OneBellModel.brings(II)I -/
def am_238 : ai_M := (11, ⟨an_11, "brings", "(II)I"⟩, prog_13_method_59_code, 3, (some .int), 2, 5, 117, 13070, 13068, 13069, 0, ar_238)
/-- OneBellModel.clean(II)I -/
def am_239 : ai_M := (11, ⟨an_11, "clean", "(II)I"⟩, prog_13_method_60_code, 3, (some .int), 2, 5, 117, 13111, 13109, 13110, 0, ar_239)
/-- OneBellModel.rank()I -/
def am_240 : ai_M := (11, ⟨an_11, "rank", "()I"⟩, prog_13_method_61_code, 5, (some .int), 0, 3, 67, 13115, 13113, 13114, 0, ar_240)
/-- OneBellModel.meetsBy(II)I -/
def am_241 : ai_M := (11, ⟨an_11, "meetsBy", "(II)I"⟩, prog_13_method_62_code, 5, (some .int), 2, 2, 43, 13123, 13122, 5012, 0, ar_241)
/-- OneBellModel.lengthTo(I)I -/
def am_242 : ai_M := (11, ⟨an_11, "lengthTo", "(I)I"⟩, prog_13_method_63_code, 4, (some .int), 1, 0, 0, 13103, 13102, 5010, 0, ar_242)
/-- OneBellModel.meet(II)I -/
def am_243 : ai_M := (11, ⟨an_11, "meet", "(II)I"⟩, prog_13_method_64_code, 4, (some .int), 2, 3, 67, 13119, 13117, 13118, 0, ar_243)
/-- OneBellModel.never()I -/
def am_244 : ai_M := (11, ⟨an_11, "never", "()I"⟩, prog_13_method_65_code, 3, (some .int), 0, 3, 67, 13127, 13125, 13126, 0, ar_244)
/-- OneBellModel.paired(I)I -/
def am_245 : ai_M := (11, ⟨an_11, "paired", "(I)I"⟩, prog_13_method_66_code, 10, (some .int), 1, 3, 67, 13131, 13129, 13130, 0, ar_245)
/-- OneBellModel.lost(I)I -/
def am_246 : ai_M := (11, ⟨an_11, "lost", "(I)I"⟩, prog_13_method_67_code, 7, (some .int), 1, 3, 67, 13139, 13137, 13138, 0, ar_246)
/-- OneBellModel.meetsOn(III)Z -/
def am_247 : ai_M := (11, ⟨an_11, "meetsOn", "(III)Z"⟩, prog_13_method_68_code, 5, (some .boolean), 3, 2, 43, 13151, 13150, 5015, 0, ar_247)
/-- OneBellModel.isHome(I)Z -/
def am_248 : ai_M := (11, ⟨an_11, "isHome", "(I)Z"⟩, prog_13_method_69_code, 7, (some .boolean), 1, 3, 67, 13147, 13146, 5014, 0, ar_248)
/-- OneBellModel.spare()I -/
def am_249 : ai_M := (11, ⟨an_11, "spare", "()I"⟩, prog_13_method_70_code, 3, (some .int), 0, 4, 93, 13143, 13141, 13142, 0, ar_249)
/-- OneBellModel.mended(I)I -/
def am_250 : ai_M := (11, ⟨an_11, "mended", "(I)I"⟩, prog_13_method_71_code, 7, (some .int), 1, 4, 93, 13155, 13153, 13154, 0, ar_250)
/-- OneBellModel.kernel(II)I -/
def am_251 : ai_M := (11, ⟨an_11, "kernel", "(II)I"⟩, prog_13_method_72_code, 6, (some .int), 2, 3, 68, 13159, 13157, 13158, 0, ar_251)
/-- OneBellModel.ways(I)I -/
def am_252 : ai_M := (11, ⟨an_11, "ways", "(I)I"⟩, prog_13_method_73_code, 7, (some .int), 1, 3, 67, 13163, 13161, 13162, 0, ar_252)
/-- OneBellModel.begins2()V -/
def am_253 : ai_M := (11, ⟨an_11, "begins2", "()V"⟩, prog_13_method_74_code, 2, none, 0, 1, 23, 13173, 13172, 6000, 0, ar_253)
/-- OneBellModel.joinsSeen()V -/
def am_254 : ai_M := (11, ⟨an_11, "joinsSeen", "()V"⟩, prog_13_method_75_code, 4, none, 0, 0, 0, 13177, 13176, 6001, 0, ar_254)
/-- OneBellModel.rings(I)V -/
def am_255 : ai_M := (11, ⟨an_11, "rings", "(I)V"⟩, prog_13_method_76_code, 3, none, 1, 2, 43, 13181, 13180, 6002, 0, ar_255)
/-- OneBellModel.doubts(IZ)I -/
def am_256 : ai_M := (11, ⟨an_11, "doubts", "(IZ)I"⟩, prog_13_method_77_code, 7, (some .int), 2, 0, 0, 13185, 13184, 6003, 0, ar_256)
/-- OneBellModel.doubt(IIZ)I -/
def am_257 : ai_M := (11, ⟨an_11, "doubt", "(IIZ)I"⟩, prog_13_method_78_code, 6, (some .int), 3, 3, 68, 13169, 13167, 13168, 0, ar_257)
/-- OneBellModel.telling(IZ)I -/
def am_258 : ai_M := (11, ⟨an_11, "telling", "(IZ)I"⟩, prog_13_method_79_code, 10, (some .int), 2, 3, 65, 13189, 13187, 13188, 0, ar_258)
/-- OneBellModel.worstOf(I)I -/
def am_259 : ai_M := (11, ⟨an_11, "worstOf", "(I)I"⟩, prog_13_method_80_code, 7, (some .int), 1, 1, 21, 13197, 13196, 6004, 0, ar_259)
/-- OneBellModel.byTurns(I)I -/
def am_260 : ai_M := (11, ⟨an_11, "byTurns", "(I)I"⟩, prog_13_method_81_code, 8, (some .int), 1, 3, 67, 13193, 13191, 13192, 0, ar_260)
/-- OneBellModel.provesBy(II)I -/
def am_261 : ai_M := (11, ⟨an_11, "provesBy", "(II)I"⟩, prog_13_method_82_code, 5, (some .int), 2, 2, 43, 13208, 13207, 6005, 0, ar_261)
/-- OneBellModel.alike(II)I -/
def am_262 : ai_M := (11, ⟨an_11, "alike", "(II)I"⟩, prog_13_method_83_code, 3, (some .int), 2, 3, 67, 13204, 13202, 13203, 0, ar_262)
/-- OneBellModel.classes()I -/
def am_263 : ai_M := (11, ⟨an_11, "classes", "()I"⟩, prog_13_method_84_code, 5, (some .int), 0, 3, 67, 13212, 13210, 13211, 0, ar_263)
/-- OneBellModel.proof(II)I -/
def am_264 : ai_M := (11, ⟨an_11, "proof", "(II)I"⟩, prog_13_method_85_code, 4, (some .int), 2, 3, 67, 13216, 13214, 13215, 0, ar_264)
/-- OneBellModel.isWell(I)Z -/
def am_265 : ai_M := (11, ⟨an_11, "isWell", "(I)Z"⟩, prog_13_method_86_code, 5, (some .boolean), 1, 0, 0, 13224, 13223, 6006, 0, ar_265)
/-- OneBellModel.rungOn(II)I -/
def am_266 : ai_M := (11, ⟨an_11, "rungOn", "(II)I"⟩, prog_13_method_87_code, 6, (some .int), 2, 2, 43, 13232, 13231, 6008, 0, ar_266)
/-- OneBellModel.areIn(II)Z -/
def am_267 : ai_M := (11, ⟨an_11, "areIn", "(II)Z"⟩, prog_13_method_88_code, 4, (some .boolean), 2, 0, 0, 13228, 13227, 6007, 0, ar_267)
/-- OneBellModel.leads(II)I -/
def am_268 : ai_M := (11, ⟨an_11, "leads", "(II)I"⟩, prog_13_method_89_code, 8, (some .int), 2, 3, 68, 13220, 13218, 13219, 0, ar_268)
/-- OneBellModel.deaf(III)I -/
def am_269 : ai_M := (11, ⟨an_11, "deaf", "(III)I"⟩, prog_13_method_90_code, 6, (some .int), 3, 2, 46, 13236, 13234, 13235, 0, ar_269)
/-- OneBellModel.laysApart(I)V -/
def am_270 : ai_M := (11, ⟨an_11, "laysApart", "(I)V"⟩, prog_13_method_91_code, 10, none, 1, 2, 43, 14005, 14004, 6009, 0, ar_270)
/-- OneBellModel.apart(III)I -/
def am_271 : ai_M := (11, ⟨an_11, "apart", "(III)I"⟩, prog_13_method_92_code, 4, (some .int), 3, 3, 72, 14000, 13238, 13239, 0, ar_271)
/-- OneBellModel.aparts(III)I -/
def am_272 : ai_M := (11, ⟨an_11, "aparts", "(III)I"⟩, prog_13_method_93_code, 8, (some .int), 3, 3, 72, 14009, 14007, 14008, 0, ar_272)
/-- OneBellModel.round(III)I -/
def am_273 : ai_M := (11, ⟨an_11, "round", "(III)I"⟩, prog_13_method_94_code, 10, (some .int), 3, 3, 68, 14013, 14011, 14012, 0, ar_273)
/-- OneBellModel.laysParts(I)V -/
def am_274 : ai_M := (11, ⟨an_11, "laysParts", "(I)V"⟩, prog_13_method_95_code, 3, none, 1, 0, 0, 14023, 14022, 6010, 0, ar_274)
/-- OneBellModel.ringsParts(I)V -/
def am_275 : ai_M := (11, ⟨an_11, "ringsParts", "(I)V"⟩, prog_13_method_96_code, 4, none, 1, 2, 43, 14027, 14026, 6011, 0, ar_275)
/-- OneBellModel.parts(III)J -/
def am_276 : ai_M := (11, ⟨an_11, "parts", "(III)J"⟩, prog_13_method_97_code, 6, (some .long), 3, 3, 68, 14017, 14015, 14016, 0, ar_276)
/-- OneBellModel.thereBy(I)I -/
def am_277 : ai_M := (11, ⟨an_11, "thereBy", "(I)I"⟩, prog_13_method_98_code, 8, (some .int), 1, 3, 66, 14035, 14034, 6012, 0, ar_277)
/-- OneBellModel.there(I)I -/
def am_278 : ai_M := (11, ⟨an_11, "there", "(I)I"⟩, prog_13_method_99_code, 4, (some .int), 1, 4, 93, 14031, 14029, 14030, 0, ar_278)
/-- OneBellModel.best(I)I -/
def am_279 : ai_M := (11, ⟨an_11, "best", "(I)I"⟩, prog_13_method_100_code, 9, (some .int), 1, 4, 93, 14041, 14039, 14040, 0, ar_279)
/-- OneBellModel.night(III)I -/
def am_280 : ai_M := (11, ⟨an_11, "night", "(III)I"⟩, prog_13_method_101_code, 11, (some .int), 3, 3, 68, 14046, 14044, 14045, 0, ar_280)
/-- OneBellModel.found(I)I -/
def am_281 : ai_M := (11, ⟨an_11, "found", "(I)I"⟩, prog_13_method_102_code, 2, (some .int), 1, 1, 25, 14051, 14049, 14050, 0, ar_281)
/-- OneBellModel.cut(JI)J -/
def am_282 : ai_M := (11, ⟨an_11, "cut", "(JI)J"⟩, prog_13_method_103_code, 3, (some .long), 2, 0, 0, 14064, 14063, 0, 1, ar_282)
/-- OneBellModel.numbers(III)I -/
def am_283 : ai_M := (11, ⟨an_11, "numbers", "(III)I"⟩, prog_13_method_104_code, 5, (some .int), 3, 1, 25, 14055, 14053, 14054, 0, ar_283)
/-- OneBellModel.write(IIJ)J -/
def am_284 : ai_M := (11, ⟨an_11, "write", "(IIJ)J"⟩, prog_13_method_105_code, 5, (some .long), 3, 1, 25, 14059, 14057, 14058, 0, ar_284)
/-- OneBellModel.copy(I)I -/
def am_285 : ai_M := (11, ⟨an_11, "copy", "(I)I"⟩, prog_13_method_106_code, 3, (some .int), 1, 1, 25, 14068, 14066, 14067, 0, ar_285)
/-- OneBellModel.image(I)I -/
def am_286 : ai_M := (11, ⟨an_11, "image", "(I)I"⟩, prog_13_method_107_code, 3, (some .int), 1, 1, 25, 14072, 14070, 14071, 0, ar_286)
/-- OneBellModel.restore(I)I -/
def am_287 : ai_M := (11, ⟨an_11, "restore", "(I)I"⟩, prog_13_method_108_code, 3, (some .int), 1, 1, 25, 14076, 14074, 14075, 0, ar_287)
/-- OneBellModel.chances()I -/
def am_288 : ai_M := (11, ⟨an_11, "chances", "()I"⟩, prog_13_method_109_code, 3, (some .int), 0, 0, 0, 14084, 14083, 6013, 0, ar_288)
/-- OneBellModel.count(I)I -/
def am_289 : ai_M := (11, ⟨an_11, "count", "(I)I"⟩, prog_13_method_110_code, 2, (some .int), 1, 1, 22, 14080, 14078, 14079, 0, ar_289)
/-- java/lang/Integer.bitCount(I)I -/
def am_290 : ai_M := (13, ⟨an_13, "bitCount", "(I)I"⟩, prog_14_method_49_code, 1, (some .int), 1, 0, 0, 10022, 10021, 0, 1, ar_290)
/-- java/util/Arrays.fill([JJ)V -/
def am_291 : ai_M := (15, ⟨an_15, "fill", "([JJ)V"⟩, prog_20_method_101_code, 5, none, 2, 0, 0, 11110, 11109, 0, 1, ar_291)
/-- java/util/Arrays.fill([II)V -/
def am_292 : ai_M := (15, ⟨an_15, "fill", "([II)V"⟩, prog_20_method_103_code, 4, none, 2, 0, 0, 8154, 8153, 0, 1, ar_292)
/-- OneBellLaw.law([I)Z -/
def am_293 : ai_M := (12, ⟨an_12, "law", "([I)Z"⟩, code, 4, (some .boolean), 1, 11, 253, 0, 0, 0, 9, ar_293)
def ai_mt : List ai_M := [am_0, am_1, am_2, am_3, am_4, am_5, am_6, am_7, am_8, am_9, am_10, am_11, am_12, am_13, am_14, am_15, am_16, am_17, am_18, am_19, am_20, am_21, am_22, am_23, am_24, am_25, am_26, am_27, am_28, am_29, am_30, am_31, am_32, am_33, am_34, am_35, am_36, am_37, am_38, am_39, am_40, am_41, am_42, am_43, am_44, am_45, am_46, am_47, am_48, am_49, am_50, am_51, am_52, am_53, am_54, am_55, am_56, am_57, am_58, am_59, am_60, am_61, am_62, am_63, am_64, am_65, am_66, am_67, am_68, am_69, am_70, am_71, am_72, am_73, am_74, am_75, am_76, am_77, am_78, am_79, am_80, am_81, am_82, am_83, am_84, am_85, am_86, am_87, am_88, am_89, am_90, am_91, am_92, am_93, am_94, am_95, am_96, am_97, am_98, am_99, am_100, am_101, am_102, am_103, am_104, am_105, am_106, am_107, am_108, am_109, am_110, am_111, am_112, am_113, am_114, am_115, am_116, am_117, am_118, am_119, am_120, am_121, am_122, am_123, am_124, am_125, am_126, am_127, am_128, am_129, am_130, am_131, am_132, am_133, am_134, am_135, am_136, am_137, am_138, am_139, am_140, am_141, am_142, am_143, am_144, am_145, am_146, am_147, am_148, am_149, am_150, am_151, am_152, am_153, am_154, am_155, am_156, am_157, am_158, am_159, am_160, am_161, am_162, am_163, am_164, am_165, am_166, am_167, am_168, am_169, am_170, am_171, am_172, am_173, am_174, am_175, am_176, am_177, am_178, am_179, am_180, am_181, am_182, am_183, am_184, am_185, am_186, am_187, am_188, am_189, am_190, am_191, am_192, am_193, am_194, am_195, am_196, am_197, am_198, am_199, am_200, am_201, am_202, am_203, am_204, am_205, am_206, am_207, am_208, am_209, am_210, am_211, am_212, am_213, am_214, am_215, am_216, am_217, am_218, am_219, am_220, am_221, am_222, am_223, am_224, am_225, am_226, am_227, am_228, am_229, am_230, am_231, am_232, am_233, am_234, am_235, am_236, am_237, am_238, am_239, am_240, am_241, am_242, am_243, am_244, am_245, am_246, am_247, am_248, am_249, am_250, am_251, am_252, am_253, am_254, am_255, am_256, am_257, am_258, am_259, am_260, am_261, am_262, am_263, am_264, am_265, am_266, am_267, am_268, am_269, am_270, am_271, am_272, am_273, am_274, am_275, am_276, am_277, am_278, am_279, am_280, am_281, am_282, am_283, am_284, am_285, am_286, am_287, am_288, am_289, am_290, am_291, am_292, am_293]
def ai_nst : List Nat := [141, 172, 247, 327, 409]
end
section
/-! THE ABSTRACT INTERPRETER: the class's bytecode over a heap that is a list of cells; a reference is a cell's place in that list. -/
abbrev ai_C : Type := (Nat × vp_A) ⊕ (Nat × List Value)
abbrev ai_H : Type := List ai_C
abbrev ai_L : Type := List (Option Value)
abbrev ai_S : Type := List ai_R × ai_L × List Value × ai_H
abbrev ai_X : Type := Nat × (Nat → Int32)
abbrev ai_mC (M : ai_M) : Nat := M.1
abbrev ai_mY (M : ai_M) : MethodName := M.2.1
abbrev ai_mB (M : ai_M) : ByteArray := M.2.2.1
abbrev ai_mL (M : ai_M) : Nat := M.2.2.2.1
abbrev ai_mT (M : ai_M) : Option FieldType := M.2.2.2.2.1
abbrev ai_mN (M : ai_M) : Nat := M.2.2.2.2.2.1
abbrev ai_mF (M : ai_M) : Nat := M.2.2.2.2.2.2.1
abbrev ai_mO (M : ai_M) : Nat := M.2.2.2.2.2.2.2.1
abbrev ai_mK (M : ai_M) : Nat := M.2.2.2.2.2.2.2.2.2.2.2.1
abbrev ai_mR (M : ai_M) : List ai_R := M.2.2.2.2.2.2.2.2.2.2.2.2
def ai_is2 : Option Value → Bool
  | some (.long _) => true
  | some (.double _) => true
  | _ => false
/-- storing a value into the place i; 'two': it takes the next place too -/
def ai_st (two : Bool) (i : Nat) (v : Value) : Nat → ai_L → ai_L
  | _, [] => []
  | j, x :: t => (if j = i then some v else if two = true ∧ j = i + 1 then none else if j + 1 = i ∧ ai_is2 x = true then none else x) :: ai_st two i v (j + 1) t
def ai_fl : List Value → ai_L
  | [] => []
  | v :: t => if v.category = 2 then some v :: none :: ai_fl t else some v :: ai_fl t
def ai_loc (n : Nat) (vs : List Value) : ai_L := ai_fl vs ++ List.replicate (n - (ai_fl vs).length) none
/-- a jump: to the row at place a, if it is the target's -/
def ai_tg (K : List ai_R) (pc : Nat) (off : Int) (a : Nat) : Option (List ai_R) :=
  match K.drop a with
  | r :: rs => if (pc : Int) + off = (r.1 : Int) then some (r :: rs) else none
  | [] => none
def ai_tf (K : List ai_R) (pc : Nat) (off : Int) : Option (List ai_R) :=
  match K.dropWhile (fun r => !decide ((pc : Int) + off = (r.1 : Int))) with
  | r :: rs => if (pc : Int) + off = (r.1 : Int) then some (r :: rs) else none
  | [] => none
def ai_fit : FieldType → Value → Bool
  | .int, .int _ => true
  | .long, .long _ => true
  | .object _, .ref _ => true
  | .array _, .ref _ => true
  | _, _ => false
def ai_fty (c k : Nat) : Option FieldType := match ai_cl[c]? with
  | some q => if k < q.2.2 then parseFieldDescriptor (q.2.1 k).2.2.1 else none
  | none => none
def ai_ffin (c k : Nat) : Bool := match ai_cl[c]? with
  | some q => (q.2.1 k).2.2.2
  | none => true
/-- one of two roads -/
def ai_br (c : Prop) [Decidable c] (K : List ai_R) (r : ai_R) (off : Int) (rs : List ai_R) (ls : ai_L) (st : List Value) (h : ai_H) : Option ai_S :=
  match ai_tg K r.1 off r.2.2.2.2.1 with
  | some rt => if c then some (rt, ls, st, h) else some (rs, ls, st, h)
  | none => none
/-- the row at the head, where it neither calls, nor makes a cell, nor returns -/
def ai_stp (X : ai_X) (M : ai_M) (r : ai_R) (rs : List ai_R) (ls : ai_L) (st : List Value) (h : ai_H) : Option ai_S :=
  match r.2.1 with
  | .iconst n => some (rs, ls, .int (Int32.ofInt n) :: st, h)
  | .bipush n => some (rs, ls, .int (Int8.ofInt n).toInt32 :: st, h)
  | .sipush n => some (rs, ls, .int (Int16.ofInt n).toInt32 :: st, h)
  | .lconst n => some (rs, ls, .long (Int64.ofNat (n : Nat)) :: st, h)
  | .ldc _ => match r.2.2.2.1 with
    | .int v => some (rs, ls, .int v :: st, h)
    | .float v => if v.toNat < 11 then some (rs, ls, .float v :: st, h) else none
    | _ => none
  | .ldc_w _ => match r.2.2.2.1 with
    | .int v => some (rs, ls, .int v :: st, h)
    | _ => none
  | .ldc2_w _ => match r.2.2.2.1 with
    | .long v => some (rs, ls, .long v :: st, h)
    | _ => none
  | .iload_n i => match ls[(i : Nat)]? with
    | some (some (.int v)) => some (rs, ls, .int v :: st, h)
    | _ => none
  | .iload i => match ls[i]? with
    | some (some (.int v)) => some (rs, ls, .int v :: st, h)
    | _ => none
  | .lload_n i => match ls[(i : Nat)]? with
    | some (some (.long v)) => some (rs, ls, .long v :: st, h)
    | _ => none
  | .lload i => match ls[i]? with
    | some (some (.long v)) => some (rs, ls, .long v :: st, h)
    | _ => none
  | .aload_n i => match ls[(i : Nat)]? with
    | some (some (.ref v)) => some (rs, ls, .ref v :: st, h)
    | some (some (.float v)) => some (rs, ls, .float v :: st, h)
    | _ => none
  | .aload i => match ls[i]? with
    | some (some (.ref v)) => some (rs, ls, .ref v :: st, h)
    | some (some (.float v)) => some (rs, ls, .float v :: st, h)
    | _ => none
  | .istore_n i => match st with
    | .int v :: t => if (i : Nat) < ls.length then some (rs, ai_st false (i : Nat) (.int v) 0 ls, t, h) else none
    | _ => none
  | .istore i => match st with
    | .int v :: t => if i < ls.length then some (rs, ai_st false i (.int v) 0 ls, t, h) else none
    | _ => none
  | .lstore_n i => match st with
    | .long v :: t => if (i : Nat) + 1 < ls.length then some (rs, ai_st true (i : Nat) (.long v) 0 ls, t, h) else none
    | _ => none
  | .lstore i => match st with
    | .long v :: t => if i + 1 < ls.length then some (rs, ai_st true i (.long v) 0 ls, t, h) else none
    | _ => none
  | .astore_n i => match st with
    | .ref v :: t => if (i : Nat) < ls.length then some (rs, ai_st false (i : Nat) (.ref v) 0 ls, t, h) else none
    | _ => none
  | .astore i => match st with
    | .ref v :: t => if i < ls.length then some (rs, ai_st false i (.ref v) 0 ls, t, h) else none
    | _ => none
  | .iinc i n => match ls[i]? with
    | some (some (.int v)) => some (rs, ai_st false i (.int (v + Int32.ofInt n)) 0 ls, st, h)
    | _ => none
  | .iadd => match st with
    | .int y :: .int x :: t => some (rs, ls, .int (x + y) :: t, h)
    | _ => none
  | .isub => match st with
    | .int y :: .int x :: t => some (rs, ls, .int (x - y) :: t, h)
    | _ => none
  | .imul => match st with
    | .int y :: .int x :: t => some (rs, ls, .int (x * y) :: t, h)
    | _ => none
  | .iand => match st with
    | .int y :: .int x :: t => some (rs, ls, .int (x &&& y) :: t, h)
    | _ => none
  | .ior => match st with
    | .int y :: .int x :: t => some (rs, ls, .int (x ||| y) :: t, h)
    | _ => none
  | .ixor => match st with
    | .int y :: .int x :: t => some (rs, ls, .int (x ^^^ y) :: t, h)
    | _ => none
  | .idiv => match st with
    | .int y :: .int x :: t => if y = 0 then none else some (rs, ls, .int (x / y) :: t, h)
    | _ => none
  | .irem => match st with
    | .int y :: .int x :: t => if y = 0 then none else some (rs, ls, .int (x - x / y * y) :: t, h)
    | _ => none
  | .ishl => match st with
    | .int y :: .int x :: t => some (rs, ls, .int (x <<< (y &&& 31)) :: t, h)
    | _ => none
  | .ishr => match st with
    | .int y :: .int x :: t => some (rs, ls, .int (x >>> (y &&& 31)) :: t, h)
    | _ => none
  | .iushr => match st with
    | .int y :: .int x :: t => some (rs, ls, .int (x.toUInt32 >>> (y.toUInt32 &&& Int32.toUInt32 31)).toInt32 :: t, h)
    | _ => none
  | .ladd => match st with
    | .long y :: .long x :: t => some (rs, ls, .long (x + y) :: t, h)
    | _ => none
  | .lmul => match st with
    | .long y :: .long x :: t => some (rs, ls, .long (x * y) :: t, h)
    | _ => none
  | .land => match st with
    | .long y :: .long x :: t => some (rs, ls, .long (x &&& y) :: t, h)
    | _ => none
  | .lor => match st with
    | .long y :: .long x :: t => some (rs, ls, .long (x ||| y) :: t, h)
    | _ => none
  | .ldiv => match st with
    | .long y :: .long x :: t => if y = 0 then none else some (rs, ls, .long (x / y) :: t, h)
    | _ => none
  | .lrem => match st with
    | .long y :: .long x :: t => if y = 0 then none else some (rs, ls, .long (x - x / y * y) :: t, h)
    | _ => none
  | .lshl => match st with
    | .int y :: .long x :: t => some (rs, ls, .long (x <<< (y.toInt64 &&& 63)) :: t, h)
    | _ => none
  | .lushr => match st with
    | .int y :: .long x :: t => some (rs, ls, .long (x.toUInt64 >>> (y.toInt64.toUInt64 &&& Int64.toUInt64 63)).toInt64 :: t, h)
    | _ => none
  | .lcmp => match st with
    | .long y :: .long x :: t => some (rs, ls, .int (lg_cmp x y) :: t, h)
    | _ => none
  | .i2l => match st with
    | .int x :: t => some (rs, ls, .long x.toInt64 :: t, h)
    | _ => none
  | .l2i => match st with
    | .long x :: t => some (rs, ls, .int x.toInt32 :: t, h)
    | _ => none
  | .i2b => match st with
    | .int x :: t => some (rs, ls, .int x.toInt8.toInt32 :: t, h)
    | _ => none
  | .i2s => match st with
    | .int x :: t => some (rs, ls, .int x.toInt16.toInt32 :: t, h)
    | _ => none
  | .dup => match st with
    | .int x :: t => some (rs, ls, .int x :: .int x :: t, h)
    | .ref x :: t => some (rs, ls, .ref x :: .ref x :: t, h)
    | _ => none
  | .dup2 => match st with
    | .int y :: .ref x :: t => some (rs, ls, .int y :: .ref x :: .int y :: .ref x :: t, h)
    | _ => none
  | .pop => match st with
    | .int _ :: t => some (rs, ls, t, h)
    | _ => none
  | .pop2 => match st with
    | .long _ :: t => some (rs, ls, t, h)
    | _ => none
  | .goto off => match ai_tg (ai_mR M) r.1 off r.2.2.2.2.1 with
    | some rt => some (rt, ls, st, h)
    | none => none
  | .if_icmp c off => match st with
    | .int y :: .int x :: t => match c with
      | .eq => ai_br (x = y) (ai_mR M) r off rs ls t h
      | .ne => ai_br (¬ x = y) (ai_mR M) r off rs ls t h
      | .lt => ai_br (x < y) (ai_mR M) r off rs ls t h
      | .ge => ai_br (y ≤ x) (ai_mR M) r off rs ls t h
      | .gt => ai_br (y < x) (ai_mR M) r off rs ls t h
      | .le => ai_br (x ≤ y) (ai_mR M) r off rs ls t h
    | _ => none
  | .ifCond c off => match st with
    | .int x :: t => match c with
      | .eq => ai_br (x = 0) (ai_mR M) r off rs ls t h
      | .ne => ai_br (¬ x = 0) (ai_mR M) r off rs ls t h
      | .lt => ai_br (x < 0) (ai_mR M) r off rs ls t h
      | .ge => ai_br (0 ≤ x) (ai_mR M) r off rs ls t h
      | .gt => ai_br (0 < x) (ai_mR M) r off rs ls t h
      | .le => ai_br (x ≤ 0) (ai_mR M) r off rs ls t h
    | _ => none
  | .ifnull off => match st with
    | .ref _ :: t => some (rs, ls, t, h)
    | .null :: t => match ai_tg (ai_mR M) r.1 off r.2.2.2.2.1 with
      | some rt => some (rt, ls, t, h)
      | none => none
    | _ => none
  | .ifnonnull off => match st with
    | .null :: t => some (rs, ls, t, h)
    | .ref _ :: t => match ai_tg (ai_mR M) r.1 off r.2.2.2.2.1 with
      | some rt => some (rt, ls, t, h)
      | none => none
    | _ => none
  | .tableswitch dflt lo hi offs => match st with
    | .int x :: t => if x.toInt < lo ∨ hi < x.toInt then (match ai_tf (ai_mR M) r.1 dflt with
        | some rt => some (rt, ls, t, h)
        | none => none) else (match offs[(x.toInt - lo).toNat]? with
        | some off => (match ai_tf (ai_mR M) r.1 off with
          | some rt => some (rt, ls, t, h)
          | none => none)
        | none => none)
    | _ => none
  | .getfield _ => match st with
    | .ref a :: t => match h[a]? with
      | some (.inr (c, fs)) => if c = r.2.2.2.2.1 then (match fs[r.2.2.2.2.2.1]? with
          | some v => some (rs, ls, v :: t, h)
          | none => none) else none
      | _ => none
    | _ => none
  | .putfield _ => match st with
    | v :: .ref a :: t => match h[a]? with
      | some (.inr (c, fs)) => if c = r.2.2.2.2.1 ∧ r.2.2.2.2.2.1 < fs.length then (match ai_fty c r.2.2.2.2.2.1 with
          | some ty => if ai_fit ty v = true ∧ (ai_ffin c r.2.2.2.2.2.1 = false ∨ ((ai_mY M).name = "<init>" ∧ c = ai_mC M)) then some (rs, ls, t, h.set a (.inr (c, fs.set r.2.2.2.2.2.1 v))) else none
          | none => none) else none
      | _ => none
    | _ => none
  | .arraylength => match st with
    | .ref a :: t => match h[a]? with
      | some (.inl (k, x)) => if k < 6 then some (rs, ls, .int (Int32.ofNat x.1) :: t, h) else none
      | _ => none
    | .float k :: t => if k = 99 ∧ ai_mC M = 12 then some (rs, ls, .int (Int32.ofNat X.1) :: t, h) else none
    | _ => none
  | .iaload => match st with
    | .int i :: .ref a :: t => match h[a]? with
      | some (.inl (0, n, .inl f)) => if i < 0 ∨ n ≤ i.toNatClampNeg then none else some (rs, ls, .int (f i.toNatClampNeg) :: t, h)
      | _ => none
    | .int i :: .float k :: t => if i < 0 ∨ X.1 ≤ i.toNatClampNeg ∨ k ≠ 99 ∨ ai_mC M ≠ 12 then none else some (rs, ls, .int (X.2 i.toNatClampNeg) :: t, h)
    | _ => none
  | .laload => match st with
    | .int i :: .ref a :: t => match h[a]? with
      | some (.inl (1, n, .inr (.inl f))) => if i < 0 ∨ n ≤ i.toNatClampNeg then none else some (rs, ls, .long (f i.toNatClampNeg) :: t, h)
      | _ => none
    | _ => none
  | .baload => match st with
    | .int i :: .ref a :: t => match h[a]? with
      | some (.inl (2, n, .inl f)) => if i < 0 ∨ n ≤ i.toNatClampNeg then none else some (rs, ls, .int (f i.toNatClampNeg) :: t, h)
      | _ => none
    | _ => none
  | .aaload => match st with
    | .int i :: .ref a :: t => match h[a]? with
      | some (.inl (k, n, .inr (.inr (.inr (.inr f))))) => if i < 0 ∨ n ≤ i.toNatClampNeg ∨ k < 3 ∨ 6 ≤ k then none else some (rs, ls, va_rf (f i.toNatClampNeg) :: t, h)
      | _ => none
    | _ => none
  | .iastore => match st with
    | .int x :: .int i :: .ref a :: t => match h[a]? with
      | some (.inl (0, n, .inl f)) => if i < 0 ∨ n ≤ i.toNatClampNeg then none else some (rs, ls, t, h.set a (.inl (0, n, .inl (upd f i.toNatClampNeg x))))
      | _ => none
    | _ => none
  | .lastore => match st with
    | .long x :: .int i :: .ref a :: t => match h[a]? with
      | some (.inl (1, n, .inr (.inl f))) => if i < 0 ∨ n ≤ i.toNatClampNeg then none else some (rs, ls, t, h.set a (.inl (1, n, .inr (.inl (vp_updL f i.toNatClampNeg x)))))
      | _ => none
    | _ => none
  | .bastore => match st with
    | .int x :: .int i :: .ref a :: t => match h[a]? with
      | some (.inl (2, n, .inl f)) => if i < 0 ∨ n ≤ i.toNatClampNeg then none else some (rs, ls, t, h.set a (.inl (2, n, .inl (upd f i.toNatClampNeg (vp_nar .boolean x)))))
      | _ => none
    | _ => none
  | .aastore => match st with
    | .ref v :: .int i :: .ref a :: t => match h[a]?, h[v]? with
      | some (.inl (k, n, .inr (.inr (.inr (.inr f))))), some (.inr (c, _)) => if i < 0 ∨ n ≤ i.toNatClampNeg then none else (match ai_ty[k]?, ai_cl[c]? with
          | some (.object C), some q => if C = q.1 then some (rs, ls, t, h.set a (.inl (k, n, .inr (.inr (.inr (.inr (va_up f i.toNatClampNeg (some v)))))))) else none
          | _, _ => none)
      | _, _ => none
    | _ => none
  | _ => none
/-- the answer of a method whose type is narrow is what the type holds -/
def ai_rok (t : Option FieldType) (v : Int32) : Bool := match t with
  | some .int => true
  | some .boolean => decide (v = 0 ∨ v = 1)
  | _ => false
/-- arraycopy of ints -/
def ai_cpy (st : List Value) (h : ai_H) : Option (List Value × ai_H) := match st with
  | .int n :: .int dp :: .ref b :: .int sp :: .ref a :: t => match h[a]?, h[b]? with
    | some (.inl (0, n0, .inl f)), some (.inl (0, n1, .inl g)) => if sp < 0 ∨ dp < 0 ∨ n < 0 ∨ n0 < sp.toNatClampNeg + n.toNatClampNeg ∨ n1 < dp.toNatClampNeg + n.toNatClampNeg then none else some (t, h.set b (.inl (0, n1, .inl (va_cpy f g sp.toNatClampNeg dp.toNatClampNeg n.toNatClampNeg))))
    | some (.inl (1, n0, .inr (.inl f))), some (.inl (1, n1, .inr (.inl g))) => if sp < 0 ∨ dp < 0 ∨ n < 0 ∨ n0 < sp.toNatClampNeg + n.toNatClampNeg ∨ n1 < dp.toNatClampNeg + n.toNatClampNeg then none else some (t, h.set b (.inl (1, n1, .inr (.inl (va_cpy f g sp.toNatClampNeg dp.toNatClampNeg n.toNatClampNeg)))))
    | _, _ => none
  | _ => none
/-- what a call takes off the stack: the method called, its arguments, what stays -/
def ai_arg (h : ai_H) (k : Nat) (M : ai_M) (st : List Value) : Option (List Value × List Value) :=
  if k = 1 then (if ai_mN M ≤ st.length then some ((st.take (ai_mN M)).reverse, st.drop (ai_mN M)) else none)
  else match st.drop (ai_mN M) with
    | .ref a :: t => match h[a]? with
      | some (.inr (c, _)) => if c = ai_mC M then some (.ref a :: (st.take (ai_mN M)).reverse, t) else none
      | _ => none
    | _ => none
abbrev ai_O : Type := Option Value × ai_H × Nat × Nat
def ai_add (c s : Nat) (o : ai_O) : ai_O := (o.1, o.2.1, c + o.2.2.1, s + o.2.2.2)
def ai_arr0 : Nat → Option ((Nat → Int32) ⊕ (Nat → Int64) ⊕ (Nat → UInt32) ⊕ (Nat → UInt64) ⊕ (Nat → Option Nat))
  | 0 => some (.inl (fun _ => 0))
  | 1 => some (.inr (.inl (fun _ => 0)))
  | 2 => some (.inl (fun _ => 0))
  | _ => none
def ai_at : ArrayType → Nat
  | .int => 0
  | .long => 1
  | .boolean => 2
  | _ => 9
/-- the kind of an instruction: 0 is ai_stp's -/
def ai_kd : Instr → Nat
  | .ireturn => 1
  | .lreturn => 2
  | .return_ => 3
  | .new _ => 4
  | .newarray _ => 5
  | .anewarray _ => 6
  | .invokevirtual _ => 7
  | .invokestatic _ => 7
  | .invokespecial _ => 7
  | _ => 0
def ai_nt : Instr → Nat
  | .newarray ty => ai_at ty
  | _ => 9
def ai_sum (st : List Value) : Nat := (st.map fun v => v.category).sum
/-- the texts of the program: their lengths, their letters -/
def ai_sl : List Nat := [5, 5, 4, 6, 5, 3, 3, 4, 6, 6, 58]
def ai_sb : List (List Int32) := [[114, 111, 111, 109, 115], [116, 111, 110, 101, 115], [108, 101, 97, 100], [99, 104, 97, 110, 99, 101], [115, 116, 117, 99, 107], [98, 97, 114], [116, 119, 111], [115, 105, 103, 110], [112, 97, 110, 116, 114, 121], [119, 97, 105, 116, 101, 114], [32, 114, 111, 111, 109, 115, 32, 116, 111, 110, 101, 115, 32, 108, 101, 97, 100, 32, 99, 104, 97, 110, 99, 101, 32, 115, 116, 117, 99, 107, 32, 98, 97, 114, 32, 116, 119, 111, 32, 115, 105, 103, 110, 32, 112, 97, 110, 116, 114, 121, 32, 119, 97, 105, 116, 101, 114, 32]]
/-- a letter, as charAt answers it -/
def ai_sc (k j : Nat) : Int32 := (((ai_sb.getD k []).getD j 0 &&& 255).toUInt32 % 65536).toInt32
def ai_so : List (String × Nat × String) := [("OneBell$Reader", 93, "rooms"), ("OneBell$Reader", 98, "tones"), ("OneBell$Reader", 99, "lead"), ("OneBell$Reader", 101, "chance"), ("OneBell$Reader", 103, "stuck"), ("OneBell$Reader", 105, "bar"), ("OneBell$Reader", 107, "two"), ("OneBell$Reader", 109, "sign"), ("OneBell$Reader", 111, "pantry"), ("OneBell$Reader", 113, "waiter"), ("OneBellModel", 107, " rooms tones lead chance stuck bar two sign pantry waiter ")]
def ai_run (X : ai_X) : Nat → ai_M → ai_S → Option ai_O
  | 0, _, _ => none
  | _ + 1, _, ([], _) => none
  | n + 1, M, (r :: rs, ls, st, h) => match ai_kd r.2.1 with
    | 0 => match ai_stp X M r rs ls st h with
      | some s => ai_run X n M s
      | none => none
    | 1 => match st with
      | [.int v] => if ai_rok (ai_mT M) v = true then some (some (.int v), h, 0, 0) else none
      | _ => none
    | 2 => match st with
      | [.long v] => if ai_mT M = some .long then some (some (.long v), h, 0, 0) else none
      | _ => none
    | 3 => match st with
      | [] => if ai_mT M = none then some (none, h, 0, 0) else none
      | _ => none
    | 4 => match ai_df[r.2.2.2.2.1]? with
      | some fs => (ai_run X n M (rs, ls, .ref h.length :: st, h ++ [.inr (r.2.2.2.2.1, fs)])).map (ai_add 1 fs.length)
      | none => none
    | 5 => match st, ai_arr0 (ai_nt r.2.1) with
      | .int k :: t, some f => if k < 0 ∨ 65536 < k.toNatClampNeg then none else (ai_run X n M (rs, ls, .ref h.length :: t, h ++ [.inl (ai_nt r.2.1, k.toNatClampNeg, f)])).map (ai_add 1 k.toNatClampNeg)
      | _, _ => none
    | 6 => match st with
      | .int k :: t => if k < 0 ∨ 65536 < k.toNatClampNeg ∨ r.2.2.2.2.1 < 3 then none else (ai_run X n M (rs, ls, .ref h.length :: t, h ++ [.inl (r.2.2.2.2.1, k.toNatClampNeg, .inr (.inr (.inr (.inr (fun _ => none)))))])).map (ai_add 1 k.toNatClampNeg)
      | _ => none
    | 7 => if r.2.2.2.2.1 = 4 then (match st with
        | .ref _ :: t => if ai_sum t ≤ 8 then ai_run X n M (rs, ls, t, h) else none
        | _ => none)
      else if r.2.2.2.2.1 = 5 then (match ai_cpy st h with
        | some (t, h1) => if ai_sum t ≤ 8 then ai_run X n M (rs, ls, t, h1) else none
        | none => none)
      else if r.2.2.2.2.1 = 6 then (match st with
        | .float k :: t => if ai_sum t ≤ 8 ∧ k.toNat < 11 then ai_run X n M (rs, ls, .int (nI (ai_sl.getD k.toNat 0)) :: t, h) else none
        | _ => none)
      else if r.2.2.2.2.1 = 7 then (match st with
        | .int i :: .float k :: t => if ai_sum t ≤ 8 ∧ k.toNat < 11 ∧ ¬ (i < 0 ∨ ai_sl.getD k.toNat 0 ≤ i.toNatClampNeg) then ai_run X n M (rs, ls, .int (ai_sc k.toNat i.toNatClampNeg) :: t, h) else none
        | _ => none)
      else if r.2.2.2.2.1 = 8 then (match st with
        | .int y :: .int x :: t => if ai_sum t ≤ 8 then ai_run X n M (rs, ls, .int (if x < y then y else x) :: t, h) else none
        | _ => none)
      else if r.2.2.2.2.1 = 9 then (match st with
        | .int y :: .int x :: t => if ai_sum t ≤ 8 then ai_run X n M (rs, ls, .int (if y < x then y else x) :: t, h) else none
        | _ => none)
      else if r.2.2.2.2.1 < 4 then (match ai_mt[r.2.2.2.2.2.1]? with
        | some M1 => (match ai_arg h r.2.2.2.2.1 M1 st with
          | some (av, t) => if (ai_fl av).length ≤ ai_mL M1 ∧ ai_sum t ≤ 8 then (match ai_run X n M1 (ai_mR M1, ai_loc (ai_mL M1) av, [], h) with
              | some o => (ai_run X n M (rs, ls, o.1.toList ++ t, o.2.1)).map (ai_add o.2.2.1 o.2.2.2)
              | none => none) else none
          | none => none)
        | none => none)
      else none
    | _ => none
/-! what the tables promise -/
abbrev ai_mPc (M : ai_M) : Nat := M.2.2.2.2.2.2.2.2.1
abbrev ai_mPi (M : ai_M) : Nat := M.2.2.2.2.2.2.2.2.2.1
abbrev ai_mPs (M : ai_M) : Nat := M.2.2.2.2.2.2.2.2.2.2.1
def ai_len : Instr → Nat → Bool
  | .iload _, k => k == 2
  | .lload _, k => k == 2
  | .aload _, k => k == 2
  | .istore _, k => k == 2
  | .lstore _, k => k == 2
  | .astore _, k => k == 2
  | .bipush _, k => k == 2
  | .ldc _, k => k == 2
  | .newarray _, k => k == 2
  | .tableswitch _ _ _ _, _ => true
  | .sipush _, k => k == 3
  | .iinc _ _, k => k == 3
  | .if_icmp _ _, k => k == 3
  | .ifCond _ _, k => k == 3
  | .ifnull _, k => k == 3
  | .ifnonnull _, k => k == 3
  | .goto _, k => k == 3
  | .getfield _, k => k == 3
  | .putfield _, k => k == 3
  | .invokevirtual _, k => k == 3
  | .invokestatic _, k => k == 3
  | .invokespecial _, k => k == 3
  | .new _, k => k == 3
  | .anewarray _, k => k == 3
  | .ldc_w _, k => k == 3
  | .ldc2_w _, k => k == 3
  | _, k => k == 1
def ai_own (M : ai_M) : String := ai_cn.getD (ai_mC M) ""
/-- the tables' words, list by list; a word's place is 1000 times its list's number, and its place there -/
def ai_tb : List (List Cond) := [k2_sels lw_privs_1, k2_sels lw_privs_2, k2_sels lw_privs_3, k2_sels lw_privs_4, k2_sels lw_privs_5, k2_sels lw_privs_6, k2_sels lw_privs_7, tables_1_1, tables_1_2, tables_1_3, tables_1_4, tables_1_5, tables_1_6, tables_1_7, tables_1_8]
def ai_w (p : Nat) (w : Cond) : Bool := decide ((ai_tb.getD (p / 1000) [])[p % 1000]? = some w) && goodWord w
/-- what a row links, by the place of its word in the tables -/
def ai_lnk (M : ai_M) (r : ai_R) : Bool :=
  match r.2.1 with
  | .ldc i => match r.2.2.2.1 with
    | .int v => ai_w r.2.2.2.2.2.2.1 (.constant (ai_own M) i v)
    | .float v => match ai_so[v.toNat]? with
      | some q => decide (q.1 = ai_own M ∧ q.2.1 = i)
      | none => false
    | _ => true
  | .ldc_w i => match r.2.2.2.1 with
    | .int v => ai_w r.2.2.2.2.2.2.1 (.constant (ai_own M) i v)
    | _ => true
  | .ldc2_w i => match r.2.2.2.1 with
    | .long v => ai_w r.2.2.2.2.2.2.1 (.constantLong (ai_own M) i v)
    | _ => true
  | .getfield i => match ai_cl[r.2.2.2.2.1]? with
    | some q => decide (r.2.2.2.2.2.1 < q.2.2) && ai_w r.2.2.2.2.2.2.1 (.fieldLink (ai_own M) i (q.2.1 r.2.2.2.2.2.1).1 (q.2.1 r.2.2.2.2.2.1).2.1 (q.2.1 r.2.2.2.2.2.1).2.2.1)
    | none => false
  | .putfield i => match ai_cl[r.2.2.2.2.1]? with
    | some q => decide (r.2.2.2.2.2.1 < q.2.2) && (decide ((q.2.1 r.2.2.2.2.2.1).1 = q.1) && ai_w r.2.2.2.2.2.2.1 (.fieldLink (ai_own M) i (q.2.1 r.2.2.2.2.2.1).1 (q.2.1 r.2.2.2.2.2.1).2.1 (q.2.1 r.2.2.2.2.2.1).2.2.1))
    | none => false
  | .new i => match ai_cl[r.2.2.2.2.1]? with
    | some q => ai_w r.2.2.2.2.2.2.1 (.classLink (ai_own M) i q.1)
    | none => false
  | .anewarray i => match ai_ty[r.2.2.2.2.1]? with
    | some (.object C) => ai_w r.2.2.2.2.2.2.1 (.classLink (ai_own M) i C)
    | _ => false
  | .invokevirtual i => if r.2.2.2.2.1 = 0 then (match ai_mt[r.2.2.2.2.2.1]? with
      | some M1 => ai_w r.2.2.2.2.2.2.1 (.methodLink (ai_own M) i (ai_mY M1)) && (decide (ai_mK M1 = 0) && (decide (ai_mF M1 + 1 ≤ ai_mF M) && decide (8 + (ai_mL M1 + 11) + ai_mO M1 ≤ ai_mO M)))
      | none => false) else if r.2.2.2.2.1 = 6 then ai_w r.2.2.2.2.2.2.1 (.methodLink (ai_own M) i ⟨"java/lang/String", "length", "()I"⟩) && (decide (2 ≤ ai_mF M) && decide (40 ≤ ai_mO M))
      else decide (r.2.2.2.2.1 = 7) && (ai_w r.2.2.2.2.2.2.1 (.methodLink (ai_own M) i ⟨"java/lang/String", "charAt", "(I)C"⟩) && (decide (4 ≤ ai_mF M) && decide (85 ≤ ai_mO M)))
  | .invokestatic i => if r.2.2.2.2.1 = 1 then (match ai_mt[r.2.2.2.2.2.1]? with
      | some M1 => ai_w r.2.2.2.2.2.2.1 (.methodLink (ai_own M) i (ai_mY M1)) && (decide (ai_mK M1 = 1) && (decide (ai_mF M1 + 1 ≤ ai_mF M) && decide (8 + (ai_mL M1 + 11) + ai_mO M1 ≤ ai_mO M)))
      | none => false) else if r.2.2.2.2.1 = 8 then ai_w r.2.2.2.2.2.2.1 (.methodLink (ai_own M) i Lib.Math.max.name) && (decide (1 ≤ ai_mF M) && decide (21 ≤ ai_mO M))
      else if r.2.2.2.2.1 = 9 then ai_w r.2.2.2.2.2.2.1 (.methodLink (ai_own M) i Lib.Math.min.name) && (decide (1 ≤ ai_mF M) && decide (21 ≤ ai_mO M))
      else decide (r.2.2.2.2.1 = 5) && (ai_w r.2.2.2.2.2.2.1 (.methodLink (ai_own M) i arraycopyName) && (decide (1 ≤ ai_mF M) && decide (26 ≤ ai_mO M)))
  | .invokespecial i => if r.2.2.2.2.1 = 2 then (match ai_mt[r.2.2.2.2.2.1]? with
      | some M1 => ai_w r.2.2.2.2.2.2.1 (.methodLink (ai_own M) i (ai_mY M1)) && (decide (ai_mK M1 = 2) && (decide (ai_mF M1 + 1 ≤ ai_mF M) && decide (8 + (ai_mL M1 + 11) + ai_mO M1 ≤ ai_mO M)))
      | none => false) else if r.2.2.2.2.1 = 3 then (match ai_mt[r.2.2.2.2.2.1]? with
      | some M1 => decide (lw_tbl[r.2.2.2.2.2.2.1]? = some (.methodLinkNest (ai_own M) i (ai_mY M1) an_10)) && (decide (r.2.2.2.2.2.2.1 ∈ ai_nst) && (decide (ai_mK M1 = 2) && (decide (ai_mF M1 + 1 ≤ ai_mF M) && decide (8 + (ai_mL M1 + 11) + ai_mO M1 ≤ ai_mO M))))
      | none => false) else decide (r.2.2.2.2.1 = 4) && (ai_w r.2.2.2.2.2.2.1 (.methodLink (ai_own M) i objectInit) && (decide (1 ≤ ai_mF M) && decide (20 ≤ ai_mO M)))
  | _ => true
def ai_row (M : ai_M) (r : ai_R) : Bool := decide (decode (ai_mB M) r.1 = .ok (r.2.1, r.2.2.1)) && (ai_len r.2.1 r.2.2.1 && ai_lnk M r)
def ai_cont : List ai_R → Bool
  | r :: r1 :: t => r1.1 == r.1 + r.2.2.1 && ai_cont (r1 :: t)
  | _ => true
/-- how a method may be called -/
def ai_mkd (M : ai_M) : Bool := match ai_mK M with
  | 0 => ai_w (ai_mPi M) (.instanceMethod (ai_mY M)) && ai_w (ai_mPs M) (.selects (ai_mY M).cls (ai_mY M) (ai_mY M))
  | 1 => ai_w (ai_mPi M) (.static (ai_mY M))
  | 2 => ai_w (ai_mPi M) (.instanceMethod (ai_mY M)) && decide ((ai_mY M).name = "<init>" ∧ ai_mT M = none)
  | _ => false
/-- a method's own words and numbers -/
def ai_mok (M : ai_M) : Bool :=
  ai_w (ai_mPc M) (.code (ai_mY M) (ai_mB M) (ai_mL M) (ai_mT M)) && (decide ((ai_mY M).cls = ai_own M) && (decide ((ai_mY M).cls ≠ "java/lang/invoke/MethodHandle" ∧ (ai_mY M).cls ≠ "java/lang/invoke/VarHandle" ∧ (parseMethodDescriptor (ai_mY M).desc).map (fun d => d.parameters.length) = some (ai_mN M)) && (plainName (ai_mY M).cls && (ai_w (ai_ip.getD (ai_mC M) 0) (.initialized (ai_own M)) && (decide ((ai_mR M).head?.map (fun r => r.1) = some 0) && (decide (ai_mC M ≠ 12) && ai_mkd M))))))
end
section
/-! the tables hold -/
def ai_gw : List Cond := lw_tbl.filter goodWord
theorem ai_tb_in : ∀ l ∈ ai_tb, ∀ w ∈ l, w ∈ lw_tbl := by
  have hp : ∀ {ys : List (MethodName × Nat)}, (∀ y ∈ ys, y ∈ lw_privs) → ∀ w ∈ k2_sels ys, w ∈ lw_tbl := by
    intro ys hy w hw
    obtain ⟨y, h1, rfl⟩ := List.mem_map.mp hw
    exact List.mem_append_left _ (List.mem_map.mpr ⟨y, hy y h1, rfl⟩)
  have ht : ∀ {l : List Cond}, (∀ w ∈ l, w ∈ tables_1) → ∀ w ∈ l, w ∈ lw_tbl := fun h w hw => List.mem_append_right _ (h w hw)
  intro l hl
  simp only [ai_tb, List.mem_cons, List.not_mem_nil, or_false] at hl
  rcases hl with rfl | rfl | rfl | rfl | rfl | rfl | rfl | rfl | rfl | rfl | rfl | rfl | rfl | rfl | rfl
  · exact hp fun y hy => by simp only [lw_privs, List.mem_append]; simp [hy]
  · exact hp fun y hy => by simp only [lw_privs, List.mem_append]; simp [hy]
  · exact hp fun y hy => by simp only [lw_privs, List.mem_append]; simp [hy]
  · exact hp fun y hy => by simp only [lw_privs, List.mem_append]; simp [hy]
  · exact hp fun y hy => by simp only [lw_privs, List.mem_append]; simp [hy]
  · exact hp fun y hy => by simp only [lw_privs, List.mem_append]; simp [hy]
  · exact hp fun y hy => by simp only [lw_privs, List.mem_append]; simp [hy]
  · exact ht fun y hy => by simp only [tables_1, List.mem_append]; simp [hy]
  · exact ht fun y hy => by simp only [tables_1, List.mem_append]; simp [hy]
  · exact ht fun y hy => by simp only [tables_1, List.mem_append]; simp [hy]
  · exact ht fun y hy => by simp only [tables_1, List.mem_append]; simp [hy]
  · exact ht fun y hy => by simp only [tables_1, List.mem_append]; simp [hy]
  · exact ht fun y hy => by simp only [tables_1, List.mem_append]; simp [hy]
  · exact ht fun y hy => by simp only [tables_1, List.mem_append]; simp [hy]
  · exact ht fun y hy => by simp only [tables_1, List.mem_append]; simp [hy]
theorem ai_gw_of {p : Nat} {w : Cond} (h : ai_w p w = true) : w ∈ ai_gw := by
  simp only [ai_w, Bool.and_eq_true, decide_eq_true_eq] at h
  refine List.mem_filter.mpr ⟨?_, h.2⟩
  cases hl : ai_tb[p / 1000]? with
  | none => rw [List.getD_eq_getElem?_getD, hl] at h; simp at h
  | some l =>
    rw [List.getD_eq_getElem?_getD, hl] at h
    exact ai_tb_in l (List.mem_of_getElem? hl) w (List.mem_of_getElem? h.1)
theorem ai_gw_good {w : Cond} (h : w ∈ ai_gw) : (w.onTables && w.keeps) = true ∨ ∃ ty, w = .arrayClass ty := good_of_word (List.mem_filter.mp h).2
/-- a class's own words -/
def ai_cok (c : Nat) (q : vw_C) : Bool :=
  (List.range q.2.2).all (fun k => ai_w ((ai_lay.getD c []).getD k 0) (u_lay q.1 q.2.1 k) && decide ((parseFieldDescriptor (q.2.1 k).2.2.1).isSome = true) && (List.range q.2.2).all (fun j => decide (k = j ∨ (q.2.1 k).2.1 ≠ (q.2.1 j).2.1)))
   && (ai_w (ai_inp.getD c 0) (.instantiable q.1 q.2.2) && (ai_w (ai_ip.getD c 0) (.initialized q.1) && (decide ((ai_df.getD c []).length = q.2.2) && (decide (ai_cn[c]? = some q.1) && (List.range q.2.2).all (fun k => decide (((parseFieldDescriptor (q.2.1 k).2.2.1).map defaultValue) = some (vp_V (ai_df.getD c []) k)))))))
def ai_rk (M : ai_M) : Bool := (ai_mR M).all (ai_row M) && (ai_cont (ai_mR M))
def ai_mk (M : ai_M) : Bool := (decide (ai_mC M = 12) || ai_mok M) && ai_rk M
def ai_ca : Nat → List vw_C → Bool
  | _, [] => true
  | c, q :: t => ai_cok c q && ai_ca (c + 1) t
theorem ai_ca_ok : ∀ {l : List vw_C} {i c : Nat} {q : vw_C}, ai_ca i l = true → l[c]? = some q → ai_cok (i + c) q = true := by
  intro l
  induction l with
  | nil => intro i c q h hq; simp at hq
  | cons x t ih =>
    intro i c q h hq
    simp only [ai_ca, Bool.and_eq_true] at h
    cases c with
    | zero => simp only [List.getElem?_cons_zero, Option.some.injEq] at hq; subst hq; exact h.1
    | succ c =>
      have := ih h.2 (by simpa using hq)
      rw [show i + (c + 1) = i + 1 + c by omega]
      exact this
set_option maxRecDepth 100000 in
theorem ai_ca_all : ai_ca 0 ai_cl = true := by decide +kernel
theorem ai_ok_c : ∀ c : Nat, ∀ q : vw_C, ai_cl[c]? = some q → ai_cok c q = true := fun c q h => by have := ai_ca_ok ai_ca_all h; rwa [Nat.zero_add] at this
theorem ai_ok_ap : ai_w (ai_ap.getD 0 0) (.arrayClass .int) = true ∧ ai_w (ai_ap.getD 1 0) (.arrayClass .long) = true ∧ ai_w (ai_ap.getD 2 0) (.arrayClass .boolean) = true := by decide +kernel
theorem ai_law12 : ∀ M ∈ ai_mt, ai_mC M = 12 → ai_mK M = 9 := by
  have h : ai_mt.all (fun M => decide (ai_mC M = 12 → ai_mK M = 9)) = true := by decide +kernel
  intro M hM h12
  have := List.all_eq_true.mp h M hM
  exact (of_decide_eq_true this) h12
end
section
/-! the tables hold, method by method -/
set_option maxRecDepth 100000 in
theorem ai_k0 : ai_mk am_0 = true := by decide +kernel
set_option maxRecDepth 100000 in
theorem ai_k1 : ai_mk am_1 = true := by decide +kernel
set_option maxRecDepth 100000 in
theorem ai_k2 : ai_mk am_2 = true := by decide +kernel
set_option maxRecDepth 100000 in
theorem ai_k3 : ai_mk am_3 = true := by decide +kernel
set_option maxRecDepth 100000 in
theorem ai_k4 : ai_mk am_4 = true := by decide +kernel
set_option maxRecDepth 100000 in
theorem ai_k5 : ai_mk am_5 = true := by decide +kernel
set_option maxRecDepth 100000 in
theorem ai_k6 : ai_mk am_6 = true := by decide +kernel
set_option maxRecDepth 100000 in
theorem ai_k7 : ai_mk am_7 = true := by decide +kernel
set_option maxRecDepth 100000 in
theorem ai_k8 : ai_mk am_8 = true := by decide +kernel
set_option maxRecDepth 100000 in
theorem ai_k9 : ai_mk am_9 = true := by decide +kernel
set_option maxRecDepth 100000 in
theorem ai_k10 : ai_mk am_10 = true := by decide +kernel
set_option maxRecDepth 100000 in
theorem ai_k11 : ai_mk am_11 = true := by decide +kernel
set_option maxRecDepth 100000 in
theorem ai_k12 : ai_mk am_12 = true := by decide +kernel
set_option maxRecDepth 100000 in
theorem ai_k13 : ai_mk am_13 = true := by decide +kernel
set_option maxRecDepth 100000 in
theorem ai_k14 : ai_mk am_14 = true := by decide +kernel
set_option maxRecDepth 100000 in
theorem ai_k15 : ai_mk am_15 = true := by decide +kernel
set_option maxRecDepth 100000 in
theorem ai_k16 : ai_mk am_16 = true := by decide +kernel
set_option maxRecDepth 100000 in
theorem ai_k17 : ai_mk am_17 = true := by decide +kernel
set_option maxRecDepth 100000 in
theorem ai_k18 : ai_mk am_18 = true := by decide +kernel
set_option maxRecDepth 100000 in
theorem ai_k19 : ai_mk am_19 = true := by decide +kernel
set_option maxRecDepth 100000 in
theorem ai_k20 : ai_mk am_20 = true := by decide +kernel
set_option maxRecDepth 100000 in
theorem ai_k21 : ai_mk am_21 = true := by decide +kernel
set_option maxRecDepth 100000 in
theorem ai_k22 : ai_mk am_22 = true := by decide +kernel
set_option maxRecDepth 100000 in
theorem ai_k23 : ai_mk am_23 = true := by decide +kernel
set_option maxRecDepth 100000 in
theorem ai_k24 : ai_mk am_24 = true := by decide +kernel
set_option maxRecDepth 100000 in
theorem ai_k25 : ai_mk am_25 = true := by decide +kernel
set_option maxRecDepth 100000 in
theorem ai_k26 : ai_mk am_26 = true := by decide +kernel
set_option maxRecDepth 100000 in
theorem ai_k27 : ai_mk am_27 = true := by decide +kernel
set_option maxRecDepth 100000 in
theorem ai_k28 : ai_mk am_28 = true := by decide +kernel
set_option maxRecDepth 100000 in
theorem ai_k29 : ai_mk am_29 = true := by decide +kernel
set_option maxRecDepth 100000 in
theorem ai_k30 : ai_mk am_30 = true := by decide +kernel
set_option maxRecDepth 100000 in
theorem ai_k31 : ai_mk am_31 = true := by decide +kernel
set_option maxRecDepth 100000 in
theorem ai_k32 : ai_mk am_32 = true := by decide +kernel
set_option maxRecDepth 100000 in
theorem ai_k33 : ai_mk am_33 = true := by decide +kernel
set_option maxRecDepth 100000 in
theorem ai_k34 : ai_mk am_34 = true := by decide +kernel
set_option maxRecDepth 100000 in
theorem ai_k35 : ai_mk am_35 = true := by decide +kernel
set_option maxRecDepth 100000 in
theorem ai_k36 : ai_mk am_36 = true := by decide +kernel
set_option maxRecDepth 100000 in
theorem ai_k37 : ai_mk am_37 = true := by decide +kernel
set_option maxRecDepth 100000 in
theorem ai_k38 : ai_mk am_38 = true := by decide +kernel
set_option maxRecDepth 100000 in
theorem ai_k39 : ai_mk am_39 = true := by decide +kernel
set_option maxRecDepth 100000 in
theorem ai_k40 : ai_mk am_40 = true := by decide +kernel
set_option maxRecDepth 100000 in
theorem ai_k41 : ai_mk am_41 = true := by decide +kernel
set_option maxRecDepth 100000 in
theorem ai_k42 : ai_mk am_42 = true := by decide +kernel
set_option maxRecDepth 100000 in
theorem ai_k43 : ai_mk am_43 = true := by decide +kernel
set_option maxRecDepth 100000 in
theorem ai_k44 : ai_mk am_44 = true := by decide +kernel
set_option maxRecDepth 100000 in
theorem ai_k45 : ai_mk am_45 = true := by decide +kernel
set_option maxRecDepth 100000 in
theorem ai_k46 : ai_mk am_46 = true := by decide +kernel
set_option maxRecDepth 100000 in
theorem ai_k47 : ai_mk am_47 = true := by decide +kernel
set_option maxRecDepth 100000 in
theorem ai_k48 : ai_mk am_48 = true := by decide +kernel
set_option maxRecDepth 100000 in
theorem ai_k49 : ai_mk am_49 = true := by decide +kernel
set_option maxRecDepth 100000 in
theorem ai_k50 : ai_mk am_50 = true := by decide +kernel
set_option maxRecDepth 100000 in
theorem ai_k51 : ai_mk am_51 = true := by decide +kernel
set_option maxRecDepth 100000 in
theorem ai_k52 : ai_mk am_52 = true := by decide +kernel
set_option maxRecDepth 100000 in
theorem ai_k53 : ai_mk am_53 = true := by decide +kernel
set_option maxRecDepth 100000 in
theorem ai_k54 : ai_mk am_54 = true := by decide +kernel
set_option maxRecDepth 100000 in
theorem ai_k55 : ai_mk am_55 = true := by decide +kernel
set_option maxRecDepth 100000 in
theorem ai_k56 : ai_mk am_56 = true := by decide +kernel
set_option maxRecDepth 100000 in
theorem ai_k57 : ai_mk am_57 = true := by decide +kernel
set_option maxRecDepth 100000 in
theorem ai_k58 : ai_mk am_58 = true := by decide +kernel
set_option maxRecDepth 100000 in
theorem ai_k59 : ai_mk am_59 = true := by decide +kernel
end
section
/-! the tables hold, method by method -/
set_option maxRecDepth 100000 in
theorem ai_k60 : ai_mk am_60 = true := by decide +kernel
set_option maxRecDepth 100000 in
theorem ai_k61 : ai_mk am_61 = true := by decide +kernel
set_option maxRecDepth 100000 in
theorem ai_k62 : ai_mk am_62 = true := by decide +kernel
set_option maxRecDepth 100000 in
theorem ai_k63 : ai_mk am_63 = true := by decide +kernel
set_option maxRecDepth 100000 in
theorem ai_k64 : ai_mk am_64 = true := by decide +kernel
set_option maxRecDepth 100000 in
theorem ai_k65 : ai_mk am_65 = true := by decide +kernel
set_option maxRecDepth 100000 in
theorem ai_k66 : ai_mk am_66 = true := by decide +kernel
set_option maxRecDepth 100000 in
theorem ai_k67 : ai_mk am_67 = true := by decide +kernel
set_option maxRecDepth 100000 in
theorem ai_k68 : ai_mk am_68 = true := by decide +kernel
set_option maxRecDepth 100000 in
theorem ai_k69 : ai_mk am_69 = true := by decide +kernel
set_option maxRecDepth 100000 in
theorem ai_k70 : ai_mk am_70 = true := by decide +kernel
set_option maxRecDepth 100000 in
theorem ai_k71 : ai_mk am_71 = true := by decide +kernel
set_option maxRecDepth 100000 in
theorem ai_k72 : ai_mk am_72 = true := by decide +kernel
set_option maxRecDepth 100000 in
theorem ai_k73 : ai_mk am_73 = true := by decide +kernel
set_option maxRecDepth 100000 in
theorem ai_k74 : ai_mk am_74 = true := by decide +kernel
set_option maxRecDepth 100000 in
theorem ai_k75 : ai_mk am_75 = true := by decide +kernel
set_option maxRecDepth 100000 in
theorem ai_k76 : ai_mk am_76 = true := by decide +kernel
set_option maxRecDepth 100000 in
theorem ai_k77 : ai_mk am_77 = true := by decide +kernel
set_option maxRecDepth 100000 in
theorem ai_k78 : ai_mk am_78 = true := by decide +kernel
set_option maxRecDepth 100000 in
theorem ai_k79 : ai_mk am_79 = true := by decide +kernel
set_option maxRecDepth 100000 in
theorem ai_k80 : ai_mk am_80 = true := by decide +kernel
set_option maxRecDepth 100000 in
theorem ai_k81 : ai_mk am_81 = true := by decide +kernel
set_option maxRecDepth 100000 in
theorem ai_k82 : ai_mk am_82 = true := by decide +kernel
set_option maxRecDepth 100000 in
theorem ai_k83 : ai_mk am_83 = true := by decide +kernel
set_option maxRecDepth 100000 in
theorem ai_k84 : ai_mk am_84 = true := by decide +kernel
set_option maxRecDepth 100000 in
theorem ai_k85 : ai_mk am_85 = true := by decide +kernel
set_option maxRecDepth 100000 in
theorem ai_k86 : ai_mk am_86 = true := by decide +kernel
set_option maxRecDepth 100000 in
theorem ai_k87 : ai_mk am_87 = true := by decide +kernel
set_option maxRecDepth 100000 in
theorem ai_k88 : ai_mk am_88 = true := by decide +kernel
set_option maxRecDepth 100000 in
theorem ai_k89 : ai_mk am_89 = true := by decide +kernel
set_option maxRecDepth 100000 in
theorem ai_k90 : ai_mk am_90 = true := by decide +kernel
set_option maxRecDepth 100000 in
theorem ai_k91 : ai_mk am_91 = true := by decide +kernel
set_option maxRecDepth 100000 in
theorem ai_k92 : ai_mk am_92 = true := by decide +kernel
set_option maxRecDepth 100000 in
theorem ai_k93 : ai_mk am_93 = true := by decide +kernel
set_option maxRecDepth 100000 in
theorem ai_k94 : ai_mk am_94 = true := by decide +kernel
set_option maxRecDepth 100000 in
theorem ai_k95 : ai_mk am_95 = true := by decide +kernel
set_option maxRecDepth 100000 in
theorem ai_k96 : ai_mk am_96 = true := by decide +kernel
set_option maxRecDepth 100000 in
theorem ai_k97 : ai_mk am_97 = true := by decide +kernel
set_option maxRecDepth 100000 in
theorem ai_k98 : ai_mk am_98 = true := by decide +kernel
set_option maxRecDepth 100000 in
theorem ai_k99 : ai_mk am_99 = true := by decide +kernel
set_option maxRecDepth 100000 in
theorem ai_k100 : ai_mk am_100 = true := by decide +kernel
set_option maxRecDepth 100000 in
theorem ai_k101 : ai_mk am_101 = true := by decide +kernel
set_option maxRecDepth 100000 in
theorem ai_k102 : ai_mk am_102 = true := by decide +kernel
set_option maxRecDepth 100000 in
theorem ai_k103 : ai_mk am_103 = true := by decide +kernel
set_option maxRecDepth 100000 in
theorem ai_k104 : ai_mk am_104 = true := by decide +kernel
set_option maxRecDepth 100000 in
theorem ai_k105 : ai_mk am_105 = true := by decide +kernel
set_option maxRecDepth 100000 in
theorem ai_k106 : ai_mk am_106 = true := by decide +kernel
set_option maxRecDepth 100000 in
theorem ai_k107 : ai_mk am_107 = true := by decide +kernel
set_option maxRecDepth 100000 in
theorem ai_k108 : ai_mk am_108 = true := by decide +kernel
set_option maxRecDepth 100000 in
theorem ai_k109 : ai_mk am_109 = true := by decide +kernel
set_option maxRecDepth 100000 in
theorem ai_k110 : ai_mk am_110 = true := by decide +kernel
set_option maxRecDepth 100000 in
theorem ai_k111 : ai_mk am_111 = true := by decide +kernel
set_option maxRecDepth 100000 in
theorem ai_k112 : ai_mk am_112 = true := by decide +kernel
set_option maxRecDepth 100000 in
theorem ai_k113 : ai_mk am_113 = true := by decide +kernel
set_option maxRecDepth 100000 in
theorem ai_k114 : ai_mk am_114 = true := by decide +kernel
set_option maxRecDepth 100000 in
theorem ai_k115 : ai_mk am_115 = true := by decide +kernel
set_option maxRecDepth 100000 in
theorem ai_k116 : ai_mk am_116 = true := by decide +kernel
set_option maxRecDepth 100000 in
theorem ai_k117 : ai_mk am_117 = true := by decide +kernel
set_option maxRecDepth 100000 in
theorem ai_k118 : ai_mk am_118 = true := by decide +kernel
set_option maxRecDepth 100000 in
theorem ai_k119 : ai_mk am_119 = true := by decide +kernel
end
section
/-! the tables hold, method by method -/
set_option maxRecDepth 100000 in
theorem ai_k120 : ai_mk am_120 = true := by decide +kernel
set_option maxRecDepth 100000 in
theorem ai_k121 : ai_mk am_121 = true := by decide +kernel
set_option maxRecDepth 100000 in
theorem ai_k122 : ai_mk am_122 = true := by decide +kernel
set_option maxRecDepth 100000 in
theorem ai_k123 : ai_mk am_123 = true := by decide +kernel
set_option maxRecDepth 100000 in
theorem ai_k124 : ai_mk am_124 = true := by decide +kernel
set_option maxRecDepth 100000 in
theorem ai_k125 : ai_mk am_125 = true := by decide +kernel
set_option maxRecDepth 100000 in
theorem ai_k126 : ai_mk am_126 = true := by decide +kernel
set_option maxRecDepth 100000 in
theorem ai_k127 : ai_mk am_127 = true := by decide +kernel
set_option maxRecDepth 100000 in
theorem ai_k128 : ai_mk am_128 = true := by decide +kernel
set_option maxRecDepth 100000 in
theorem ai_k129 : ai_mk am_129 = true := by decide +kernel
set_option maxRecDepth 100000 in
theorem ai_k130 : ai_mk am_130 = true := by decide +kernel
set_option maxRecDepth 100000 in
theorem ai_k131 : ai_mk am_131 = true := by decide +kernel
set_option maxRecDepth 100000 in
theorem ai_k132 : ai_mk am_132 = true := by decide +kernel
set_option maxRecDepth 100000 in
theorem ai_k133 : ai_mk am_133 = true := by decide +kernel
set_option maxRecDepth 100000 in
theorem ai_k134 : ai_mk am_134 = true := by decide +kernel
set_option maxRecDepth 100000 in
theorem ai_k135 : ai_mk am_135 = true := by decide +kernel
set_option maxRecDepth 100000 in
theorem ai_k136 : ai_mk am_136 = true := by decide +kernel
set_option maxRecDepth 100000 in
theorem ai_k137 : ai_mk am_137 = true := by decide +kernel
set_option maxRecDepth 100000 in
theorem ai_k138 : ai_mk am_138 = true := by decide +kernel
set_option maxRecDepth 100000 in
theorem ai_k139 : ai_mk am_139 = true := by decide +kernel
set_option maxRecDepth 100000 in
theorem ai_k140 : ai_mk am_140 = true := by decide +kernel
set_option maxRecDepth 100000 in
theorem ai_k141 : ai_mk am_141 = true := by decide +kernel
set_option maxRecDepth 100000 in
theorem ai_k142 : ai_mk am_142 = true := by decide +kernel
set_option maxRecDepth 100000 in
theorem ai_k143 : ai_mk am_143 = true := by decide +kernel
set_option maxRecDepth 100000 in
theorem ai_k144 : ai_mk am_144 = true := by decide +kernel
set_option maxRecDepth 100000 in
theorem ai_k145 : ai_mk am_145 = true := by decide +kernel
set_option maxRecDepth 100000 in
theorem ai_k146 : ai_mk am_146 = true := by decide +kernel
set_option maxRecDepth 100000 in
theorem ai_k147 : ai_mk am_147 = true := by decide +kernel
set_option maxRecDepth 100000 in
theorem ai_k148 : ai_mk am_148 = true := by decide +kernel
set_option maxRecDepth 100000 in
theorem ai_k149 : ai_mk am_149 = true := by decide +kernel
set_option maxRecDepth 100000 in
theorem ai_k150 : ai_mk am_150 = true := by decide +kernel
set_option maxRecDepth 100000 in
theorem ai_k151 : ai_mk am_151 = true := by decide +kernel
set_option maxRecDepth 100000 in
theorem ai_k152 : ai_mk am_152 = true := by decide +kernel
set_option maxRecDepth 100000 in
theorem ai_k153 : ai_mk am_153 = true := by decide +kernel
set_option maxRecDepth 100000 in
theorem ai_k154 : ai_mk am_154 = true := by decide +kernel
set_option maxRecDepth 100000 in
theorem ai_k155 : ai_mk am_155 = true := by decide +kernel
set_option maxRecDepth 100000 in
theorem ai_k156 : ai_mk am_156 = true := by decide +kernel
set_option maxRecDepth 100000 in
theorem ai_k157 : ai_mk am_157 = true := by decide +kernel
set_option maxRecDepth 100000 in
theorem ai_k158 : ai_mk am_158 = true := by decide +kernel
set_option maxRecDepth 100000 in
theorem ai_k159 : ai_mk am_159 = true := by decide +kernel
set_option maxRecDepth 100000 in
theorem ai_k160 : ai_mk am_160 = true := by decide +kernel
set_option maxRecDepth 100000 in
theorem ai_k161 : ai_mk am_161 = true := by decide +kernel
set_option maxRecDepth 100000 in
theorem ai_k162 : ai_mk am_162 = true := by decide +kernel
set_option maxRecDepth 100000 in
theorem ai_k163 : ai_mk am_163 = true := by decide +kernel
set_option maxRecDepth 100000 in
theorem ai_k164 : ai_mk am_164 = true := by decide +kernel
set_option maxRecDepth 100000 in
theorem ai_k165 : ai_mk am_165 = true := by decide +kernel
set_option maxRecDepth 100000 in
theorem ai_k166 : ai_mk am_166 = true := by decide +kernel
set_option maxRecDepth 100000 in
theorem ai_k167 : ai_mk am_167 = true := by decide +kernel
set_option maxRecDepth 100000 in
theorem ai_k168 : ai_mk am_168 = true := by decide +kernel
set_option maxRecDepth 100000 in
theorem ai_k169 : ai_mk am_169 = true := by decide +kernel
set_option maxRecDepth 100000 in
theorem ai_k170 : ai_mk am_170 = true := by decide +kernel
set_option maxRecDepth 100000 in
theorem ai_k171 : ai_mk am_171 = true := by decide +kernel
set_option maxRecDepth 100000 in
theorem ai_k172 : ai_mk am_172 = true := by decide +kernel
set_option maxRecDepth 100000 in
theorem ai_k173 : ai_mk am_173 = true := by decide +kernel
set_option maxRecDepth 100000 in
theorem ai_k174 : ai_mk am_174 = true := by decide +kernel
set_option maxRecDepth 100000 in
theorem ai_k175 : ai_mk am_175 = true := by decide +kernel
set_option maxRecDepth 100000 in
theorem ai_k176 : ai_mk am_176 = true := by decide +kernel
set_option maxRecDepth 100000 in
theorem ai_k177 : ai_mk am_177 = true := by decide +kernel
set_option maxRecDepth 100000 in
theorem ai_k178 : ai_mk am_178 = true := by decide +kernel
set_option maxRecDepth 100000 in
theorem ai_k179 : ai_mk am_179 = true := by decide +kernel
end
section
/-! the tables hold, method by method -/
set_option maxRecDepth 100000 in
theorem ai_k180 : ai_mk am_180 = true := by decide +kernel
set_option maxRecDepth 100000 in
theorem ai_k181 : ai_mk am_181 = true := by decide +kernel
set_option maxRecDepth 100000 in
theorem ai_k182 : ai_mk am_182 = true := by decide +kernel
set_option maxRecDepth 100000 in
theorem ai_k183 : ai_mk am_183 = true := by decide +kernel
set_option maxRecDepth 100000 in
theorem ai_k184 : ai_mk am_184 = true := by decide +kernel
set_option maxRecDepth 100000 in
theorem ai_k185 : ai_mk am_185 = true := by decide +kernel
set_option maxRecDepth 100000 in
theorem ai_k186 : ai_mk am_186 = true := by decide +kernel
set_option maxRecDepth 100000 in
theorem ai_k187 : ai_mk am_187 = true := by decide +kernel
set_option maxRecDepth 100000 in
theorem ai_k188 : ai_mk am_188 = true := by decide +kernel
set_option maxRecDepth 100000 in
theorem ai_k189 : ai_mk am_189 = true := by decide +kernel
set_option maxRecDepth 100000 in
theorem ai_k190 : ai_mk am_190 = true := by decide +kernel
set_option maxRecDepth 100000 in
theorem ai_k191 : ai_mk am_191 = true := by decide +kernel
set_option maxRecDepth 100000 in
theorem ai_k192 : ai_mk am_192 = true := by decide +kernel
set_option maxRecDepth 100000 in
theorem ai_k193 : ai_mk am_193 = true := by decide +kernel
set_option maxRecDepth 100000 in
theorem ai_k194 : ai_mk am_194 = true := by decide +kernel
set_option maxRecDepth 100000 in
theorem ai_k195 : ai_mk am_195 = true := by decide +kernel
set_option maxRecDepth 100000 in
theorem ai_k196 : ai_mk am_196 = true := by decide +kernel
set_option maxRecDepth 100000 in
theorem ai_k197 : ai_mk am_197 = true := by decide +kernel
set_option maxRecDepth 100000 in
theorem ai_k198 : ai_mk am_198 = true := by decide +kernel
set_option maxRecDepth 100000 in
theorem ai_k199 : ai_mk am_199 = true := by decide +kernel
set_option maxRecDepth 100000 in
theorem ai_k200 : ai_mk am_200 = true := by decide +kernel
set_option maxRecDepth 100000 in
theorem ai_k201 : ai_mk am_201 = true := by decide +kernel
set_option maxRecDepth 100000 in
theorem ai_k202 : ai_mk am_202 = true := by decide +kernel
set_option maxRecDepth 100000 in
theorem ai_k203 : ai_mk am_203 = true := by decide +kernel
set_option maxRecDepth 100000 in
theorem ai_k204 : ai_mk am_204 = true := by decide +kernel
set_option maxRecDepth 100000 in
theorem ai_k205 : ai_mk am_205 = true := by decide +kernel
set_option maxRecDepth 100000 in
theorem ai_k206 : ai_mk am_206 = true := by decide +kernel
set_option maxRecDepth 100000 in
theorem ai_k207 : ai_mk am_207 = true := by decide +kernel
set_option maxRecDepth 100000 in
theorem ai_k208 : ai_mk am_208 = true := by decide +kernel
set_option maxRecDepth 100000 in
theorem ai_k209 : ai_mk am_209 = true := by decide +kernel
set_option maxRecDepth 100000 in
theorem ai_k210 : ai_mk am_210 = true := by decide +kernel
set_option maxRecDepth 100000 in
theorem ai_k211 : ai_mk am_211 = true := by decide +kernel
set_option maxRecDepth 100000 in
theorem ai_k212 : ai_mk am_212 = true := by decide +kernel
set_option maxRecDepth 100000 in
theorem ai_k213 : ai_mk am_213 = true := by decide +kernel
set_option maxRecDepth 100000 in
theorem ai_k214 : ai_mk am_214 = true := by decide +kernel
set_option maxRecDepth 100000 in
theorem ai_k215 : ai_mk am_215 = true := by decide +kernel
set_option maxRecDepth 100000 in
theorem ai_k216 : ai_mk am_216 = true := by decide +kernel
set_option maxRecDepth 100000 in
theorem ai_k217 : ai_mk am_217 = true := by decide +kernel
set_option maxRecDepth 100000 in
theorem ai_k218 : ai_mk am_218 = true := by decide +kernel
set_option maxRecDepth 100000 in
theorem ai_k219 : ai_mk am_219 = true := by decide +kernel
set_option maxRecDepth 100000 in
theorem ai_k220 : ai_mk am_220 = true := by decide +kernel
set_option maxRecDepth 100000 in
theorem ai_k221 : ai_mk am_221 = true := by decide +kernel
set_option maxRecDepth 100000 in
theorem ai_k222 : ai_mk am_222 = true := by decide +kernel
set_option maxRecDepth 100000 in
theorem ai_k223 : ai_mk am_223 = true := by decide +kernel
set_option maxRecDepth 100000 in
theorem ai_k224 : ai_mk am_224 = true := by decide +kernel
set_option maxRecDepth 100000 in
theorem ai_k225 : ai_mk am_225 = true := by decide +kernel
set_option maxRecDepth 100000 in
theorem ai_k226 : ai_mk am_226 = true := by decide +kernel
set_option maxRecDepth 100000 in
theorem ai_k227 : ai_mk am_227 = true := by decide +kernel
set_option maxRecDepth 100000 in
theorem ai_k228 : ai_mk am_228 = true := by decide +kernel
set_option maxRecDepth 100000 in
theorem ai_k229 : ai_mk am_229 = true := by decide +kernel
set_option maxRecDepth 100000 in
theorem ai_k230 : ai_mk am_230 = true := by decide +kernel
set_option maxRecDepth 100000 in
theorem ai_k231 : ai_mk am_231 = true := by decide +kernel
set_option maxRecDepth 100000 in
theorem ai_k232 : ai_mk am_232 = true := by decide +kernel
set_option maxRecDepth 100000 in
theorem ai_k233 : ai_mk am_233 = true := by decide +kernel
set_option maxRecDepth 100000 in
theorem ai_k234 : ai_mk am_234 = true := by decide +kernel
set_option maxRecDepth 100000 in
theorem ai_k235 : ai_mk am_235 = true := by decide +kernel
set_option maxRecDepth 100000 in
theorem ai_k236 : ai_mk am_236 = true := by decide +kernel
set_option maxRecDepth 100000 in
theorem ai_k237 : ai_mk am_237 = true := by decide +kernel
set_option maxRecDepth 100000 in
theorem ai_k238 : ai_mk am_238 = true := by decide +kernel
set_option maxRecDepth 100000 in
theorem ai_k239 : ai_mk am_239 = true := by decide +kernel
end
section
/-! the tables hold, method by method -/
set_option maxRecDepth 100000 in
theorem ai_k240 : ai_mk am_240 = true := by decide +kernel
set_option maxRecDepth 100000 in
theorem ai_k241 : ai_mk am_241 = true := by decide +kernel
set_option maxRecDepth 100000 in
theorem ai_k242 : ai_mk am_242 = true := by decide +kernel
set_option maxRecDepth 100000 in
theorem ai_k243 : ai_mk am_243 = true := by decide +kernel
set_option maxRecDepth 100000 in
theorem ai_k244 : ai_mk am_244 = true := by decide +kernel
set_option maxRecDepth 100000 in
theorem ai_k245 : ai_mk am_245 = true := by decide +kernel
set_option maxRecDepth 100000 in
theorem ai_k246 : ai_mk am_246 = true := by decide +kernel
set_option maxRecDepth 100000 in
theorem ai_k247 : ai_mk am_247 = true := by decide +kernel
set_option maxRecDepth 100000 in
theorem ai_k248 : ai_mk am_248 = true := by decide +kernel
set_option maxRecDepth 100000 in
theorem ai_k249 : ai_mk am_249 = true := by decide +kernel
set_option maxRecDepth 100000 in
theorem ai_k250 : ai_mk am_250 = true := by decide +kernel
set_option maxRecDepth 100000 in
theorem ai_k251 : ai_mk am_251 = true := by decide +kernel
set_option maxRecDepth 100000 in
theorem ai_k252 : ai_mk am_252 = true := by decide +kernel
set_option maxRecDepth 100000 in
theorem ai_k253 : ai_mk am_253 = true := by decide +kernel
set_option maxRecDepth 100000 in
theorem ai_k254 : ai_mk am_254 = true := by decide +kernel
set_option maxRecDepth 100000 in
theorem ai_k255 : ai_mk am_255 = true := by decide +kernel
set_option maxRecDepth 100000 in
theorem ai_k256 : ai_mk am_256 = true := by decide +kernel
set_option maxRecDepth 100000 in
theorem ai_k257 : ai_mk am_257 = true := by decide +kernel
set_option maxRecDepth 100000 in
theorem ai_k258 : ai_mk am_258 = true := by decide +kernel
set_option maxRecDepth 100000 in
theorem ai_k259 : ai_mk am_259 = true := by decide +kernel
set_option maxRecDepth 100000 in
theorem ai_k260 : ai_mk am_260 = true := by decide +kernel
set_option maxRecDepth 100000 in
theorem ai_k261 : ai_mk am_261 = true := by decide +kernel
set_option maxRecDepth 100000 in
theorem ai_k262 : ai_mk am_262 = true := by decide +kernel
set_option maxRecDepth 100000 in
theorem ai_k263 : ai_mk am_263 = true := by decide +kernel
set_option maxRecDepth 100000 in
theorem ai_k264 : ai_mk am_264 = true := by decide +kernel
set_option maxRecDepth 100000 in
theorem ai_k265 : ai_mk am_265 = true := by decide +kernel
set_option maxRecDepth 100000 in
theorem ai_k266 : ai_mk am_266 = true := by decide +kernel
set_option maxRecDepth 100000 in
theorem ai_k267 : ai_mk am_267 = true := by decide +kernel
set_option maxRecDepth 100000 in
theorem ai_k268 : ai_mk am_268 = true := by decide +kernel
set_option maxRecDepth 100000 in
theorem ai_k269 : ai_mk am_269 = true := by decide +kernel
set_option maxRecDepth 100000 in
theorem ai_k270 : ai_mk am_270 = true := by decide +kernel
set_option maxRecDepth 100000 in
theorem ai_k271 : ai_mk am_271 = true := by decide +kernel
set_option maxRecDepth 100000 in
theorem ai_k272 : ai_mk am_272 = true := by decide +kernel
set_option maxRecDepth 100000 in
theorem ai_k273 : ai_mk am_273 = true := by decide +kernel
set_option maxRecDepth 100000 in
theorem ai_k274 : ai_mk am_274 = true := by decide +kernel
set_option maxRecDepth 100000 in
theorem ai_k275 : ai_mk am_275 = true := by decide +kernel
set_option maxRecDepth 100000 in
theorem ai_k276 : ai_mk am_276 = true := by decide +kernel
set_option maxRecDepth 100000 in
theorem ai_k277 : ai_mk am_277 = true := by decide +kernel
set_option maxRecDepth 100000 in
theorem ai_k278 : ai_mk am_278 = true := by decide +kernel
set_option maxRecDepth 100000 in
theorem ai_k279 : ai_mk am_279 = true := by decide +kernel
set_option maxRecDepth 100000 in
theorem ai_k280 : ai_mk am_280 = true := by decide +kernel
set_option maxRecDepth 100000 in
theorem ai_k281 : ai_mk am_281 = true := by decide +kernel
set_option maxRecDepth 100000 in
theorem ai_k282 : ai_mk am_282 = true := by decide +kernel
set_option maxRecDepth 100000 in
theorem ai_k283 : ai_mk am_283 = true := by decide +kernel
set_option maxRecDepth 100000 in
theorem ai_k284 : ai_mk am_284 = true := by decide +kernel
set_option maxRecDepth 100000 in
theorem ai_k285 : ai_mk am_285 = true := by decide +kernel
set_option maxRecDepth 100000 in
theorem ai_k286 : ai_mk am_286 = true := by decide +kernel
set_option maxRecDepth 100000 in
theorem ai_k287 : ai_mk am_287 = true := by decide +kernel
set_option maxRecDepth 100000 in
theorem ai_k288 : ai_mk am_288 = true := by decide +kernel
set_option maxRecDepth 100000 in
theorem ai_k289 : ai_mk am_289 = true := by decide +kernel
set_option maxRecDepth 100000 in
theorem ai_k290 : ai_mk am_290 = true := by decide +kernel
set_option maxRecDepth 100000 in
theorem ai_k291 : ai_mk am_291 = true := by decide +kernel
set_option maxRecDepth 100000 in
theorem ai_k292 : ai_mk am_292 = true := by decide +kernel
end
section
/-! the law's own rows; and all of them -/
set_option maxRecDepth 100000 in
theorem ai_kl0 : ((ar_293.drop 0).take 60).all (ai_row am_293) = true := by decide +kernel
set_option maxRecDepth 100000 in
theorem ai_kl1 : ((ar_293.drop 60).take 60).all (ai_row am_293) = true := by decide +kernel
set_option maxRecDepth 100000 in
theorem ai_kl2 : ((ar_293.drop 120).take 60).all (ai_row am_293) = true := by decide +kernel
set_option maxRecDepth 100000 in
theorem ai_kl3 : ((ar_293.drop 180).take 60).all (ai_row am_293) = true := by decide +kernel
set_option maxRecDepth 100000 in
theorem ai_kl4 : ((ar_293.drop 240).take 60).all (ai_row am_293) = true := by decide +kernel
set_option maxRecDepth 100000 in
theorem ai_kl5 : ((ar_293.drop 300).take 60).all (ai_row am_293) = true := by decide +kernel
set_option maxRecDepth 100000 in
theorem ai_kl6 : ((ar_293.drop 360).take 60).all (ai_row am_293) = true := by decide +kernel
set_option maxRecDepth 100000 in
theorem ai_kl7 : ((ar_293.drop 420).take 60).all (ai_row am_293) = true := by decide +kernel
set_option maxRecDepth 100000 in
theorem ai_kl8 : ((ar_293.drop 480).take 60).all (ai_row am_293) = true := by decide +kernel
set_option maxRecDepth 100000 in
theorem ai_kl9 : ((ar_293.drop 540).take 60).all (ai_row am_293) = true := by decide +kernel
set_option maxRecDepth 100000 in
theorem ai_kl10 : ((ar_293.drop 600).take 60).all (ai_row am_293) = true := by decide +kernel
set_option maxRecDepth 100000 in
theorem ai_kl11 : ((ar_293.drop 660).take 60).all (ai_row am_293) = true := by decide +kernel
set_option maxRecDepth 100000 in
theorem ai_kl12 : ((ar_293.drop 720).take 60).all (ai_row am_293) = true := by decide +kernel
set_option maxRecDepth 100000 in
theorem ai_kl13 : ((ar_293.drop 780).take 60).all (ai_row am_293) = true := by decide +kernel
set_option maxRecDepth 100000 in
theorem ai_kl14 : ((ar_293.drop 840).take 60).all (ai_row am_293) = true := by decide +kernel
set_option maxRecDepth 100000 in
theorem ai_kl15 : ((ar_293.drop 900).take 60).all (ai_row am_293) = true := by decide +kernel
set_option maxRecDepth 100000 in
theorem ai_kl16 : ((ar_293.drop 960).take 60).all (ai_row am_293) = true := by decide +kernel
set_option maxRecDepth 100000 in
theorem ai_kl17 : ((ar_293.drop 1020).take 60).all (ai_row am_293) = true := by decide +kernel
set_option maxRecDepth 100000 in
theorem ai_kl18 : ((ar_293.drop 1080).take 60).all (ai_row am_293) = true := by decide +kernel
set_option maxRecDepth 100000 in
theorem ai_kl19 : ((ar_293.drop 1140).take 60).all (ai_row am_293) = true := by decide +kernel
set_option maxRecDepth 100000 in
theorem ai_kl20 : ((ar_293.drop 1200).take 60).all (ai_row am_293) = true := by decide +kernel
set_option maxRecDepth 100000 in
theorem ai_klc : ai_cont ar_293 = true := by decide +kernel
theorem ai_kl : ar_293.all (ai_row am_293) = true := by
  have sp : ∀ (i : Nat), (ar_293.drop i).all (ai_row am_293) = (((ar_293.drop i).take 60).all (ai_row am_293) && (ar_293.drop (i + 60)).all (ai_row am_293)) := by
    intro i
    conv => lhs; rw [← List.take_append_drop 60 (ar_293.drop i), List.all_append, List.drop_drop]
  show (ar_293.drop 0).all (ai_row am_293) = true
  rw [sp 0, ai_kl0, Bool.true_and, sp 60, ai_kl1, Bool.true_and, sp 120, ai_kl2, Bool.true_and, sp 180, ai_kl3, Bool.true_and, sp 240, ai_kl4, Bool.true_and, sp 300, ai_kl5, Bool.true_and, sp 360, ai_kl6, Bool.true_and, sp 420, ai_kl7, Bool.true_and, sp 480, ai_kl8, Bool.true_and, sp 540, ai_kl9, Bool.true_and, sp 600, ai_kl10, Bool.true_and, sp 660, ai_kl11, Bool.true_and, sp 720, ai_kl12, Bool.true_and, sp 780, ai_kl13, Bool.true_and, sp 840, ai_kl14, Bool.true_and, sp 900, ai_kl15, Bool.true_and, sp 960, ai_kl16, Bool.true_and, sp 1020, ai_kl17, Bool.true_and, sp 1080, ai_kl18, Bool.true_and, sp 1140, ai_kl19, Bool.true_and, sp 1200, ai_kl20, Bool.true_and]
  rfl
theorem ai_k293 : ai_mk am_293 = true := by
  have h : ai_mk am_293 = ((true || ai_mok am_293) && (ar_293.all (ai_row am_293) && ai_cont ar_293)) := rfl
  rw [h, ai_kl, ai_klc]; rfl
theorem ai_ck0 : [am_0, am_1, am_2, am_3, am_4, am_5, am_6, am_7, am_8, am_9, am_10, am_11, am_12, am_13, am_14, am_15, am_16, am_17, am_18, am_19].all ai_mk = true := by
  simp only [List.all_cons, List.all_nil, ai_k0, ai_k1, ai_k2, ai_k3, ai_k4, ai_k5, ai_k6, ai_k7, ai_k8, ai_k9, ai_k10, ai_k11, ai_k12, ai_k13, ai_k14, ai_k15, ai_k16, ai_k17, ai_k18, ai_k19, Bool.and_self]
theorem ai_ck1 : [am_20, am_21, am_22, am_23, am_24, am_25, am_26, am_27, am_28, am_29, am_30, am_31, am_32, am_33, am_34, am_35, am_36, am_37, am_38, am_39].all ai_mk = true := by
  simp only [List.all_cons, List.all_nil, ai_k20, ai_k21, ai_k22, ai_k23, ai_k24, ai_k25, ai_k26, ai_k27, ai_k28, ai_k29, ai_k30, ai_k31, ai_k32, ai_k33, ai_k34, ai_k35, ai_k36, ai_k37, ai_k38, ai_k39, Bool.and_self]
theorem ai_ck2 : [am_40, am_41, am_42, am_43, am_44, am_45, am_46, am_47, am_48, am_49, am_50, am_51, am_52, am_53, am_54, am_55, am_56, am_57, am_58, am_59].all ai_mk = true := by
  simp only [List.all_cons, List.all_nil, ai_k40, ai_k41, ai_k42, ai_k43, ai_k44, ai_k45, ai_k46, ai_k47, ai_k48, ai_k49, ai_k50, ai_k51, ai_k52, ai_k53, ai_k54, ai_k55, ai_k56, ai_k57, ai_k58, ai_k59, Bool.and_self]
theorem ai_ck3 : [am_60, am_61, am_62, am_63, am_64, am_65, am_66, am_67, am_68, am_69, am_70, am_71, am_72, am_73, am_74, am_75, am_76, am_77, am_78, am_79].all ai_mk = true := by
  simp only [List.all_cons, List.all_nil, ai_k60, ai_k61, ai_k62, ai_k63, ai_k64, ai_k65, ai_k66, ai_k67, ai_k68, ai_k69, ai_k70, ai_k71, ai_k72, ai_k73, ai_k74, ai_k75, ai_k76, ai_k77, ai_k78, ai_k79, Bool.and_self]
theorem ai_ck4 : [am_80, am_81, am_82, am_83, am_84, am_85, am_86, am_87, am_88, am_89, am_90, am_91, am_92, am_93, am_94, am_95, am_96, am_97, am_98, am_99].all ai_mk = true := by
  simp only [List.all_cons, List.all_nil, ai_k80, ai_k81, ai_k82, ai_k83, ai_k84, ai_k85, ai_k86, ai_k87, ai_k88, ai_k89, ai_k90, ai_k91, ai_k92, ai_k93, ai_k94, ai_k95, ai_k96, ai_k97, ai_k98, ai_k99, Bool.and_self]
theorem ai_ck5 : [am_100, am_101, am_102, am_103, am_104, am_105, am_106, am_107, am_108, am_109, am_110, am_111, am_112, am_113, am_114, am_115, am_116, am_117, am_118, am_119].all ai_mk = true := by
  simp only [List.all_cons, List.all_nil, ai_k100, ai_k101, ai_k102, ai_k103, ai_k104, ai_k105, ai_k106, ai_k107, ai_k108, ai_k109, ai_k110, ai_k111, ai_k112, ai_k113, ai_k114, ai_k115, ai_k116, ai_k117, ai_k118, ai_k119, Bool.and_self]
theorem ai_ck6 : [am_120, am_121, am_122, am_123, am_124, am_125, am_126, am_127, am_128, am_129, am_130, am_131, am_132, am_133, am_134, am_135, am_136, am_137, am_138, am_139].all ai_mk = true := by
  simp only [List.all_cons, List.all_nil, ai_k120, ai_k121, ai_k122, ai_k123, ai_k124, ai_k125, ai_k126, ai_k127, ai_k128, ai_k129, ai_k130, ai_k131, ai_k132, ai_k133, ai_k134, ai_k135, ai_k136, ai_k137, ai_k138, ai_k139, Bool.and_self]
theorem ai_ck7 : [am_140, am_141, am_142, am_143, am_144, am_145, am_146, am_147, am_148, am_149, am_150, am_151, am_152, am_153, am_154, am_155, am_156, am_157, am_158, am_159].all ai_mk = true := by
  simp only [List.all_cons, List.all_nil, ai_k140, ai_k141, ai_k142, ai_k143, ai_k144, ai_k145, ai_k146, ai_k147, ai_k148, ai_k149, ai_k150, ai_k151, ai_k152, ai_k153, ai_k154, ai_k155, ai_k156, ai_k157, ai_k158, ai_k159, Bool.and_self]
theorem ai_ck8 : [am_160, am_161, am_162, am_163, am_164, am_165, am_166, am_167, am_168, am_169, am_170, am_171, am_172, am_173, am_174, am_175, am_176, am_177, am_178, am_179].all ai_mk = true := by
  simp only [List.all_cons, List.all_nil, ai_k160, ai_k161, ai_k162, ai_k163, ai_k164, ai_k165, ai_k166, ai_k167, ai_k168, ai_k169, ai_k170, ai_k171, ai_k172, ai_k173, ai_k174, ai_k175, ai_k176, ai_k177, ai_k178, ai_k179, Bool.and_self]
theorem ai_ck9 : [am_180, am_181, am_182, am_183, am_184, am_185, am_186, am_187, am_188, am_189, am_190, am_191, am_192, am_193, am_194, am_195, am_196, am_197, am_198, am_199].all ai_mk = true := by
  simp only [List.all_cons, List.all_nil, ai_k180, ai_k181, ai_k182, ai_k183, ai_k184, ai_k185, ai_k186, ai_k187, ai_k188, ai_k189, ai_k190, ai_k191, ai_k192, ai_k193, ai_k194, ai_k195, ai_k196, ai_k197, ai_k198, ai_k199, Bool.and_self]
theorem ai_ck10 : [am_200, am_201, am_202, am_203, am_204, am_205, am_206, am_207, am_208, am_209, am_210, am_211, am_212, am_213, am_214, am_215, am_216, am_217, am_218, am_219].all ai_mk = true := by
  simp only [List.all_cons, List.all_nil, ai_k200, ai_k201, ai_k202, ai_k203, ai_k204, ai_k205, ai_k206, ai_k207, ai_k208, ai_k209, ai_k210, ai_k211, ai_k212, ai_k213, ai_k214, ai_k215, ai_k216, ai_k217, ai_k218, ai_k219, Bool.and_self]
theorem ai_ck11 : [am_220, am_221, am_222, am_223, am_224, am_225, am_226, am_227, am_228, am_229, am_230, am_231, am_232, am_233, am_234, am_235, am_236, am_237, am_238, am_239].all ai_mk = true := by
  simp only [List.all_cons, List.all_nil, ai_k220, ai_k221, ai_k222, ai_k223, ai_k224, ai_k225, ai_k226, ai_k227, ai_k228, ai_k229, ai_k230, ai_k231, ai_k232, ai_k233, ai_k234, ai_k235, ai_k236, ai_k237, ai_k238, ai_k239, Bool.and_self]
theorem ai_ck12 : [am_240, am_241, am_242, am_243, am_244, am_245, am_246, am_247, am_248, am_249, am_250, am_251, am_252, am_253, am_254, am_255, am_256, am_257, am_258, am_259].all ai_mk = true := by
  simp only [List.all_cons, List.all_nil, ai_k240, ai_k241, ai_k242, ai_k243, ai_k244, ai_k245, ai_k246, ai_k247, ai_k248, ai_k249, ai_k250, ai_k251, ai_k252, ai_k253, ai_k254, ai_k255, ai_k256, ai_k257, ai_k258, ai_k259, Bool.and_self]
theorem ai_ck13 : [am_260, am_261, am_262, am_263, am_264, am_265, am_266, am_267, am_268, am_269, am_270, am_271, am_272, am_273, am_274, am_275, am_276, am_277, am_278, am_279].all ai_mk = true := by
  simp only [List.all_cons, List.all_nil, ai_k260, ai_k261, ai_k262, ai_k263, ai_k264, ai_k265, ai_k266, ai_k267, ai_k268, ai_k269, ai_k270, ai_k271, ai_k272, ai_k273, ai_k274, ai_k275, ai_k276, ai_k277, ai_k278, ai_k279, Bool.and_self]
theorem ai_ck14 : [am_280, am_281, am_282, am_283, am_284, am_285, am_286, am_287, am_288, am_289, am_290, am_291, am_292, am_293].all ai_mk = true := by
  simp only [List.all_cons, List.all_nil, ai_k280, ai_k281, ai_k282, ai_k283, ai_k284, ai_k285, ai_k286, ai_k287, ai_k288, ai_k289, ai_k290, ai_k291, ai_k292, ai_k293, Bool.and_self]
theorem ai_ck_all : ai_mt.all ai_mk = true := by
  show ([am_0, am_1, am_2, am_3, am_4, am_5, am_6, am_7, am_8, am_9, am_10, am_11, am_12, am_13, am_14, am_15, am_16, am_17, am_18, am_19] ++ ([am_20, am_21, am_22, am_23, am_24, am_25, am_26, am_27, am_28, am_29, am_30, am_31, am_32, am_33, am_34, am_35, am_36, am_37, am_38, am_39] ++ ([am_40, am_41, am_42, am_43, am_44, am_45, am_46, am_47, am_48, am_49, am_50, am_51, am_52, am_53, am_54, am_55, am_56, am_57, am_58, am_59] ++ ([am_60, am_61, am_62, am_63, am_64, am_65, am_66, am_67, am_68, am_69, am_70, am_71, am_72, am_73, am_74, am_75, am_76, am_77, am_78, am_79] ++ ([am_80, am_81, am_82, am_83, am_84, am_85, am_86, am_87, am_88, am_89, am_90, am_91, am_92, am_93, am_94, am_95, am_96, am_97, am_98, am_99] ++ ([am_100, am_101, am_102, am_103, am_104, am_105, am_106, am_107, am_108, am_109, am_110, am_111, am_112, am_113, am_114, am_115, am_116, am_117, am_118, am_119] ++ ([am_120, am_121, am_122, am_123, am_124, am_125, am_126, am_127, am_128, am_129, am_130, am_131, am_132, am_133, am_134, am_135, am_136, am_137, am_138, am_139] ++ ([am_140, am_141, am_142, am_143, am_144, am_145, am_146, am_147, am_148, am_149, am_150, am_151, am_152, am_153, am_154, am_155, am_156, am_157, am_158, am_159] ++ ([am_160, am_161, am_162, am_163, am_164, am_165, am_166, am_167, am_168, am_169, am_170, am_171, am_172, am_173, am_174, am_175, am_176, am_177, am_178, am_179] ++ ([am_180, am_181, am_182, am_183, am_184, am_185, am_186, am_187, am_188, am_189, am_190, am_191, am_192, am_193, am_194, am_195, am_196, am_197, am_198, am_199] ++ ([am_200, am_201, am_202, am_203, am_204, am_205, am_206, am_207, am_208, am_209, am_210, am_211, am_212, am_213, am_214, am_215, am_216, am_217, am_218, am_219] ++ ([am_220, am_221, am_222, am_223, am_224, am_225, am_226, am_227, am_228, am_229, am_230, am_231, am_232, am_233, am_234, am_235, am_236, am_237, am_238, am_239] ++ ([am_240, am_241, am_242, am_243, am_244, am_245, am_246, am_247, am_248, am_249, am_250, am_251, am_252, am_253, am_254, am_255, am_256, am_257, am_258, am_259] ++ ([am_260, am_261, am_262, am_263, am_264, am_265, am_266, am_267, am_268, am_269, am_270, am_271, am_272, am_273, am_274, am_275, am_276, am_277, am_278, am_279] ++ ([am_280, am_281, am_282, am_283, am_284, am_285, am_286, am_287, am_288, am_289, am_290, am_291, am_292, am_293]))))))))))))))).all ai_mk = true
  simp only [List.all_append, ai_ck0, ai_ck1, ai_ck2, ai_ck3, ai_ck4, ai_ck5, ai_ck6, ai_ck7, ai_ck8, ai_ck9, ai_ck10, ai_ck11, ai_ck12, ai_ck13, ai_ck14, Bool.and_self]
theorem ai_ok_m : ∀ M ∈ ai_mt, (ai_mC M = 12 ∨ ai_mok M = true) ∧ ai_rk M = true := by
  intro M hM
  have h := List.all_eq_true.mp ai_ck_all M hM
  simpa only [ai_mk, Bool.and_eq_true, Bool.or_eq_true, decide_eq_true_eq] using h
end
section
/-! SOUNDNESS, the ground: values, locals and cells of the interpreter as the machine has them -/
def ai_cv (sa : Nat → Nat) (base : Nat) : Value → Value
  | .ref i => .ref (base + i)
  | .float k => .ref (sa k.toNat)
  | v => v
theorem ai_cv_cat (sa : Nat → Nat) (base : Nat) (v : Value) : (ai_cv sa base v).category = v.category := by cases v <;> rfl
theorem ai_is2_cat (v : Value) : ai_is2 (some v) = true ↔ v.category = 2 := by cases v <;> simp [ai_is2, Value.category]
def ai_lp (f : Value → Value) : Nat → ai_L → List (Nat × Value)
  | _, [] => []
  | i, none :: t => ai_lp f (i + 1) t
  | i, some v :: t => (i, f v) :: ai_lp f (i + 1) t
theorem ai_lp_mem {f : Value → Value} : ∀ {ls : ai_L} {i j : Nat} {w : Value}, (j, w) ∈ ai_lp f i ls ↔ ∃ (k : Nat) (v : Value), j = i + k ∧ ls[k]? = some (some v) ∧ w = f v := by
  intro ls
  induction ls with
  | nil => intro i j w; simp [ai_lp]
  | cons x t ih =>
    intro i j w
    have key : ((j, w) ∈ ai_lp f (i + 1) t) ↔ ∃ (k : Nat) (v : Value), j = i + (k + 1) ∧ (x :: t)[k + 1]? = some (some v) ∧ w = f v := by
      rw [ih]
      constructor
      · rintro ⟨k, v, h1, h2, h3⟩; exact ⟨k, v, by omega, by simpa using h2, h3⟩
      · rintro ⟨k, v, h1, h2, h3⟩; exact ⟨k, v, by omega, by simpa using h2, h3⟩
    cases x with
    | none =>
      show (j, w) ∈ ai_lp f (i + 1) t ↔ _
      rw [key]
      constructor
      · rintro ⟨k, v, h⟩; exact ⟨k + 1, v, h⟩
      · rintro ⟨k, v, h1, h2, h3⟩
        cases k with
        | zero => simp at h2
        | succ k => exact ⟨k, v, h1, h2, h3⟩
    | some y =>
      show (j, w) ∈ (i, f y) :: ai_lp f (i + 1) t ↔ _
      rw [List.mem_cons, key]
      constructor
      · rintro (h | ⟨k, v, h⟩)
        · cases h; exact ⟨0, y, by simp, by simp, rfl⟩
        · exact ⟨k + 1, v, h⟩
      · rintro ⟨k, v, h1, h2, h3⟩
        cases k with
        | zero =>
          have hv : y = v := by simpa using h2
          subst hv
          left
          rw [h3, h1]; rfl
        | succ k => exact Or.inr ⟨k, v, h1, h2, h3⟩
theorem ai_st_get {two : Bool} {i : Nat} {v : Value} : ∀ {ls : ai_L} {j k : Nat}, (ai_st two i v j ls)[k]? = (ls[k]?).map (fun x => if j + k = i then some v else if two = true ∧ j + k = i + 1 then none else if j + k + 1 = i ∧ ai_is2 x = true then none else x) := by
  intro ls
  induction ls with
  | nil => intro j k; simp [ai_st]
  | cons x t ih =>
    intro j k
    cases k with
    | zero => simp [ai_st]
    | succ k =>
      simp only [ai_st, List.getElem?_cons_succ, ih]
      rw [show j + 1 + k = j + (k + 1) by omega]
theorem ai_st_len {two : Bool} {i : Nat} {v : Value} : ∀ {ls : ai_L} {j : Nat}, (ai_st two i v j ls).length = ls.length := by
  intro ls
  induction ls with
  | nil => intro j; rfl
  | cons x t ih => intro j; simp [ai_st, ih]
/-- the machine's locals hold what the interpreter's do -/
def ai_LV (sa : Nat → Nat) (base n : Nat) (ls : ai_L) (lc : Array Slot) : Prop := ls.length = n ∧ lv_has lc n (ai_lp (ai_cv sa base) 0 ls)
theorem ai_LV.at {sa : Nat → Nat} {base n : Nat} {ls : ai_L} {lc : Array Slot} (h : ai_LV sa base n ls lc) {k : Nat} {v : Value} (hk : ls[k]? = some (some v)) : lc[k]? = some (.val (ai_cv sa base v)) :=
  h.2.2.2 (k, ai_cv sa base v) (ai_lp_mem.mpr ⟨k, v, by simp, hk, rfl⟩)
theorem ai_LV.st1 {sa : Nat → Nat} {base n i : Nat} {ls : ai_L} {lc lc' : Array Slot} {v : Value} (h : ai_LV sa base n ls lc) (h' : lv_has lc' n ((i, ai_cv sa base v) :: (ai_lp (ai_cv sa base) 0 ls).filter (fun q => !(q.1 == i) && !(q.1 + 1 == i && q.2.category == 2)))) : ai_LV sa base n (ai_st false i v 0 ls) lc' := by
  refine ⟨by rw [ai_st_len]; exact h.1, h'.1, h'.2.1, ?_⟩
  rintro ⟨j, w⟩ hq
  obtain ⟨k, u, hj, hk, hw⟩ := ai_lp_mem.mp hq
  rw [ai_st_get] at hk
  rw [Nat.zero_add] at hj
  subst hj
  obtain ⟨x, hx, hx2⟩ := Option.map_eq_some_iff.mp hk
  simp only [Nat.zero_add, Bool.false_eq_true, false_and, if_false] at hx2
  by_cases a : j = i
  · subst a
    rw [if_pos rfl] at hx2
    cases hx2
    exact h'.2.2 _ (by rw [hw]; exact List.mem_cons_self)
  · rw [if_neg a] at hx2
    by_cases b : j + 1 = i ∧ ai_is2 x = true
    · rw [if_pos b] at hx2; cases hx2
    · rw [if_neg b] at hx2
      subst hx2
      refine h'.2.2 _ (List.mem_cons_of_mem _ (List.mem_filter.mpr ⟨ai_lp_mem.mpr ⟨j, u, by simp, hx, hw⟩, ?_⟩))
      rw [ai_is2_cat] at b
      simp only [Bool.and_eq_true, Bool.not_eq_true', beq_eq_false_iff_ne, ne_eq, Bool.and_eq_false_iff]
      refine ⟨a, ?_⟩
      by_cases c : j + 1 = i
      · right; rw [hw, ai_cv_cat]; exact fun z => b ⟨c, z⟩
      · left; exact c
theorem ai_LV.st2 {sa : Nat → Nat} {base n i : Nat} {ls : ai_L} {lc lc' : Array Slot} {v : Value} (h : ai_LV sa base n ls lc) (h' : lv_has lc' n ((i, ai_cv sa base v) :: (ai_lp (ai_cv sa base) 0 ls).filter (fun q => !(q.1 == i) && (!(q.1 == i + 1) && !(q.1 + 1 == i && q.2.category == 2))))) : ai_LV sa base n (ai_st true i v 0 ls) lc' := by
  refine ⟨by rw [ai_st_len]; exact h.1, h'.1, h'.2.1, ?_⟩
  rintro ⟨j, w⟩ hq
  obtain ⟨k, u, hj, hk, hw⟩ := ai_lp_mem.mp hq
  rw [ai_st_get] at hk
  rw [Nat.zero_add] at hj
  subst hj
  obtain ⟨x, hx, hx2⟩ := Option.map_eq_some_iff.mp hk
  simp only [Nat.zero_add, true_and] at hx2
  by_cases a : j = i
  · subst a
    rw [if_pos rfl] at hx2
    cases hx2
    exact h'.2.2 _ (by rw [hw]; exact List.mem_cons_self)
  · rw [if_neg a] at hx2
    by_cases a2 : j = i + 1
    · rw [if_pos a2] at hx2; cases hx2
    rw [if_neg a2] at hx2
    by_cases b : j + 1 = i ∧ ai_is2 x = true
    · rw [if_pos b] at hx2; cases hx2
    · rw [if_neg b] at hx2
      subst hx2
      refine h'.2.2 _ (List.mem_cons_of_mem _ (List.mem_filter.mpr ⟨ai_lp_mem.mpr ⟨j, u, by simp, hx, hw⟩, ?_⟩))
      rw [ai_is2_cat] at b
      simp only [Bool.and_eq_true, Bool.not_eq_true', beq_eq_false_iff_ne, ne_eq, Bool.and_eq_false_iff]
      refine ⟨a, a2, ?_⟩
      by_cases c : j + 1 = i
      · right; rw [hw, ai_cv_cat]; exact fun z => b ⟨c, z⟩
      · left; exact c
/-- the locals at a method's entry -/
theorem ai_fl_len (f : Value → Value) (hf : ∀ v, (f v).category = v.category) (vs : List Value) : (lg_sl (vs.map f)).length = (ai_fl vs).length := by
  induction vs with
  | nil => rfl
  | cons v t ih =>
    simp only [lg_sl, List.map_cons, List.flatMap_cons, hf, ai_fl] at ih ⊢
    by_cases c : v.category = 2
    · simp [c, ih]
    · simp [c, ih]
theorem ai_lp_none (f : Value → Value) (n : Nat) : ∀ i, ai_lp f i (List.replicate n none) = [] := by
  induction n with
  | zero => intro i; rfl
  | succ n ih => intro i; simp [List.replicate_succ, ai_lp, ih]
theorem ai_lp_fl (f : Value → Value) (hf : ∀ v, (f v).category = v.category) (n : Nat) (vs : List Value) : ∀ i, ai_lp f i (ai_fl vs ++ List.replicate n none) = lv_args i (vs.map f) := by
  induction vs with
  | nil => intro i; simp [ai_fl, ai_lp_none, lv_args]
  | cons v t ih =>
    intro i
    simp only [ai_fl, List.map_cons, lv_args, hf]
    by_cases c : v.category = 2
    · simp [c, ai_lp, ih]
    · simp [c, ai_lp, ih]
theorem ai_LV.entry {sa : Nat → Nat} {base n : Nat} {vs : List Value} (h : (ai_fl vs).length ≤ n) : ai_LV sa base n (ai_loc n vs) (lg_sl (vs.map (ai_cv sa base)) ++ List.replicate (n - (lg_sl (vs.map (ai_cv sa base))).length) Slot.unset).toArray := by
  refine ⟨by simp [ai_loc]; omega, ?_⟩
  rw [ai_loc, ai_lp_fl _ (ai_cv_cat sa base)]
  exact lv_entry _ (by rw [ai_fl_len _ (ai_cv_cat sa base)]; exact h)
/-! cells -/
def ai_cE (cas : Nat → ClassId) (f : Value → Value) (base : Nat) : ai_C → va_E
  | .inl (t, n, .inr (.inr (.inr (.inr g)))) => .inl (cas t, n, .inr (.inr (.inr (.inr (fun k => (g k).map (fun a => base + a))))))
  | .inl (t, n, .inl g) => .inl (cas t, n, .inl g)
  | .inl (t, n, .inr (.inl g)) => .inl (cas t, n, .inr (.inl g))
  | .inl (t, n, .inr (.inr (.inl g))) => .inl (cas t, n, .inr (.inr (.inl g)))
  | .inl (t, n, .inr (.inr (.inr (.inl g)))) => .inl (cas t, n, .inr (.inr (.inr (.inl g))))
  | .inr (c, fs) => .inr (c, fs.map f)
def ai_W (cas : Nat → ClassId) (f : Value → Value) (base : Nat) : Nat → ai_H → va_W
  | _, [] => []
  | i, c :: t => (base + i, ai_cE cas f base c) :: ai_W cas f base (i + 1) t
theorem ai_W_get {cas : Nat → ClassId} {f : Value → Value} {base : Nat} : ∀ {h : ai_H} {i k : Nat}, (ai_W cas f base i h)[k]? = (h[k]?).map (fun c => (base + (i + k), ai_cE cas f base c)) := by
  intro h
  induction h with
  | nil => intro i k; simp [ai_W]
  | cons c t ih =>
    intro i k
    cases k with
    | zero => simp [ai_W]
    | succ k => simp only [ai_W, List.getElem?_cons_succ, ih]; rw [show i + 1 + k = i + (k + 1) by omega]
theorem ai_W_len {cas : Nat → ClassId} {f : Value → Value} {base : Nat} : ∀ {h : ai_H} {i : Nat}, (ai_W cas f base i h).length = h.length := by
  intro h
  induction h with
  | nil => intro i; rfl
  | cons c t ih => intro i; simp [ai_W, ih]
theorem ai_W_set {cas : Nat → ClassId} {f : Value → Value} {base : Nat} {c : ai_C} : ∀ {h : ai_H} {i k : Nat}, ai_W cas f base i (h.set k c) = (ai_W cas f base i h).set k (base + (i + k), ai_cE cas f base c) := by
  intro h
  induction h with
  | nil => intro i k; simp [ai_W]
  | cons d t ih =>
    intro i k
    cases k with
    | zero => simp [ai_W]
    | succ k => simp only [ai_W, List.set_cons_succ, ih]; rw [show i + 1 + k = i + (k + 1) by omega]
theorem ai_W_app {cas : Nat → ClassId} {f : Value → Value} {base : Nat} {c : ai_C} : ∀ {h : ai_H} {i : Nat}, ai_W cas f base i (h ++ [c]) = ai_W cas f base i h ++ [(base + (i + h.length), ai_cE cas f base c)] := by
  intro h
  induction h with
  | nil => intro i; simp [ai_W]
  | cons d t ih =>
    intro i
    simp only [ai_W, List.cons_append, ih, List.length_cons]
    rw [show i + 1 + t.length = i + (t.length + 1) by omega]
/-- the machine's heap holds the interpreter's cells from 'base' on, and below it what was there at the start -/
def ai_Rp (D : va_G) (cas : Nat → ClassId) (sa : Nat → Nat) (base : Nat) (Hb : Heap) (h : ai_H) (H : Heap) : Prop :=
  H.size = base + h.length ∧ va_P D ai_cl (ai_W cas (ai_cv sa base) base 0 h) H ∧ (∀ q : Nat, q < base → H[q]? = Hb[q]?) ∧ Hb.size = base
def ai_A (base : Nat) : Nat → Prop := fun q => base ≤ q
theorem ai_D {cas : Nat → ClassId} {f : Value → Value} {base : Nat} {h : ai_H} : va_D (ai_A base) (ai_W cas f base 0 h) := by
  refine ⟨fun i j p q hp hq e => ?_, fun k q hq => ?_⟩
  · rw [ai_W_get] at hp hq
    obtain ⟨x, -, rfl⟩ := Option.map_eq_some_iff.mp hp
    obtain ⟨y, -, rfl⟩ := Option.map_eq_some_iff.mp hq
    simp only at e
    omega
  · rw [ai_W_get] at hq
    obtain ⟨x, -, rfl⟩ := Option.map_eq_some_iff.mp hq
    exact Nat.le_add_right _ _
theorem ai_Rp.S {D : va_G} {cas : Nat → ClassId} {sa : Nat → Nat} {base : Nat} {Hb : Heap} {h : ai_H} {H : Heap} {locs : List Loc} (r : ai_Rp D cas sa base Hb h H) (hl : ∀ q ∈ locs, base ≤ q.base) : va_S (ai_A base) Hb H locs :=
  ⟨by rw [r.2.2.2, r.1]; omega, fun q h1 h2 => r.2.2.1 q (Nat.not_le.mp h2), hl⟩
theorem ai_Rp.of {D : va_G} {cas : Nat → ClassId} {sa : Nat → Nat} {base : Nat} {Hb : Heap} {h : ai_H} {H : Heap} {locs : List Loc} (hP : va_P D ai_cl (ai_W cas (ai_cv sa base) base 0 h) H) (hS : va_S (ai_A base) Hb H locs) (hb : Hb.size = base) (hne : h ≠ []) (hup : H.size ≤ base + h.length) : ai_Rp D cas sa base Hb h H := by
  refine ⟨?_, hP, fun q hq => hS.2.1 q (by omega) (Nat.not_le.mpr hq), hb⟩
  have hl : 0 < h.length := List.length_pos_iff.mpr hne
  obtain ⟨c, hc⟩ : ∃ c, h[h.length - 1]? = some c := ⟨_, List.getElem?_eq_getElem (by omega)⟩
  have hk := (hP (h.length - 1) _ (by rw [ai_W_get, hc]; rfl)).lt
  simp only at hk
  omega
section AIW
variable {p : Program} {l : Launch} {e : Env} {R : Room} {s : State} {m : MethodId} {args : Array Value} {below : List Frame} {meth : Method} {c : Code} {H : Heap} {locs : List Loc} {cells slots : Nat} {Q : State → Prop}
/-- the heap is no larger than what has been counted -/
theorem ai_szW {g : JFrame} (k : H.size ≤ s.heap.size + cells → W p l e R s m args below meth c H locs cells slots Q g) : W p l e R s m args below meth c H locs cells slots Q g :=
  fun T hT X => k (by rw [← hT]; exact X.heapSize) T hT X
end AIW
end
section
/-! SOUNDNESS of one step -/
def ai_tys (cas : Nat → ClassId) : List (ClassId × FieldType) := (List.range 6).map (fun k => (cas k, ai_ty.getD k .int))
theorem ai_tys_at {cas : Nat → ClassId} {k : Nat} {ty : FieldType} (h : ai_ty[k]? = some ty) : (ai_tys cas)[k]? = some (cas k, ty) := by
  have hl : k < 6 := (List.getElem?_eq_some_iff.mp h).1
  simp only [ai_tys, List.getElem?_map, List.getElem?_range hl, Option.map_some, List.getD_eq_getElem?_getD, h, Option.getD_some]
/-- what else is known of the tables: words that a callee's list may not hold -/
def ai_E (sa : Nat → Nat) (base : Nat) (Hb : Heap) (U : State) : Prop := (∀ p ∈ ai_nst, ∀ (a : String) (i : Nat) (y : MethodName) (b : String), lw_tbl[p]? = some (.methodLinkNest a i y b) → va_Nw (.methodLinkNest a i y b) U) ∧ (∀ (k : Nat) (C : String), ai_ty[k]? = some (.object C) → va_AO C U) ∧ (∀ (k : Nat) (q : String × Nat × String), ai_so[k]? = some q → vk_R q.1 q.2.1 q.2.2 (sa k) U) ∧ vk_S 11 ai_sl ai_sb sa (fun k => sa (200 + k)) (ai_A base) U Hb ∧ va_Z "java/lang/String" "COMPACT_STRINGS" "Z" (.int 1) (ai_A base) U Hb ∧ va_Zq "jdk/internal/util/Preconditions" "SIOOBE_FORMATTER" "Ljava/util/function/BiFunction;" (ai_A base) U Hb
theorem ai_E.warm {sa : Nat → Nat} {base : Nat} {Hb : Heap} {s U : State} (hW : s.WarmedH U.vm) (h : ai_E sa base Hb s) : ai_E sa base Hb U := ⟨fun p hp a i y b hw => (h.1 p hp a i y b hw).warmM hW, fun k C hk => (h.2.1 k C hk).moved hW.alike, fun k q hk => (h.2.2.1 k q hk).warm hW, h.2.2.2.1.moved hW.alike, h.2.2.2.2.1.moved hW.alike, h.2.2.2.2.2.moved hW.alike⟩
theorem ai_E.same {sa : Nat → Nat} {base : Nat} {Hb : Heap} {s U : State} (hv : U.vm = s.vm) (h : ai_E sa base Hb s) : ai_E sa base Hb U := ⟨fun p hp a i y b hw => (h.1 p hp a i y b hw).same rfl hv.symm, fun k C hk => (h.2.1 k C hk).moved (hv ▸ Vm.Alike.refl s.vm), fun k q hk => (h.2.2.1 k q hk).same hv, h.2.2.2.1.moved (hv ▸ Vm.Alike.refl s.vm), h.2.2.2.2.1.moved (hv ▸ Vm.Alike.refl s.vm), h.2.2.2.2.2.moved (hv ▸ Vm.Alike.refl s.vm)⟩
def ai_Cx (D : va_G) (cas : Nat → ClassId) (sa : Nat → Nat) (base : Nat) (Hb : Heap) (X : ai_X) (M : ai_M) (p : Program) (R : Room) (s : State) (m : MethodId) (args : Array Value) (meth : Method) (c : Code) : Prop :=
  p.tables.exec = Jvm.exec ∧ c.code = ai_mB M ∧ c.maxLocals = ai_mL M ∧ s.vm.findClass (ai_own M) = some m.cls ∧ (∀ w ∈ ai_gw, w.before args s = true) ∧ va_K D ai_cl (ai_tys cas) s ∧ (ai_mC M = 12 ∨ meth.name = (ai_mY M).name) ∧ ai_mF M ≤ R.frames ∧ ai_mO M ≤ R.locals ∧ ai_E sa base Hb s ∧ (ai_mC M = 12 → va_X (sa 99) X.1 X.2 s Hb ∧ sa 99 < base) ∧ ∀ q : Nat, q < base → s.heap[q]? = Hb[q]?
def ai_pc : List ai_R → Nat
  | [] => 0
  | r :: _ => r.1
theorem ai_seq {K : List ai_R} (hc : ai_cont K = true) {r : ai_R} {rs : List ai_R} (h : (r :: rs) <:+ K) (hne : rs ≠ []) : ai_pc rs = r.1 + r.2.2.1 := by
  obtain ⟨t, rfl⟩ := h
  cases rs with
  | nil => exact absurd rfl hne
  | cons r1 u =>
    show r1.1 = _
    induction t with
    | nil =>
      simp only [List.nil_append, ai_cont, Bool.and_eq_true, beq_iff_eq] at hc
      exact hc.1
    | cons x t ih =>
      cases t with
      | nil =>
        simp only [List.cons_append, List.nil_append, ai_cont, Bool.and_eq_true, beq_iff_eq] at hc
        exact hc.2.1
      | cons y t =>
        apply ih
        simp only [List.cons_append, ai_cont, Bool.and_eq_true] at hc ⊢
        exact hc.2
theorem ai_tg_ok {K : List ai_R} {pc a : Nat} {off : Int} {rt : List ai_R} (h : ai_tg K pc off a = some rt) : rt <:+ K ∧ (pc : Int) + off = (ai_pc rt : Int) := by
  unfold ai_tg at h
  split at h
  · rename_i r rs hd
    split at h
    · rename_i he
      cases h
      exact ⟨hd ▸ List.drop_suffix _ _, he⟩
    · cases h
  · cases h
theorem ai_tf_ok {K : List ai_R} {pc : Nat} {off : Int} {rt : List ai_R} (h : ai_tf K pc off = some rt) : rt <:+ K ∧ (pc : Int) + off = (ai_pc rt : Int) := by
  unfold ai_tf at h
  split at h
  · rename_i r rs hd
    split at h
    · rename_i he
      cases h
      exact ⟨hd ▸ List.dropWhile_suffix _, he⟩
    · cases h
  · cases h
theorem ai_W_at {cas : Nat → ClassId} {f : Value → Value} {base a : Nat} {h : ai_H} {c : ai_C} (hh : h[a]? = some c) : (ai_W cas f base 0 h)[a]? = some (base + a, ai_cE cas f base c) := by
  rw [ai_W_get, hh]
  simp
theorem ai_fit_ok {sa : Nat → Nat} {base : Nat} {ty : FieldType} {v : Value} (h : ai_fit ty v = true) : narrow ty (ai_cv sa base v) = ai_cv sa base v ∧ fits ty (ai_cv sa base v) = true := by
  cases ty <;> cases v <;> first | (exact ⟨rfl, rfl⟩) | (simp [ai_fit] at h)
theorem ai_va_up {f : Nat → Option Nat} {i base v : Nat} : (fun k => (va_up f i (some v) k).map (fun a => base + a)) = va_up (fun k => (f k).map (fun a => base + a)) i (some (base + v)) := by
  funext k
  by_cases h : k = i <;> simp [va_up, h]
theorem ai_rf_cv {sa : Nat → Nat} {base : Nat} (r : Option Nat) : va_rf (r.map (fun a => base + a)) = ai_cv sa base (va_rf r) := by cases r <;> rfl
theorem ai_cls {c : Nat} {q : vw_C} (h : ai_cl[c]? = some q) : (∀ w ∈ u_ws q.1 q.2.1 q.2.2, w ∈ ai_gw) ∧ (∀ k, k < q.2.2 → parseFieldDescriptor (q.2.1 k).2.2.1 = some ((parseFieldDescriptor (q.2.1 k).2.2.1).getD .int)) ∧ (∀ a, a < q.2.2 → ∀ b, b < q.2.2 → a ≠ b → (q.2.1 a).2.1 ≠ (q.2.1 b).2.1) ∧ Cond.instantiable q.1 q.2.2 ∈ ai_gw ∧ Cond.initialized q.1 ∈ ai_gw ∧ (ai_df.getD c []).length = q.2.2 ∧ ai_cn[c]? = some q.1 ∧ (∀ k, k < q.2.2 → defaultValue ((parseFieldDescriptor (q.2.1 k).2.2.1).getD .int) = vp_V (ai_df.getD c []) k) := by
  have hk := ai_ok_c c q h
  simp only [ai_cok, Bool.and_eq_true, List.all_eq_true, decide_eq_true_eq, List.mem_range] at hk
  obtain ⟨h1, h2, h3, h4, h5, h6⟩ := hk
  refine ⟨fun w hw => ?_, fun k hk => ?_, fun a ha b hb hab => ?_, ai_gw_of h2, ai_gw_of h3, h4, h5, fun k hk => ?_⟩
  · simp only [u_ws, List.mem_map, List.mem_range] at hw
    obtain ⟨k, hk, rfl⟩ := hw
    exact ai_gw_of (h1 k hk).1.1
  · obtain ⟨ty, hty⟩ := Option.isSome_iff_exists.mp (h1 k hk).1.2
    rw [hty]; rfl
  · rcases (h1 a ha).2 b hb with e | e
    · exact absurd e hab
    · exact e
  · have hx := h6 k hk
    obtain ⟨ty, hty⟩ := Option.isSome_iff_exists.mp (h1 k hk).1.2
    rw [hty] at hx ⊢
    exact Option.some.inj hx

section AISTP
variable {D : va_G} {cas : Nat → ClassId} {sa : Nat → Nat} {base : Nat} {Hb : Heap} {X : ai_X} {M : ai_M}
variable {p : Program} {l : Launch} {e : Env} {R : Room} {s : State} {m : MethodId} {args : Array Value} {below : List Frame} {meth : Method} {c : Code} {H : Heap} {locs : List Loc} {cells slots : Nat} {Q : State → Prop}
set_option maxHeartbeats 8000000 in
set_option maxRecDepth 20000 in
theorem ai_stp_ok (C : ai_Cx D cas sa base Hb X M p R s m args meth c) (hcont : ai_cont (ai_mR M) = true) {r : ai_R} {rs : List ai_R} (hrow : ai_row M r = true) (hsuf : (r :: rs) <:+ ai_mR M) {ls ls' : ai_L} {st st' : List Value} {h h' : ai_H} {rs' : List ai_R}
    (hstp : ai_stp X M r rs ls st h = some (rs', ls', st', h')) (hne : rs' ≠ []) {lc : Array Slot} (hLV : ai_LV sa base (ai_mL M) ls lc) (hR : ai_Rp D cas sa base Hb h H) (hlocs : ∀ q ∈ locs, base ≤ q.base) (hcnt : s.heap.size + cells = base + h.length)
    (kk : ∀ (lc' : Array Slot) (H' : Heap) (locs' : List Loc), rs' <:+ ai_mR M → ai_LV sa base (ai_mL M) ls' lc' → ai_Rp D cas sa base Hb h' H' → (∀ q ∈ locs', base ≤ q.base) → h'.length = h.length → W p l e R s m args below meth c H' locs' cells slots Q (F0 m (ai_pc rs') lc' (st'.map (ai_cv sa base)))) :
    W p l e R s m args below meth c H locs cells slots Q (F0 m r.1 lc (st.map (ai_cv sa base))) := by
  obtain ⟨hx, hb, hml, hown, hts, hK, hnm, hfr, hlo, hE, hX, hLo⟩ := C
  have hsq := ai_seq hcont hsuf
  have hs' : rs <:+ ai_mR M := (List.suffix_cons _ _).trans hsuf
  have hP := hR.2.1
  have hD : va_D (ai_A base) (ai_W cas (ai_cv sa base) base 0 h) := ai_D
  have hS := hR.S hlocs
  have hHb := hR.2.2.2
  have hLl := hLV.1
  obtain ⟨pc, ins, len, val, ra, rb, rp, rq⟩ := r
  simp only [ai_row, Bool.and_eq_true, decide_eq_true_eq] at hrow
  obtain ⟨hdg, hlen, hlnk⟩ := hrow
  simp only at hdg hlen hlnk hsq ⊢
  unfold ai_stp at hstp
  simp only at hstp
  split at hstp
  · obtain rfl : len = 1 := by simpa [ai_len] using hlen
    simp only [Option.some.injEq, Prod.mk.injEq] at hstp; obtain ⟨rfl, rfl, rfl, rfl⟩ := hstp
    have kq := fun lc1 H1 locs1 a b c d => hsq hne ▸ kk lc1 H1 locs1 hs' a b c d
    exact lv_iconst hx hb hdg rfl (kq lc H locs hLV hR hlocs rfl)
  · obtain rfl : len = 2 := by simpa [ai_len] using hlen
    simp only [Option.some.injEq, Prod.mk.injEq] at hstp; obtain ⟨rfl, rfl, rfl, rfl⟩ := hstp
    have kq := fun lc1 H1 locs1 a b c d => hsq hne ▸ kk lc1 H1 locs1 hs' a b c d
    exact lv_bipush hx hb hdg rfl (kq lc H locs hLV hR hlocs rfl)
  · obtain rfl : len = 3 := by simpa [ai_len] using hlen
    simp only [Option.some.injEq, Prod.mk.injEq] at hstp; obtain ⟨rfl, rfl, rfl, rfl⟩ := hstp
    have kq := fun lc1 H1 locs1 a b c d => hsq hne ▸ kk lc1 H1 locs1 hs' a b c d
    exact lv_sipush hx hb hdg rfl (kq lc H locs hLV hR hlocs rfl)
  · obtain rfl : len = 1 := by simpa [ai_len] using hlen
    simp only [Option.some.injEq, Prod.mk.injEq] at hstp; obtain ⟨rfl, rfl, rfl, rfl⟩ := hstp
    have kq := fun lc1 H1 locs1 a b c d => hsq hne ▸ kk lc1 H1 locs1 hs' a b c d
    exact lv_lconst hx hb hdg rfl (kq lc H locs hLV hR hlocs rfl)
  · obtain rfl : len = 2 := by simpa [ai_len] using hlen
    split at hstp
    · rename_i v
      simp only [Option.some.injEq, Prod.mk.injEq] at hstp; obtain ⟨rfl, rfl, rfl, rfl⟩ := hstp
      have kq := fun lc1 H1 locs1 a b c d => hsq hne ▸ kk lc1 H1 locs1 hs' a b c d
      exact lv_ldc hx hb hown (hts _ (ai_gw_of (by simpa [ai_lnk] using hlnk))) hdg (kq lc H locs hLV hR hlocs rfl)
    · rename_i v
      split at hstp
      · simp only [Option.some.injEq, Prod.mk.injEq] at hstp; obtain ⟨rfl, rfl, rfl, rfl⟩ := hstp
        have kq := fun lc1 H1 locs1 a b c d => hsq hne ▸ kk lc1 H1 locs1 hs' a b c d
        simp only [ai_lnk] at hlnk
        split at hlnk
        · rename_i q hq
          simp only [decide_eq_true_eq] at hlnk
          have hz := hE.2.2.1 _ q hq
          rw [hlnk.1, hlnk.2] at hz
          exact va_ldcS hx hb hown hz hdg (kq lc H locs hLV hR hlocs rfl)
        · cases hlnk
      · cases hstp
    · cases hstp
  · obtain rfl : len = 3 := by simpa [ai_len] using hlen
    split at hstp
    · rename_i v
      simp only [Option.some.injEq, Prod.mk.injEq] at hstp; obtain ⟨rfl, rfl, rfl, rfl⟩ := hstp
      have kq := fun lc1 H1 locs1 a b c d => hsq hne ▸ kk lc1 H1 locs1 hs' a b c d
      exact lv_ldcw hx hb hown (hts _ (ai_gw_of (by simpa [ai_lnk] using hlnk))) hdg (kq lc H locs hLV hR hlocs rfl)
    · cases hstp
  · obtain rfl : len = 3 := by simpa [ai_len] using hlen
    split at hstp
    · rename_i v
      simp only [Option.some.injEq, Prod.mk.injEq] at hstp; obtain ⟨rfl, rfl, rfl, rfl⟩ := hstp
      have kq := fun lc1 H1 locs1 a b c d => hsq hne ▸ kk lc1 H1 locs1 hs' a b c d
      exact lv_ldc2 hx hb hown (hts _ (ai_gw_of (by simpa [ai_lnk] using hlnk))) hdg (kq lc H locs hLV hR hlocs rfl)
    · cases hstp
  · obtain rfl : len = 1 := by simpa [ai_len] using hlen
    split at hstp
    · rename_i v hv
      simp only [Option.some.injEq, Prod.mk.injEq] at hstp; obtain ⟨rfl, rfl, rfl, rfl⟩ := hstp
      have kq := fun lc1 H1 locs1 a b c d => hsq hne ▸ kk lc1 H1 locs1 hs' a b c d
      exact lv_iload_n hx hb hdg rfl (hLV.at hv) (kq lc H locs hLV hR hlocs rfl)
    · cases hstp
  · obtain rfl : len = 2 := by simpa [ai_len] using hlen
    split at hstp
    · rename_i v hv
      simp only [Option.some.injEq, Prod.mk.injEq] at hstp; obtain ⟨rfl, rfl, rfl, rfl⟩ := hstp
      have kq := fun lc1 H1 locs1 a b c d => hsq hne ▸ kk lc1 H1 locs1 hs' a b c d
      exact lv_iload hx hb hdg (hLV.at hv) (kq lc H locs hLV hR hlocs rfl)
    · cases hstp
  · obtain rfl : len = 1 := by simpa [ai_len] using hlen
    split at hstp
    · rename_i v hv
      simp only [Option.some.injEq, Prod.mk.injEq] at hstp; obtain ⟨rfl, rfl, rfl, rfl⟩ := hstp
      have kq := fun lc1 H1 locs1 a b c d => hsq hne ▸ kk lc1 H1 locs1 hs' a b c d
      exact lv_lload_n hx hb hdg rfl (hLV.at hv) (kq lc H locs hLV hR hlocs rfl)
    · cases hstp
  · obtain rfl : len = 2 := by simpa [ai_len] using hlen
    split at hstp
    · rename_i v hv
      simp only [Option.some.injEq, Prod.mk.injEq] at hstp; obtain ⟨rfl, rfl, rfl, rfl⟩ := hstp
      have kq := fun lc1 H1 locs1 a b c d => hsq hne ▸ kk lc1 H1 locs1 hs' a b c d
      exact lv_lload hx hb hdg (hLV.at hv) (kq lc H locs hLV hR hlocs rfl)
    · cases hstp
  · obtain rfl : len = 1 := by simpa [ai_len] using hlen
    split at hstp
    · rename_i v hv
      simp only [Option.some.injEq, Prod.mk.injEq] at hstp; obtain ⟨rfl, rfl, rfl, rfl⟩ := hstp
      have kq := fun lc1 H1 locs1 a b c d => hsq hne ▸ kk lc1 H1 locs1 hs' a b c d
      exact lv_aload_n hx hb hdg rfl (hLV.at hv) (kq lc H locs hLV hR hlocs rfl)
    · rename_i v hv
      simp only [Option.some.injEq, Prod.mk.injEq] at hstp; obtain ⟨rfl, rfl, rfl, rfl⟩ := hstp
      have kq := fun lc1 H1 locs1 a b c d => hsq hne ▸ kk lc1 H1 locs1 hs' a b c d
      exact lv_aload_n hx hb hdg rfl (hLV.at hv) (kq lc H locs hLV hR hlocs rfl)
    · cases hstp
  · obtain rfl : len = 2 := by simpa [ai_len] using hlen
    split at hstp
    · rename_i v hv
      simp only [Option.some.injEq, Prod.mk.injEq] at hstp; obtain ⟨rfl, rfl, rfl, rfl⟩ := hstp
      have kq := fun lc1 H1 locs1 a b c d => hsq hne ▸ kk lc1 H1 locs1 hs' a b c d
      exact lv_aload hx hb hdg (hLV.at hv) (kq lc H locs hLV hR hlocs rfl)
    · rename_i v hv
      simp only [Option.some.injEq, Prod.mk.injEq] at hstp; obtain ⟨rfl, rfl, rfl, rfl⟩ := hstp
      have kq := fun lc1 H1 locs1 a b c d => hsq hne ▸ kk lc1 H1 locs1 hs' a b c d
      exact lv_aload hx hb hdg (hLV.at hv) (kq lc H locs hLV hR hlocs rfl)
    · cases hstp
  · obtain rfl : len = 1 := by simpa [ai_len] using hlen
    split at hstp
    · split at hstp
      · rename_i hi
        simp only [Option.some.injEq, Prod.mk.injEq] at hstp; obtain ⟨rfl, rfl, rfl, rfl⟩ := hstp
        have kq := fun lc1 H1 locs1 a b c d => hsq hne ▸ kk lc1 H1 locs1 hs' a b c d
        exact lv_istore_n hx hb hdg rfl hLV.2 (by rw [← hLl]; exact hi) rfl (fun lc1 h1 => kq lc1 H locs (hLV.st1 h1) hR hlocs rfl)
      · cases hstp
    · cases hstp
  · obtain rfl : len = 2 := by simpa [ai_len] using hlen
    split at hstp
    · split at hstp
      · rename_i hi
        simp only [Option.some.injEq, Prod.mk.injEq] at hstp; obtain ⟨rfl, rfl, rfl, rfl⟩ := hstp
        have kq := fun lc1 H1 locs1 a b c d => hsq hne ▸ kk lc1 H1 locs1 hs' a b c d
        exact lv_istore hx hb hdg hLV.2 (by rw [← hLl]; exact hi) rfl (fun lc1 h1 => kq lc1 H locs (hLV.st1 h1) hR hlocs rfl)
      · cases hstp
    · cases hstp
  · obtain rfl : len = 1 := by simpa [ai_len] using hlen
    split at hstp
    · split at hstp
      · rename_i hi
        simp only [Option.some.injEq, Prod.mk.injEq] at hstp; obtain ⟨rfl, rfl, rfl, rfl⟩ := hstp
        have kq := fun lc1 H1 locs1 a b c d => hsq hne ▸ kk lc1 H1 locs1 hs' a b c d
        exact lv_lstore_n hx hb hdg rfl hLV.2 (by rw [← hLl]; exact hi) rfl (fun lc1 h1 => kq lc1 H locs (hLV.st2 h1) hR hlocs rfl)
      · cases hstp
    · cases hstp
  · obtain rfl : len = 2 := by simpa [ai_len] using hlen
    split at hstp
    · split at hstp
      · rename_i hi
        simp only [Option.some.injEq, Prod.mk.injEq] at hstp; obtain ⟨rfl, rfl, rfl, rfl⟩ := hstp
        have kq := fun lc1 H1 locs1 a b c d => hsq hne ▸ kk lc1 H1 locs1 hs' a b c d
        exact lv_lstore hx hb hdg hLV.2 (by rw [← hLl]; exact hi) rfl (fun lc1 h1 => kq lc1 H locs (hLV.st2 h1) hR hlocs rfl)
      · cases hstp
    · cases hstp
  · obtain rfl : len = 1 := by simpa [ai_len] using hlen
    split at hstp
    · split at hstp
      · rename_i hi
        simp only [Option.some.injEq, Prod.mk.injEq] at hstp; obtain ⟨rfl, rfl, rfl, rfl⟩ := hstp
        have kq := fun lc1 H1 locs1 a b c d => hsq hne ▸ kk lc1 H1 locs1 hs' a b c d
        exact lv_astore_n hx hb hdg rfl hLV.2 (by rw [← hLl]; exact hi) rfl (fun lc1 h1 => kq lc1 H locs (hLV.st1 h1) hR hlocs rfl)
      · cases hstp
    · cases hstp
  · obtain rfl : len = 2 := by simpa [ai_len] using hlen
    split at hstp
    · split at hstp
      · rename_i hi
        simp only [Option.some.injEq, Prod.mk.injEq] at hstp; obtain ⟨rfl, rfl, rfl, rfl⟩ := hstp
        have kq := fun lc1 H1 locs1 a b c d => hsq hne ▸ kk lc1 H1 locs1 hs' a b c d
        exact lv_astore hx hb hdg hLV.2 (by rw [← hLl]; exact hi) rfl (fun lc1 h1 => kq lc1 H locs (hLV.st1 h1) hR hlocs rfl)
      · cases hstp
    · cases hstp
  · obtain rfl : len = 3 := by simpa [ai_len] using hlen
    split at hstp
    · rename_i v hv
      simp only [Option.some.injEq, Prod.mk.injEq] at hstp; obtain ⟨rfl, rfl, rfl, rfl⟩ := hstp
      have kq := fun lc1 H1 locs1 a b c d => hsq hne ▸ kk lc1 H1 locs1 hs' a b c d
      obtain ⟨k, hk⟩ := List.getElem?_of_mem (ai_lp_mem (f := ai_cv sa base) (i := 0).mpr ⟨_, _, (Nat.zero_add _).symm, hv, rfl⟩)
      exact lv_iinc hx hb hdg hLV.2 hk rfl (by rw [← hLl]; exact (List.getElem?_eq_some_iff.mp hv).1) rfl (fun lc1 h1 => kq lc1 H locs (hLV.st1 h1) hR hlocs rfl)
    · cases hstp
  · obtain rfl : len = 1 := by simpa [ai_len] using hlen
    split at hstp
    · simp only [Option.some.injEq, Prod.mk.injEq] at hstp; obtain ⟨rfl, rfl, rfl, rfl⟩ := hstp
      have kq := fun lc1 H1 locs1 a b c d => hsq hne ▸ kk lc1 H1 locs1 hs' a b c d
      exact lv_iadd hx hb hdg (kq lc H locs hLV hR hlocs rfl)
    · cases hstp
  · obtain rfl : len = 1 := by simpa [ai_len] using hlen
    split at hstp
    · simp only [Option.some.injEq, Prod.mk.injEq] at hstp; obtain ⟨rfl, rfl, rfl, rfl⟩ := hstp
      have kq := fun lc1 H1 locs1 a b c d => hsq hne ▸ kk lc1 H1 locs1 hs' a b c d
      exact lv_isub hx hb hdg (kq lc H locs hLV hR hlocs rfl)
    · cases hstp
  · obtain rfl : len = 1 := by simpa [ai_len] using hlen
    split at hstp
    · simp only [Option.some.injEq, Prod.mk.injEq] at hstp; obtain ⟨rfl, rfl, rfl, rfl⟩ := hstp
      have kq := fun lc1 H1 locs1 a b c d => hsq hne ▸ kk lc1 H1 locs1 hs' a b c d
      exact lv_imul hx hb hdg (kq lc H locs hLV hR hlocs rfl)
    · cases hstp
  · obtain rfl : len = 1 := by simpa [ai_len] using hlen
    split at hstp
    · simp only [Option.some.injEq, Prod.mk.injEq] at hstp; obtain ⟨rfl, rfl, rfl, rfl⟩ := hstp
      have kq := fun lc1 H1 locs1 a b c d => hsq hne ▸ kk lc1 H1 locs1 hs' a b c d
      exact lv_iand hx hb hdg (kq lc H locs hLV hR hlocs rfl)
    · cases hstp
  · obtain rfl : len = 1 := by simpa [ai_len] using hlen
    split at hstp
    · simp only [Option.some.injEq, Prod.mk.injEq] at hstp; obtain ⟨rfl, rfl, rfl, rfl⟩ := hstp
      have kq := fun lc1 H1 locs1 a b c d => hsq hne ▸ kk lc1 H1 locs1 hs' a b c d
      exact lv_ior hx hb hdg (kq lc H locs hLV hR hlocs rfl)
    · cases hstp
  · obtain rfl : len = 1 := by simpa [ai_len] using hlen
    split at hstp
    · simp only [Option.some.injEq, Prod.mk.injEq] at hstp; obtain ⟨rfl, rfl, rfl, rfl⟩ := hstp
      have kq := fun lc1 H1 locs1 a b c d => hsq hne ▸ kk lc1 H1 locs1 hs' a b c d
      exact lv_ixor hx hb hdg (kq lc H locs hLV hR hlocs rfl)
    · cases hstp
  · obtain rfl : len = 1 := by simpa [ai_len] using hlen
    split at hstp
    · split at hstp
      · cases hstp
      · rename_i hz
        simp only [Option.some.injEq, Prod.mk.injEq] at hstp; obtain ⟨rfl, rfl, rfl, rfl⟩ := hstp
        have kq := fun lc1 H1 locs1 a b c d => hsq hne ▸ kk lc1 H1 locs1 hs' a b c d
        exact lv_idiv hx hb hdg hz (kq lc H locs hLV hR hlocs rfl)
    · cases hstp
  · obtain rfl : len = 1 := by simpa [ai_len] using hlen
    split at hstp
    · split at hstp
      · cases hstp
      · rename_i hz
        simp only [Option.some.injEq, Prod.mk.injEq] at hstp; obtain ⟨rfl, rfl, rfl, rfl⟩ := hstp
        have kq := fun lc1 H1 locs1 a b c d => hsq hne ▸ kk lc1 H1 locs1 hs' a b c d
        exact lv_irem hx hb hdg hz (kq lc H locs hLV hR hlocs rfl)
    · cases hstp
  · obtain rfl : len = 1 := by simpa [ai_len] using hlen
    split at hstp
    · simp only [Option.some.injEq, Prod.mk.injEq] at hstp; obtain ⟨rfl, rfl, rfl, rfl⟩ := hstp
      have kq := fun lc1 H1 locs1 a b c d => hsq hne ▸ kk lc1 H1 locs1 hs' a b c d
      exact lv_ishl hx hb hdg (kq lc H locs hLV hR hlocs rfl)
    · cases hstp
  · obtain rfl : len = 1 := by simpa [ai_len] using hlen
    split at hstp
    · simp only [Option.some.injEq, Prod.mk.injEq] at hstp; obtain ⟨rfl, rfl, rfl, rfl⟩ := hstp
      have kq := fun lc1 H1 locs1 a b c d => hsq hne ▸ kk lc1 H1 locs1 hs' a b c d
      exact lv_ishr hx hb hdg (kq lc H locs hLV hR hlocs rfl)
    · cases hstp
  · obtain rfl : len = 1 := by simpa [ai_len] using hlen
    split at hstp
    · simp only [Option.some.injEq, Prod.mk.injEq] at hstp; obtain ⟨rfl, rfl, rfl, rfl⟩ := hstp
      have kq := fun lc1 H1 locs1 a b c d => hsq hne ▸ kk lc1 H1 locs1 hs' a b c d
      exact lv_iushr hx hb hdg rfl (kq lc H locs hLV hR hlocs rfl)
    · cases hstp
  · obtain rfl : len = 1 := by simpa [ai_len] using hlen
    split at hstp
    · simp only [Option.some.injEq, Prod.mk.injEq] at hstp; obtain ⟨rfl, rfl, rfl, rfl⟩ := hstp
      have kq := fun lc1 H1 locs1 a b c d => hsq hne ▸ kk lc1 H1 locs1 hs' a b c d
      exact lv_ladd hx hb hdg (kq lc H locs hLV hR hlocs rfl)
    · cases hstp
  · obtain rfl : len = 1 := by simpa [ai_len] using hlen
    split at hstp
    · simp only [Option.some.injEq, Prod.mk.injEq] at hstp; obtain ⟨rfl, rfl, rfl, rfl⟩ := hstp
      have kq := fun lc1 H1 locs1 a b c d => hsq hne ▸ kk lc1 H1 locs1 hs' a b c d
      exact lv_lmul hx hb hdg (kq lc H locs hLV hR hlocs rfl)
    · cases hstp
  · obtain rfl : len = 1 := by simpa [ai_len] using hlen
    split at hstp
    · simp only [Option.some.injEq, Prod.mk.injEq] at hstp; obtain ⟨rfl, rfl, rfl, rfl⟩ := hstp
      have kq := fun lc1 H1 locs1 a b c d => hsq hne ▸ kk lc1 H1 locs1 hs' a b c d
      exact lv_land hx hb hdg (kq lc H locs hLV hR hlocs rfl)
    · cases hstp
  · obtain rfl : len = 1 := by simpa [ai_len] using hlen
    split at hstp
    · simp only [Option.some.injEq, Prod.mk.injEq] at hstp; obtain ⟨rfl, rfl, rfl, rfl⟩ := hstp
      have kq := fun lc1 H1 locs1 a b c d => hsq hne ▸ kk lc1 H1 locs1 hs' a b c d
      exact lv_lor hx hb hdg (kq lc H locs hLV hR hlocs rfl)
    · cases hstp
  · obtain rfl : len = 1 := by simpa [ai_len] using hlen
    split at hstp
    · split at hstp
      · cases hstp
      · rename_i hz
        simp only [Option.some.injEq, Prod.mk.injEq] at hstp; obtain ⟨rfl, rfl, rfl, rfl⟩ := hstp
        have kq := fun lc1 H1 locs1 a b c d => hsq hne ▸ kk lc1 H1 locs1 hs' a b c d
        exact lv_ldiv hx hb hdg hz (kq lc H locs hLV hR hlocs rfl)
    · cases hstp
  · obtain rfl : len = 1 := by simpa [ai_len] using hlen
    split at hstp
    · split at hstp
      · cases hstp
      · rename_i hz
        simp only [Option.some.injEq, Prod.mk.injEq] at hstp; obtain ⟨rfl, rfl, rfl, rfl⟩ := hstp
        have kq := fun lc1 H1 locs1 a b c d => hsq hne ▸ kk lc1 H1 locs1 hs' a b c d
        exact lv_lrem hx hb hdg hz (kq lc H locs hLV hR hlocs rfl)
    · cases hstp
  · obtain rfl : len = 1 := by simpa [ai_len] using hlen
    split at hstp
    · simp only [Option.some.injEq, Prod.mk.injEq] at hstp; obtain ⟨rfl, rfl, rfl, rfl⟩ := hstp
      have kq := fun lc1 H1 locs1 a b c d => hsq hne ▸ kk lc1 H1 locs1 hs' a b c d
      exact lv_lshl hx hb hdg rfl (kq lc H locs hLV hR hlocs rfl)
    · cases hstp
  · obtain rfl : len = 1 := by simpa [ai_len] using hlen
    split at hstp
    · simp only [Option.some.injEq, Prod.mk.injEq] at hstp; obtain ⟨rfl, rfl, rfl, rfl⟩ := hstp
      have kq := fun lc1 H1 locs1 a b c d => hsq hne ▸ kk lc1 H1 locs1 hs' a b c d
      exact lv_lushr hx hb hdg rfl (kq lc H locs hLV hR hlocs rfl)
    · cases hstp
  · obtain rfl : len = 1 := by simpa [ai_len] using hlen
    split at hstp
    · simp only [Option.some.injEq, Prod.mk.injEq] at hstp; obtain ⟨rfl, rfl, rfl, rfl⟩ := hstp
      have kq := fun lc1 H1 locs1 a b c d => hsq hne ▸ kk lc1 H1 locs1 hs' a b c d
      exact W.lcmp hx hb hdg (kq lc H locs hLV hR hlocs rfl)
    · cases hstp
  · obtain rfl : len = 1 := by simpa [ai_len] using hlen
    split at hstp
    · simp only [Option.some.injEq, Prod.mk.injEq] at hstp; obtain ⟨rfl, rfl, rfl, rfl⟩ := hstp
      have kq := fun lc1 H1 locs1 a b c d => hsq hne ▸ kk lc1 H1 locs1 hs' a b c d
      exact lv_i2l hx hb hdg rfl (kq lc H locs hLV hR hlocs rfl)
    · cases hstp
  · obtain rfl : len = 1 := by simpa [ai_len] using hlen
    split at hstp
    · simp only [Option.some.injEq, Prod.mk.injEq] at hstp; obtain ⟨rfl, rfl, rfl, rfl⟩ := hstp
      have kq := fun lc1 H1 locs1 a b c d => hsq hne ▸ kk lc1 H1 locs1 hs' a b c d
      exact lv_l2i hx hb hdg rfl (kq lc H locs hLV hR hlocs rfl)
    · cases hstp
  · obtain rfl : len = 1 := by simpa [ai_len] using hlen
    split at hstp
    · simp only [Option.some.injEq, Prod.mk.injEq] at hstp; obtain ⟨rfl, rfl, rfl, rfl⟩ := hstp
      have kq := fun lc1 H1 locs1 a b c d => hsq hne ▸ kk lc1 H1 locs1 hs' a b c d
      exact lv_i2b hx hb hdg rfl (kq lc H locs hLV hR hlocs rfl)
    · cases hstp
  · obtain rfl : len = 1 := by simpa [ai_len] using hlen
    split at hstp
    · simp only [Option.some.injEq, Prod.mk.injEq] at hstp; obtain ⟨rfl, rfl, rfl, rfl⟩ := hstp
      have kq := fun lc1 H1 locs1 a b c d => hsq hne ▸ kk lc1 H1 locs1 hs' a b c d
      exact lv_i2s hx hb hdg rfl (kq lc H locs hLV hR hlocs rfl)
    · cases hstp
  · obtain rfl : len = 1 := by simpa [ai_len] using hlen
    split at hstp
    · simp only [Option.some.injEq, Prod.mk.injEq] at hstp; obtain ⟨rfl, rfl, rfl, rfl⟩ := hstp
      have kq := fun lc1 H1 locs1 a b c d => hsq hne ▸ kk lc1 H1 locs1 hs' a b c d
      exact lv_dup hx hb hdg rfl (kq lc H locs hLV hR hlocs rfl)
    · simp only [Option.some.injEq, Prod.mk.injEq] at hstp; obtain ⟨rfl, rfl, rfl, rfl⟩ := hstp
      have kq := fun lc1 H1 locs1 a b c d => hsq hne ▸ kk lc1 H1 locs1 hs' a b c d
      exact lv_dup hx hb hdg rfl (kq lc H locs hLV hR hlocs rfl)
    · cases hstp
  · obtain rfl : len = 1 := by simpa [ai_len] using hlen
    split at hstp
    · simp only [Option.some.injEq, Prod.mk.injEq] at hstp; obtain ⟨rfl, rfl, rfl, rfl⟩ := hstp
      have kq := fun lc1 H1 locs1 a b c d => hsq hne ▸ kk lc1 H1 locs1 hs' a b c d
      exact lv_dup2_11 hx hb hdg rfl rfl (kq lc H locs hLV hR hlocs rfl)
    · cases hstp
  · obtain rfl : len = 1 := by simpa [ai_len] using hlen
    split at hstp
    · rename_i v t
      simp only [Option.some.injEq, Prod.mk.injEq] at hstp; obtain ⟨rfl, rfl, rfl, rfl⟩ := hstp
      have kq := fun lc1 H1 locs1 a b c d => hsq hne ▸ kk lc1 H1 locs1 hs' a b c d
      exact lv_pop (va := .int v) hx hb hdg rfl (kq lc H locs hLV hR hlocs rfl)
    · cases hstp
  · obtain rfl : len = 1 := by simpa [ai_len] using hlen
    split at hstp
    · rename_i v t
      simp only [Option.some.injEq, Prod.mk.injEq] at hstp; obtain ⟨rfl, rfl, rfl, rfl⟩ := hstp
      have kq := fun lc1 H1 locs1 a b c d => hsq hne ▸ kk lc1 H1 locs1 hs' a b c d
      exact lv_pop2_2 (va := .long v) hx hb hdg rfl (kq lc H locs hLV hR hlocs rfl)
    · cases hstp
  · obtain rfl : len = 3 := by simpa [ai_len] using hlen
    split at hstp
    · rename_i rt hrt
      simp only [Option.some.injEq, Prod.mk.injEq] at hstp; obtain ⟨rfl, rfl, rfl, rfl⟩ := hstp
      obtain ⟨z1, z2⟩ := ai_tg_ok hrt
      exact lv_goto hx hb hdg z2 (kk lc H locs z1 hLV hR hlocs rfl)
    · cases hstp
  · obtain rfl : len = 3 := by simpa [ai_len] using hlen
    split at hstp
    · split at hstp
      · unfold ai_br at hstp
        split at hstp
        · rename_i rt hrt
          obtain ⟨z1, z2⟩ := ai_tg_ok hrt
          split at hstp
          · rename_i hc
            simp only [Option.some.injEq, Prod.mk.injEq] at hstp; obtain ⟨rfl, rfl, rfl, rfl⟩ := hstp
            exact lv_icmp_eq hx hb hdg z2 (fun _ => kk lc H locs z1 hLV hR hlocs rfl) (fun hn => absurd hc hn)
          · rename_i hc
            simp only [Option.some.injEq, Prod.mk.injEq] at hstp; obtain ⟨rfl, rfl, rfl, rfl⟩ := hstp
            have kq := fun lc1 H1 locs1 a b c d => hsq hne ▸ kk lc1 H1 locs1 hs' a b c d
            exact lv_icmp_eq hx hb hdg z2 (fun hn => absurd hn hc) (fun _ => (kq lc H locs hLV hR hlocs rfl))
        · cases hstp
      · unfold ai_br at hstp
        split at hstp
        · rename_i rt hrt
          obtain ⟨z1, z2⟩ := ai_tg_ok hrt
          split at hstp
          · rename_i hc
            simp only [Option.some.injEq, Prod.mk.injEq] at hstp; obtain ⟨rfl, rfl, rfl, rfl⟩ := hstp
            exact lv_icmp_ne hx hb hdg z2 (fun _ => kk lc H locs z1 hLV hR hlocs rfl) (fun hn => absurd hn hc)
          · rename_i hc
            simp only [Option.some.injEq, Prod.mk.injEq] at hstp; obtain ⟨rfl, rfl, rfl, rfl⟩ := hstp
            have kq := fun lc1 H1 locs1 a b c d => hsq hne ▸ kk lc1 H1 locs1 hs' a b c d
            exact lv_icmp_ne hx hb hdg z2 (fun hn => absurd hn hc) (fun _ => (kq lc H locs hLV hR hlocs rfl))
        · cases hstp
      · unfold ai_br at hstp
        split at hstp
        · rename_i rt hrt
          obtain ⟨z1, z2⟩ := ai_tg_ok hrt
          split at hstp
          · rename_i hc
            simp only [Option.some.injEq, Prod.mk.injEq] at hstp; obtain ⟨rfl, rfl, rfl, rfl⟩ := hstp
            exact lv_icmp_lt hx hb hdg z2 (fun _ => kk lc H locs z1 hLV hR hlocs rfl) (fun hn => absurd hc hn)
          · rename_i hc
            simp only [Option.some.injEq, Prod.mk.injEq] at hstp; obtain ⟨rfl, rfl, rfl, rfl⟩ := hstp
            have kq := fun lc1 H1 locs1 a b c d => hsq hne ▸ kk lc1 H1 locs1 hs' a b c d
            exact lv_icmp_lt hx hb hdg z2 (fun hn => absurd hn hc) (fun _ => (kq lc H locs hLV hR hlocs rfl))
        · cases hstp
      · unfold ai_br at hstp
        split at hstp
        · rename_i rt hrt
          obtain ⟨z1, z2⟩ := ai_tg_ok hrt
          split at hstp
          · rename_i hc
            simp only [Option.some.injEq, Prod.mk.injEq] at hstp; obtain ⟨rfl, rfl, rfl, rfl⟩ := hstp
            exact lv_icmp_ge hx hb hdg z2 (fun _ => kk lc H locs z1 hLV hR hlocs rfl) (fun hn => absurd hc hn)
          · rename_i hc
            simp only [Option.some.injEq, Prod.mk.injEq] at hstp; obtain ⟨rfl, rfl, rfl, rfl⟩ := hstp
            have kq := fun lc1 H1 locs1 a b c d => hsq hne ▸ kk lc1 H1 locs1 hs' a b c d
            exact lv_icmp_ge hx hb hdg z2 (fun hn => absurd hn hc) (fun _ => (kq lc H locs hLV hR hlocs rfl))
        · cases hstp
      · unfold ai_br at hstp
        split at hstp
        · rename_i rt hrt
          obtain ⟨z1, z2⟩ := ai_tg_ok hrt
          split at hstp
          · rename_i hc
            simp only [Option.some.injEq, Prod.mk.injEq] at hstp; obtain ⟨rfl, rfl, rfl, rfl⟩ := hstp
            exact lv_icmp_gt hx hb hdg z2 (fun _ => kk lc H locs z1 hLV hR hlocs rfl) (fun hn => absurd hc hn)
          · rename_i hc
            simp only [Option.some.injEq, Prod.mk.injEq] at hstp; obtain ⟨rfl, rfl, rfl, rfl⟩ := hstp
            have kq := fun lc1 H1 locs1 a b c d => hsq hne ▸ kk lc1 H1 locs1 hs' a b c d
            exact lv_icmp_gt hx hb hdg z2 (fun hn => absurd hn hc) (fun _ => (kq lc H locs hLV hR hlocs rfl))
        · cases hstp
      · unfold ai_br at hstp
        split at hstp
        · rename_i rt hrt
          obtain ⟨z1, z2⟩ := ai_tg_ok hrt
          split at hstp
          · rename_i hc
            simp only [Option.some.injEq, Prod.mk.injEq] at hstp; obtain ⟨rfl, rfl, rfl, rfl⟩ := hstp
            exact lv_icmp_le hx hb hdg z2 (fun _ => kk lc H locs z1 hLV hR hlocs rfl) (fun hn => absurd hc hn)
          · rename_i hc
            simp only [Option.some.injEq, Prod.mk.injEq] at hstp; obtain ⟨rfl, rfl, rfl, rfl⟩ := hstp
            have kq := fun lc1 H1 locs1 a b c d => hsq hne ▸ kk lc1 H1 locs1 hs' a b c d
            exact lv_icmp_le hx hb hdg z2 (fun hn => absurd hn hc) (fun _ => (kq lc H locs hLV hR hlocs rfl))
        · cases hstp
    · cases hstp
  · obtain rfl : len = 3 := by simpa [ai_len] using hlen
    split at hstp
    · split at hstp
      · unfold ai_br at hstp
        split at hstp
        · rename_i rt hrt
          obtain ⟨z1, z2⟩ := ai_tg_ok hrt
          split at hstp
          · rename_i hc
            simp only [Option.some.injEq, Prod.mk.injEq] at hstp; obtain ⟨rfl, rfl, rfl, rfl⟩ := hstp
            exact lv_if_eq hx hb hdg z2 (fun _ => kk lc H locs z1 hLV hR hlocs rfl) (fun hn => absurd hc hn)
          · rename_i hc
            simp only [Option.some.injEq, Prod.mk.injEq] at hstp; obtain ⟨rfl, rfl, rfl, rfl⟩ := hstp
            have kq := fun lc1 H1 locs1 a b c d => hsq hne ▸ kk lc1 H1 locs1 hs' a b c d
            exact lv_if_eq hx hb hdg z2 (fun hn => absurd hn hc) (fun _ => (kq lc H locs hLV hR hlocs rfl))
        · cases hstp
      · unfold ai_br at hstp
        split at hstp
        · rename_i rt hrt
          obtain ⟨z1, z2⟩ := ai_tg_ok hrt
          split at hstp
          · rename_i hc
            simp only [Option.some.injEq, Prod.mk.injEq] at hstp; obtain ⟨rfl, rfl, rfl, rfl⟩ := hstp
            exact lv_if_ne hx hb hdg z2 (fun _ => kk lc H locs z1 hLV hR hlocs rfl) (fun hn => absurd hn hc)
          · rename_i hc
            simp only [Option.some.injEq, Prod.mk.injEq] at hstp; obtain ⟨rfl, rfl, rfl, rfl⟩ := hstp
            have kq := fun lc1 H1 locs1 a b c d => hsq hne ▸ kk lc1 H1 locs1 hs' a b c d
            exact lv_if_ne hx hb hdg z2 (fun hn => absurd hn hc) (fun _ => (kq lc H locs hLV hR hlocs rfl))
        · cases hstp
      · unfold ai_br at hstp
        split at hstp
        · rename_i rt hrt
          obtain ⟨z1, z2⟩ := ai_tg_ok hrt
          split at hstp
          · rename_i hc
            simp only [Option.some.injEq, Prod.mk.injEq] at hstp; obtain ⟨rfl, rfl, rfl, rfl⟩ := hstp
            exact lv_if_lt hx hb hdg z2 (fun _ => kk lc H locs z1 hLV hR hlocs rfl) (fun hn => absurd hc hn)
          · rename_i hc
            simp only [Option.some.injEq, Prod.mk.injEq] at hstp; obtain ⟨rfl, rfl, rfl, rfl⟩ := hstp
            have kq := fun lc1 H1 locs1 a b c d => hsq hne ▸ kk lc1 H1 locs1 hs' a b c d
            exact lv_if_lt hx hb hdg z2 (fun hn => absurd hn hc) (fun _ => (kq lc H locs hLV hR hlocs rfl))
        · cases hstp
      · unfold ai_br at hstp
        split at hstp
        · rename_i rt hrt
          obtain ⟨z1, z2⟩ := ai_tg_ok hrt
          split at hstp
          · rename_i hc
            simp only [Option.some.injEq, Prod.mk.injEq] at hstp; obtain ⟨rfl, rfl, rfl, rfl⟩ := hstp
            exact lv_if_ge hx hb hdg z2 (fun _ => kk lc H locs z1 hLV hR hlocs rfl) (fun hn => absurd hc hn)
          · rename_i hc
            simp only [Option.some.injEq, Prod.mk.injEq] at hstp; obtain ⟨rfl, rfl, rfl, rfl⟩ := hstp
            have kq := fun lc1 H1 locs1 a b c d => hsq hne ▸ kk lc1 H1 locs1 hs' a b c d
            exact lv_if_ge hx hb hdg z2 (fun hn => absurd hn hc) (fun _ => (kq lc H locs hLV hR hlocs rfl))
        · cases hstp
      · unfold ai_br at hstp
        split at hstp
        · rename_i rt hrt
          obtain ⟨z1, z2⟩ := ai_tg_ok hrt
          split at hstp
          · rename_i hc
            simp only [Option.some.injEq, Prod.mk.injEq] at hstp; obtain ⟨rfl, rfl, rfl, rfl⟩ := hstp
            exact lv_if_gt hx hb hdg z2 (fun _ => kk lc H locs z1 hLV hR hlocs rfl) (fun hn => absurd hc hn)
          · rename_i hc
            simp only [Option.some.injEq, Prod.mk.injEq] at hstp; obtain ⟨rfl, rfl, rfl, rfl⟩ := hstp
            have kq := fun lc1 H1 locs1 a b c d => hsq hne ▸ kk lc1 H1 locs1 hs' a b c d
            exact lv_if_gt hx hb hdg z2 (fun hn => absurd hn hc) (fun _ => (kq lc H locs hLV hR hlocs rfl))
        · cases hstp
      · unfold ai_br at hstp
        split at hstp
        · rename_i rt hrt
          obtain ⟨z1, z2⟩ := ai_tg_ok hrt
          split at hstp
          · rename_i hc
            simp only [Option.some.injEq, Prod.mk.injEq] at hstp; obtain ⟨rfl, rfl, rfl, rfl⟩ := hstp
            exact lv_if_le hx hb hdg z2 (fun _ => kk lc H locs z1 hLV hR hlocs rfl) (fun hn => absurd hc hn)
          · rename_i hc
            simp only [Option.some.injEq, Prod.mk.injEq] at hstp; obtain ⟨rfl, rfl, rfl, rfl⟩ := hstp
            have kq := fun lc1 H1 locs1 a b c d => hsq hne ▸ kk lc1 H1 locs1 hs' a b c d
            exact lv_if_le hx hb hdg z2 (fun hn => absurd hn hc) (fun _ => (kq lc H locs hLV hR hlocs rfl))
        · cases hstp
    · cases hstp
  · obtain rfl : len = 3 := by simpa [ai_len] using hlen
    split at hstp
    · simp only [Option.some.injEq, Prod.mk.injEq] at hstp; obtain ⟨rfl, rfl, rfl, rfl⟩ := hstp
      have kq := fun lc1 H1 locs1 a b c d => hsq hne ▸ kk lc1 H1 locs1 hs' a b c d
      exact lv_ifnull hx hb hdg (kq lc H locs hLV hR hlocs rfl)
    · split at hstp
      · rename_i rt hrt
        simp only [Option.some.injEq, Prod.mk.injEq] at hstp; obtain ⟨rfl, rfl, rfl, rfl⟩ := hstp
        obtain ⟨z1, z2⟩ := ai_tg_ok hrt
        exact lv_ifnullN hx hb hdg z2 (kk lc H locs z1 hLV hR hlocs rfl)
      · cases hstp
    · cases hstp
  · obtain rfl : len = 3 := by simpa [ai_len] using hlen
    split at hstp
    · simp only [Option.some.injEq, Prod.mk.injEq] at hstp; obtain ⟨rfl, rfl, rfl, rfl⟩ := hstp
      have kq := fun lc1 H1 locs1 a b c d => hsq hne ▸ kk lc1 H1 locs1 hs' a b c d
      exact lv_ifnonnullN hx hb hdg (kq lc H locs hLV hR hlocs rfl)
    · split at hstp
      · rename_i rt hrt
        simp only [Option.some.injEq, Prod.mk.injEq] at hstp; obtain ⟨rfl, rfl, rfl, rfl⟩ := hstp
        obtain ⟨z1, z2⟩ := ai_tg_ok hrt
        exact lv_ifnonnull hx hb hdg z2 (kk lc H locs z1 hLV hR hlocs rfl)
      · cases hstp
    · cases hstp
  · split at hstp
    · split at hstp
      · rename_i ho
        split at hstp
        · rename_i rt hrt
          simp only [Option.some.injEq, Prod.mk.injEq] at hstp; obtain ⟨rfl, rfl, rfl, rfl⟩ := hstp
          obtain ⟨z1, z2⟩ := ai_tf_ok hrt
          exact lv_tableOut hx hb hdg ho z2 (kk lc H locs z1 hLV hR hlocs rfl)
        · cases hstp
      · rename_i ho
        split at hstp
        · rename_i off hoff
          split at hstp
          · rename_i rt hrt
            simp only [Option.some.injEq, Prod.mk.injEq] at hstp; obtain ⟨rfl, rfl, rfl, rfl⟩ := hstp
            obtain ⟨z1, z2⟩ := ai_tf_ok hrt
            exact lv_tableIn hx hb hdg (fun z => ho (Or.inl z)) (fun z => ho (Or.inr z)) hoff z2 (kk lc H locs z1 hLV hR hlocs rfl)
          · cases hstp
        · cases hstp
    · cases hstp
  · obtain rfl : len = 3 := by simpa [ai_len] using hlen
    split at hstp
    · split at hstp
      · rename_i fc fs hh
        split at hstp
        · rename_i hc
          subst hc
          split at hstp
          · rename_i v hv
            simp only [Option.some.injEq, Prod.mk.injEq] at hstp; obtain ⟨rfl, rfl, rfl, rfl⟩ := hstp
            have kq := fun lc1 H1 locs1 a b c d => hsq hne ▸ kk lc1 H1 locs1 hs' a b c d
            simp only [ai_lnk] at hlnk
            split at hlnk
            · rename_i q hq
              simp only [Bool.and_eq_true, decide_eq_true_eq] at hlnk
              exact va_get (D := D) (C := q.1) (T := q.2.1) (N := q.2.2) hx hb hts (ai_cls hq).1 hown hK hP _ (ai_W_at hh) hq _ hlnk.1 (hts _ (ai_gw_of hlnk.2)) (fun _ h9 => h9) (by rw [List.getElem?_map, hv]; rfl) hdg (kq lc H locs hLV hR hlocs rfl)
            · cases hlnk
          · cases hstp
        · cases hstp
      · cases hstp
    · cases hstp
  · obtain rfl : len = 3 := by simpa [ai_len] using hlen
    split at hstp
    · split at hstp
      · rename_i fc fs hh
        split at hstp
        · rename_i hc
          split at hstp
          · rename_i ty hty0
            split at hstp
            · rename_i hf
              simp only [Option.some.injEq, Prod.mk.injEq] at hstp; obtain ⟨rfl, rfl, rfl, rfl⟩ := hstp
              have kq := fun lc1 H1 locs1 a b c d => hsq hne ▸ kk lc1 H1 locs1 hs' a b c d
              obtain ⟨hc1, hc2⟩ := hc
              have hc := And.intro hc1 hc2
              subst hc1
              simp only [ai_lnk] at hlnk
              split at hlnk
              · rename_i q hq
                simp only [Bool.and_eq_true, decide_eq_true_eq] at hlnk
                have hty : parseFieldDescriptor (q.2.1 rb).2.2.1 = some ty := by simpa [ai_fty, hq, hlnk.1] using hty0
                cases hfin : (q.2.1 rb).2.2.2 with
                | false => exact va_put (D := D) (C := q.1) (T := q.2.1) (N := q.2.2) hx hb hts (ai_cls hq).1 _ (ai_cls hq).2.1 (ai_cls hq).2.2.1 hown hK hP hD hS _ (ai_W_at hh) hq _ hlnk.1 (hts _ (ai_gw_of hlnk.2.2)) (fun _ h9 => h9) hfin hty (ai_fit_ok hf.1).1 (ai_fit_ok hf.1).2 (by rw [List.length_map]; exact hc.2) hdg (fun H1 locs1 hP1 hD1 hS1 => ai_szW fun hup => kq lc H1 locs1 hLV (ai_Rp.of (locs := locs1) (by rw [ai_W_set]; simpa [ai_cE, List.map_set] using hP1) hS1 hHb (by intro z; simp at z; subst z; simp at hh) (by rw [List.length_set]; omega)) hS1.2.2 (by rw [List.length_set]))
                | true =>
                  have hff : ai_ffin fc rb = true := by simpa [ai_ffin, hq] using hfin
                  obtain ⟨g1, g2⟩ : (ai_mY M).name = "<init>" ∧ fc = ai_mC M := hf.2.elim (fun z => by rw [hff] at z; cases z) id
                  have ho : (q.2.1 rb).1 = ai_own M := by rw [hlnk.2.1, ai_own, ← g2, List.getD_eq_getElem?_getD, (ai_cls hq).2.2.2.2.2.2.1]; rfl
                  exact va_putF (D := D) (C := q.1) (T := q.2.1) (N := q.2.2) hx hb hts (ai_cls hq).1 _ (ai_cls hq).2.1 (ai_cls hq).2.2.1 hown hK hP hD hS _ (ai_W_at hh) hq _ hlnk.1 (hts _ (ai_gw_of hlnk.2.2)) (fun _ h9 => h9) hfin ((hnm.resolve_left (fun z => by rw [g2, z] at hq; cases hq)).trans g1) ho hty (ai_fit_ok hf.1).1 (ai_fit_ok hf.1).2 (by rw [List.length_map]; exact hc.2) hdg (fun H1 locs1 hP1 hD1 hS1 => ai_szW fun hup => kq lc H1 locs1 hLV (ai_Rp.of (locs := locs1) (by rw [ai_W_set]; simpa [ai_cE, List.map_set] using hP1) hS1 hHb (by intro z; simp at z; subst z; simp at hh) (by rw [List.length_set]; omega)) hS1.2.2 (by rw [List.length_set]))
              · cases hlnk
            · cases hstp
          · cases hstp
        · cases hstp
      · cases hstp
    · cases hstp
  · obtain rfl : len = 1 := by simpa [ai_len] using hlen
    split at hstp
    · split at hstp
      · rename_i k x hh
        split at hstp
        · rename_i hk
          simp only [Option.some.injEq, Prod.mk.injEq] at hstp; obtain ⟨rfl, rfl, rfl, rfl⟩ := hstp
          have kq := fun lc1 H1 locs1 a b c d => hsq hne ▸ kk lc1 H1 locs1 hs' a b c d
          obtain ⟨ty, hty⟩ : ∃ ty, ai_ty[k]? = some ty := ⟨_, List.getElem?_eq_getElem hk⟩
          obtain ⟨n, x⟩ := x
          have hw := ai_W_at (cas := cas) (f := ai_cv sa base) (base := base) hh
          rcases x with g | g | g | g | g <;> exact va_alen hx hb hK hP _ k hw (ai_tys_at hty) rfl hdg (kq lc H locs hLV hR hlocs rfl)
        · cases hstp
      · cases hstp
    · split at hstp
      · rename_i hk
        simp only [Option.some.injEq, Prod.mk.injEq] at hstp; obtain ⟨rfl, rfl, rfl, rfl⟩ := hstp
        have kq := fun lc1 H1 locs1 a b c d => hsq hne ▸ kk lc1 H1 locs1 hs' a b c d
        obtain ⟨rfl, hk2⟩ := hk
        obtain ⟨x1, x2⟩ := hX hk2
        exact va_slen hx hb x1 (by rw [hHb]; exact x2) (Nat.not_le.mpr x2) hS hdg (kq lc H locs hLV hR hlocs rfl)
      · cases hstp
    · cases hstp
  · obtain rfl : len = 1 := by simpa [ai_len] using hlen
    split at hstp
    · split at hstp
      · rename_i n f hh
        split at hstp
        · cases hstp
        · rename_i hi
          simp only [Option.some.injEq, Prod.mk.injEq] at hstp; obtain ⟨rfl, rfl, rfl, rfl⟩ := hstp
          have kq := fun lc1 H1 locs1 a b c d => hsq hne ▸ kk lc1 H1 locs1 hs' a b c d
          exact va_iald hx hb hK hP _ 0 (ai_W_at hh) (ai_tys_at rfl) hi hdg (kq lc H locs hLV hR hlocs rfl)
      · cases hstp
    · split at hstp
      · cases hstp
      · rename_i hi
        simp only [Option.some.injEq, Prod.mk.injEq] at hstp; obtain ⟨rfl, rfl, rfl, rfl⟩ := hstp
        have kq := fun lc1 H1 locs1 a b c d => hsq hne ▸ kk lc1 H1 locs1 hs' a b c d
        simp only [not_or, Decidable.not_not] at hi
        obtain ⟨hi1, hi2, rfl, hk2⟩ := hi
        obtain ⟨x1, x2⟩ := hX hk2
        exact va_sld hx hb x1 (by rw [hHb]; exact x2) (Nat.not_le.mpr x2) hS (fun z => z.elim hi1 hi2) hdg (kq lc H locs hLV hR hlocs rfl)
    · cases hstp
  · obtain rfl : len = 1 := by simpa [ai_len] using hlen
    split at hstp
    · split at hstp
      · rename_i n f hh
        split at hstp
        · cases hstp
        · rename_i hi
          simp only [Option.some.injEq, Prod.mk.injEq] at hstp; obtain ⟨rfl, rfl, rfl, rfl⟩ := hstp
          have kq := fun lc1 H1 locs1 a b c d => hsq hne ▸ kk lc1 H1 locs1 hs' a b c d
          exact va_lald hx hb hK hP _ 1 (ai_W_at hh) (ai_tys_at rfl) hi hdg (kq lc H locs hLV hR hlocs rfl)
      · cases hstp
    · cases hstp
  · obtain rfl : len = 1 := by simpa [ai_len] using hlen
    split at hstp
    · split at hstp
      · rename_i n f hh
        split at hstp
        · cases hstp
        · rename_i hi
          simp only [Option.some.injEq, Prod.mk.injEq] at hstp; obtain ⟨rfl, rfl, rfl, rfl⟩ := hstp
          have kq := fun lc1 H1 locs1 a b c d => hsq hne ▸ kk lc1 H1 locs1 hs' a b c d
          exact va_zald hx hb hK hP _ 2 (ai_W_at hh) (ai_tys_at rfl) hi hdg (kq lc H locs hLV hR hlocs rfl)
      · cases hstp
    · cases hstp
  · obtain rfl : len = 1 := by simpa [ai_len] using hlen
    split at hstp
    · split at hstp
      · rename_i k n f hh
        split at hstp
        · cases hstp
        · rename_i hi
          simp only [Option.some.injEq, Prod.mk.injEq] at hstp; obtain ⟨rfl, rfl, rfl, rfl⟩ := hstp
          have kq := fun lc1 H1 locs1 a b c d => hsq hne ▸ kk lc1 H1 locs1 hs' a b c d
          simp only [not_or, Nat.not_lt, Nat.not_le] at hi
          obtain ⟨C, hC⟩ : ∃ C, ai_ty[k]? = some (.object C) := by
            rcases (show k = 3 ∨ k = 4 ∨ k = 5 by omega) with rfl | rfl | rfl <;> exact ⟨_, rfl⟩
          refine va_aldq hx hb hK hP _ k (ai_W_at hh) (ai_tys_at hC) (fun z => z.elim hi.1 (Nat.not_le.mpr hi.2.1)) hdg ?_
          rw [ai_rf_cv (sa := sa)]
          exact (kq lc H locs hLV hR hlocs rfl)
      · cases hstp
    · cases hstp
  · obtain rfl : len = 1 := by simpa [ai_len] using hlen
    split at hstp
    · split at hstp
      · rename_i n f hh
        split at hstp
        · cases hstp
        · rename_i hi
          simp only [Option.some.injEq, Prod.mk.injEq] at hstp; obtain ⟨rfl, rfl, rfl, rfl⟩ := hstp
          have kq := fun lc1 H1 locs1 a b c d => hsq hne ▸ kk lc1 H1 locs1 hs' a b c d
          exact va_iast hx hb hK hP hD hS _ 0 (ai_W_at hh) (ai_tys_at rfl) hi hdg (fun H1 locs1 hP1 hD1 hS1 => ai_szW fun hup => kq lc H1 locs1 hLV (ai_Rp.of (locs := locs1) (by rw [ai_W_set]; simpa [ai_cE] using hP1) hS1 hHb (by intro z; simp at z; subst z; simp at hh) (by rw [List.length_set]; omega)) hS1.2.2 (by rw [List.length_set]))
      · cases hstp
    · cases hstp
  · obtain rfl : len = 1 := by simpa [ai_len] using hlen
    split at hstp
    · split at hstp
      · rename_i n f hh
        split at hstp
        · cases hstp
        · rename_i hi
          simp only [Option.some.injEq, Prod.mk.injEq] at hstp; obtain ⟨rfl, rfl, rfl, rfl⟩ := hstp
          have kq := fun lc1 H1 locs1 a b c d => hsq hne ▸ kk lc1 H1 locs1 hs' a b c d
          exact va_last hx hb hK hP hD hS _ 1 (ai_W_at hh) (ai_tys_at rfl) hi hdg (fun H1 locs1 hP1 hD1 hS1 => ai_szW fun hup => kq lc H1 locs1 hLV (ai_Rp.of (locs := locs1) (by rw [ai_W_set]; simpa [ai_cE] using hP1) hS1 hHb (by intro z; simp at z; subst z; simp at hh) (by rw [List.length_set]; omega)) hS1.2.2 (by rw [List.length_set]))
      · cases hstp
    · cases hstp
  · obtain rfl : len = 1 := by simpa [ai_len] using hlen
    split at hstp
    · split at hstp
      · rename_i n f hh
        split at hstp
        · cases hstp
        · rename_i hi
          simp only [Option.some.injEq, Prod.mk.injEq] at hstp; obtain ⟨rfl, rfl, rfl, rfl⟩ := hstp
          have kq := fun lc1 H1 locs1 a b c d => hsq hne ▸ kk lc1 H1 locs1 hs' a b c d
          exact va_zast hx hb hK hP hD hS _ 2 (ai_W_at hh) (ai_tys_at rfl) hi hdg (fun H1 locs1 hP1 hD1 hS1 => ai_szW fun hup => kq lc H1 locs1 hLV (ai_Rp.of (locs := locs1) (by rw [ai_W_set]; simpa [ai_cE] using hP1) hS1 hHb (by intro z; simp at z; subst z; simp at hh) (by rw [List.length_set]; omega)) hS1.2.2 (by rw [List.length_set]))
      · cases hstp
    · cases hstp
  · obtain rfl : len = 1 := by simpa [ai_len] using hlen
    split at hstp
    · split at hstp
      · rename_i k n f fc fs hh hv
        split at hstp
        · cases hstp
        · rename_i hi
          split at hstp
          · rename_i C q hC hq
            split at hstp
            · rename_i he
              simp only [Option.some.injEq, Prod.mk.injEq] at hstp; obtain ⟨rfl, rfl, rfl, rfl⟩ := hstp
              have kq := fun lc1 H1 locs1 a b c d => hsq hne ▸ kk lc1 H1 locs1 hs' a b c d
              subst he
              refine va_astq hx hb hK hP hD hS _ k _ fc (ai_W_at hh) (ai_tys_at hC) (ai_W_at hv) hq hi hdg ?_
              exact (fun H1 locs1 hP1 hD1 hS1 => ai_szW fun hup => kq lc H1 locs1 hLV (ai_Rp.of (locs := locs1) (by rw [ai_W_set]; simpa [ai_cE, ai_va_up] using hP1) hS1 hHb (by intro z; simp at z; subst z; simp at hh) (by rw [List.length_set]; omega)) hS1.2.2 (by rw [List.length_set]))
            · cases hstp
          · cases hstp
      · cases hstp
    · cases hstp
  · cases hstp
end AISTP
end
section
/-! the JDK's String methods that the program calls on its own texts -/
def ai_Lo (base : Nat) (Hb : Heap) (H : Heap) : Prop := ∀ q : Nat, q < base → H[q]? = Hb[q]?
def sy (c n d : String) : MethodName := ⟨c, n, d⟩
abbrev sy_length : MethodName := ⟨"java/lang/String", "length", "()I"⟩
abbrev sy_coder : MethodName := ⟨"java/lang/String", "coder", "()B"⟩
abbrev sy_charAt : MethodName := ⟨"java/lang/String", "charAt", "(I)C"⟩
abbrev sy_isLatin1 : MethodName := ⟨"java/lang/String", "isLatin1", "()Z"⟩
abbrev sy_chk : MethodName := ⟨"java/lang/String", "checkIndex", "(II)V"⟩
abbrev sy_lat : MethodName := ⟨"java/lang/StringLatin1", "charAt", "([BI)C"⟩
abbrev sy_pre : MethodName := ⟨"jdk/internal/util/Preconditions", "checkIndex", "(IILjava/util/function/BiFunction;)I"⟩
theorem sw_length : ai_w 8195 (.code sy_length prog_16_method_54_code 1 (some .int)) = true ∧ ai_w 8193 (.instanceMethod sy_length) = true ∧ ai_w 8194 (.selects "java/lang/String" sy_length sy_length) = true := by decide +kernel
theorem sw_coder : ai_w 8199 (.code sy_coder prog_16_method_152_code 1 (some .byte)) = true ∧ ai_w 8197 (.instanceMethod sy_coder) = true ∧ ai_w 8198 (.selects "java/lang/String" sy_coder sy_coder) = true := by decide +kernel
theorem sw_charAt : ai_w 8205 (.code sy_charAt prog_16_method_56_code 2 (some .char)) = true ∧ ai_w 8203 (.instanceMethod sy_charAt) = true ∧ ai_w 8204 (.selects "java/lang/String" sy_charAt sy_charAt) = true := by decide +kernel
theorem sw_isLatin1 : ai_w 8209 (.code sy_isLatin1 prog_16_method_154_code 1 (some .boolean)) = true ∧ ai_w 8207 (.instanceMethod sy_isLatin1) = true ∧ ai_w 8208 (.selects "java/lang/String" sy_isLatin1 sy_isLatin1) = true := by decide +kernel
theorem sw_chk : ai_w 8215 (.code sy_chk prog_16_method_155_code 2 none) = true ∧ ai_w 8214 (.static sy_chk) = true := by decide +kernel
theorem sw_lat : ai_w 8212 (.code sy_lat prog_17_method_2_code 2 (some .char)) = true ∧ ai_w 8211 (.static sy_lat) = true := by decide +kernel
theorem sw_pre : ai_w 8220 (.code sy_pre prog_21_method_11_code 3 (some .int)) = true ∧ ai_w 8219 (.static sy_pre) = true := by decide +kernel
theorem sw_ini : ai_w 7015 (.initialized "java/lang/String") = true := by decide +kernel
theorem sw_iniL : ai_w 7016 (.initialized "java/lang/StringLatin1") = true := by decide +kernel
theorem sw_iniP : ai_w 7017 (.initialized "jdk/internal/util/Preconditions") = true := by decide +kernel
theorem sw_f38 : ai_w 8200 (.fieldLink "java/lang/String" 38 "java/lang/String" "COMPACT_STRINGS" "Z") = true := by decide +kernel
theorem sw_f9 : ai_w 14086 (.fieldLink "java/lang/String" 9 "java/lang/String" "value" "[B") = true := by decide +kernel
theorem sw_f15 : ai_w 14087 (.fieldLink "java/lang/String" 15 "java/lang/String" "coder" "B") = true := by decide +kernel
theorem sw_f1053 : ai_w 8216 (.fieldLink "java/lang/String" 1053 "jdk/internal/util/Preconditions" "SIOOBE_FORMATTER" "Ljava/util/function/BiFunction;") = true := by decide +kernel
theorem sw_m335 : ai_w 8196 (.methodLink "java/lang/String" 335 sy_coder) = true := by decide +kernel
theorem sw_m492 : ai_w 8206 (.methodLink "java/lang/String" 492 sy_isLatin1) = true := by decide +kernel
theorem sw_m495 : ai_w 8210 (.methodLink "java/lang/String" 495 sy_lat) = true := by decide +kernel
theorem sw_m9 : ai_w 8213 (.methodLink "java/lang/StringLatin1" 9 sy_chk) = true := by decide +kernel
theorem sw_m1059 : ai_w 8218 (.methodLink "java/lang/String" 1059 sy_pre) = true := by decide +kernel
theorem sw_math : ai_w 7013 (.initialized "java/lang/Math") = true := by decide +kernel
theorem sw_max : ai_w 8146 (.static Lib.Math.max.name) = true ∧ ai_w 8147 (.code Lib.Math.max.name Lib.Math.max.code 2 (some .int)) = true := by decide +kernel
theorem sw_min : ai_w 8143 (.static Lib.Math.min.name) = true ∧ ai_w 8144 (.code Lib.Math.min.name Lib.Math.min.code 2 (some .int)) = true := by decide +kernel
theorem sm_good {y : MethodName} {b : ByteArray} {n p : Nat} {r : Option FieldType} {Q : Prop} (h : ai_w p (.code y b n r) = true ∧ Q) : GoodIn ai_gw (.code y b n r :: ai_gw) := by
  intro w hw
  have hm : w ∈ ai_gw := by
    rcases List.mem_cons.mp hw with rfl | z
    · exact ai_gw_of h.1
    · exact z
  exact ⟨hm, ai_gw_good hm⟩
/-- what holds where a text's method is called -/
def sm_P (sa : Nat → Nat) (base : Nat) (Hb : Heap) (av : List Value) : Array Value → State → Prop := fun a U => a = av.toArray ∧ ai_Lo base Hb U.heap ∧ ai_E sa base Hb U
def sm_Q (r : Option Value) : Array Value → State → Outcome → State → Prop := fun _ st o t => o = .returned r ∧ t.heap = st.heap ∧ True
theorem sm_blind {sa : Nat → Nat} {base : Nat} {Hb : Heap} {av : List Value} : FrameBlind (sm_P sa base Hb av) := fun a U g mk q => ⟨q.1, q.2.1, q.2.2.same rfl⟩
section SMCALL
variable {p : Program} {l : Launch} {e : Env} {R : Room} {s : State} {m : MethodId} {args : Array Value} {below : List Frame} {meth : Method} {c : Code} {H : Heap} {locs : List Loc} {cells slots : Nat} {Q : State → Prop}
/-- a call that keeps the heap -/
theorem sm_call {pc : Nat} {ls : Array Slot} {st0 rest : List Value} {r : Option Value} {a : Array Value} (hr : va_Run p l e R s m args below meth c H locs cells slots 0 0 (F0 m pc ls st0) rest (sm_Q r a) (fun _ => False)) (kk : W p l e R s m args below meth c H locs cells slots Q (F0 m (pc + 3) ls (r.toList ++ rest))) : W p l e R s m args below meth c H locs cells slots Q (F0 m pc ls st0) := by
  intro T hT X
  obtain ⟨v, st₀, t, T', L, h0, X', hL, e1, e2, ⟨hv, hh, -⟩, st⟩ := hr T hT X
  cases hv
  obtain ⟨t2, a1, b1⟩ := kk T' (by rw [e1, hh, h0]) (Stand.forget X' (fun q h => (hL q h).elim))
  exact ⟨t2, st t2 a1, b1⟩
end SMCALL
section SMET
variable {sa : Nat → Nat} {base : Nat} {Hb : Heap}
theorem sm_coder (l : Launch) {k : Nat} (hk : k < 11) : Met l sy_coder (.code sy_coder prog_16_method_152_code 1 (some .byte) :: ai_gw) { frames := 0, cells := 0, slots := 0, locals := 0 } (sm_P sa base Hb [.ref (sa k)]) (sm_Q (some (.int 0))) 0 0 (fun _ => False) := by
  refine Met.ofW (cc := prog_16_method_152_code) (maxL := 1) (ret := (some .byte)) (by decide) rfl ?_
  intro p e s m args below meth c s₁ B hml hv
  obtain ⟨rfl, hLo, hE⟩ := hv
  have hx := B.exec
  have hb := B.bytes
  have hr := B.returns
  have hts0 := atoms_spec (ws := .code sy_coder prog_16_method_152_code 1 (some .byte) :: ai_gw) B.pre
  have hts : ∀ w ∈ ai_gw, w.before _ s = true := fun w hw => hts0 w (List.mem_cons_of_mem _ hw)
  have hown : s.vm.findClass "java/lang/String" = some m.cls := findClass_of_methodNamed B.named
  have hlocks := B.notSynchronized
  have hS : va_S (ai_A base) s.heap s.heap [] := va_S.rf
  have hkp : ∀ q : Nat, q < Hb.size → ¬ ai_A base q → s.heap[q]? = Hb[q]? := fun q h1 h2 => hLo q (Nat.not_le.mp h2)
  have hstr := hE.2.2.2.1.kept hkp
  have hl := lv_entry ([.ref (sa k)]) (n := 1) (Nat.le_of_ble_eq_true rfl)
  rw [lg_entry_eq]
  generalize (lg_sl ([.ref (sa k)]) ++ List.replicate (1 - (lg_sl ([.ref (sa k)])).length) Slot.unset).toArray = ls at hl ⊢
  refine va_gets hx hb (hE.2.2.2.2.1.kept hkp) hS hown (hts _ (ai_gw_of sw_f38)) (fun _ h => h) (show decode prog_16_method_152_code 0 = .ok (.getstatic 38, 3) by decide +kernel) ?_
  refine lv_if_eq (tgt := 13) hx hb (show decode prog_16_method_152_code 3 = .ok (.ifCond .eq 10, 3) by decide +kernel) (by decide) (fun z => absurd z (by decide)) (fun _ => ?_)
  refine lv_aload_n hx hb (show decode prog_16_method_152_code 6 = .ok (.aload_n 0, 1) by decide +kernel) rfl (lv_at hl 0 rfl) ?_
  refine vk_getf hx hb (hstr.1 k hk).2.1 hS hown (hts _ (ai_gw_of sw_f15)) (fun _ h => h) (show decode prog_16_method_152_code 7 = .ok (.getfield 15, 3) by decide +kernel) ?_
  refine lv_goto (tgt := 14) hx hb (show decode prog_16_method_152_code 10 = .ok (.goto 4, 3) by decide +kernel) (by decide) ?_
  exact W.zret hx hb hr rfl (fun t ht hW => ⟨rfl, ht, trivial⟩) (fun q h => by cases h) (show decode prog_16_method_152_code 14 = .ok (.ireturn, 1) by decide +kernel)
theorem sm_isLatin1 (l : Launch) {k : Nat} (hk : k < 11) : Met l sy_isLatin1 (.code sy_isLatin1 prog_16_method_154_code 1 (some .boolean) :: ai_gw) { frames := 0, cells := 0, slots := 0, locals := 0 } (sm_P sa base Hb [.ref (sa k)]) (sm_Q (some (.int 1))) 0 0 (fun _ => False) := by
  refine Met.ofW (cc := prog_16_method_154_code) (maxL := 1) (ret := (some .boolean)) (by decide) rfl ?_
  intro p e s m args below meth c s₁ B hml hv
  obtain ⟨rfl, hLo, hE⟩ := hv
  have hx := B.exec
  have hb := B.bytes
  have hr := B.returns
  have hts0 := atoms_spec (ws := .code sy_isLatin1 prog_16_method_154_code 1 (some .boolean) :: ai_gw) B.pre
  have hts : ∀ w ∈ ai_gw, w.before _ s = true := fun w hw => hts0 w (List.mem_cons_of_mem _ hw)
  have hown : s.vm.findClass "java/lang/String" = some m.cls := findClass_of_methodNamed B.named
  have hlocks := B.notSynchronized
  have hS : va_S (ai_A base) s.heap s.heap [] := va_S.rf
  have hkp : ∀ q : Nat, q < Hb.size → ¬ ai_A base q → s.heap[q]? = Hb[q]? := fun q h1 h2 => hLo q (Nat.not_le.mp h2)
  have hstr := hE.2.2.2.1.kept hkp
  have hl := lv_entry ([.ref (sa k)]) (n := 1) (Nat.le_of_ble_eq_true rfl)
  rw [lg_entry_eq]
  generalize (lg_sl ([.ref (sa k)]) ++ List.replicate (1 - (lg_sl ([.ref (sa k)])).length) Slot.unset).toArray = ls at hl ⊢
  refine va_gets hx hb (hE.2.2.2.2.1.kept hkp) hS hown (hts _ (ai_gw_of sw_f38)) (fun _ h => h) (show decode prog_16_method_154_code 0 = .ok (.getstatic 38, 3) by decide +kernel) ?_
  refine lv_if_eq (tgt := 17) hx hb (show decode prog_16_method_154_code 3 = .ok (.ifCond .eq 14, 3) by decide +kernel) (by decide) (fun z => absurd z (by decide)) (fun _ => ?_)
  refine lv_aload_n hx hb (show decode prog_16_method_154_code 6 = .ok (.aload_n 0, 1) by decide +kernel) rfl (lv_at hl 0 rfl) ?_
  refine vk_getf hx hb (hstr.1 k hk).2.1 hS hown (hts _ (ai_gw_of sw_f15)) (fun _ h => h) (show decode prog_16_method_154_code 7 = .ok (.getfield 15, 3) by decide +kernel) ?_
  refine lv_if_ne (tgt := 17) hx hb (show decode prog_16_method_154_code 10 = .ok (.ifCond .ne 7, 3) by decide +kernel) (by decide) (fun z => absurd rfl z) (fun _ => ?_)
  refine lv_iconst (v := 1) hx hb (show decode prog_16_method_154_code 13 = .ok (.iconst 1, 1) by decide +kernel) (by decide) ?_
  refine lv_goto (tgt := 18) hx hb (show decode prog_16_method_154_code 14 = .ok (.goto 4, 3) by decide +kernel) (by decide) ?_
  exact W.zret hx hb hr rfl (fun t ht hW => ⟨rfl, ht, trivial⟩) (fun q h => by cases h) (show decode prog_16_method_154_code 18 = .ok (.ireturn, 1) by decide +kernel)
theorem sm_pre (l : Launch) {i n : Int32} {w : Value} (hw : w = .null ∨ ∃ t, w = .ref t) (hi : ¬ i < 0) (hn : i < n) : Met l sy_pre (.code sy_pre prog_21_method_11_code 3 (some .int) :: ai_gw) { frames := 0, cells := 0, slots := 0, locals := 0 } (sm_P sa base Hb [.int i, .int n, w]) (sm_Q (some (.int i))) 0 0 (fun _ => False) := by
  have hwc : (lg_sl [.int i, .int n, w]).length ≤ 3 := by rcases hw with rfl | ⟨t, rfl⟩ <;> exact Nat.le_of_ble_eq_true rfl
  refine Met.ofW (cc := prog_21_method_11_code) (maxL := 3) (ret := (some .int)) (by decide) rfl ?_
  intro p e s m args below meth c s₁ B hml hv
  obtain ⟨rfl, hLo, hE⟩ := hv
  have hx := B.exec
  have hb := B.bytes
  have hr := B.returns
  have hts0 := atoms_spec (ws := .code sy_pre prog_21_method_11_code 3 (some .int) :: ai_gw) B.pre
  have hts : ∀ w ∈ ai_gw, w.before _ s = true := fun w hw => hts0 w (List.mem_cons_of_mem _ hw)
  have hown : s.vm.findClass "jdk/internal/util/Preconditions" = some m.cls := findClass_of_methodNamed B.named
  have hlocks := B.notSynchronized
  have hS : va_S (ai_A base) s.heap s.heap [] := va_S.rf
  have hkp : ∀ q : Nat, q < Hb.size → ¬ ai_A base q → s.heap[q]? = Hb[q]? := fun q h1 h2 => hLo q (Nat.not_le.mp h2)
  have hstr := hE.2.2.2.1.kept hkp
  have hl := lv_entry ([.int i, .int n, w]) (n := 3) hwc
  rw [lg_entry_eq]
  generalize (lg_sl ([.int i, .int n, w]) ++ List.replicate (3 - (lg_sl ([.int i, .int n, w])).length) Slot.unset).toArray = ls at hl ⊢
  have l0 : ls[0]? = some (.val (.int i)) := hl.2.2 (0, .int i) (by simp [lv_args])
  have l1 : ls[1]? = some (.val (.int n)) := hl.2.2 (1, .int n) (by simp [lv_args, Value.category])
  refine lv_iload_n hx hb (show decode prog_21_method_11_code 0 = .ok (.iload_n 0, 1) by decide +kernel) rfl l0 ?_
  refine lv_if_lt (tgt := 9) hx hb (show decode prog_21_method_11_code 1 = .ok (.ifCond .lt 8, 3) by decide +kernel) (by decide) (fun z => absurd z hi) (fun _ => ?_)
  refine lv_iload_n hx hb (show decode prog_21_method_11_code 4 = .ok (.iload_n 0, 1) by decide +kernel) rfl l0 ?_
  refine lv_iload_n hx hb (show decode prog_21_method_11_code 5 = .ok (.iload_n 1, 1) by decide +kernel) rfl l1 ?_
  refine lv_icmp_lt (tgt := 16) hx hb (show decode prog_21_method_11_code 6 = .ok (.if_icmp .lt 10, 3) by decide +kernel) (by decide) (fun _ => ?_) (fun z => absurd hn z)
  refine lv_iload_n hx hb (show decode prog_21_method_11_code 16 = .ok (.iload_n 0, 1) by decide +kernel) rfl l0 ?_
  exact W.iret hx hb hr (fun t ht hW => ⟨rfl, ht, trivial⟩) (fun q h => by cases h) (show decode prog_21_method_11_code 17 = .ok (.ireturn, 1) by decide +kernel)
theorem sm_length (l : Launch) {k : Nat} (hk : k < 11) (hb0 : Hb.size = base) : Met l sy_length (.code sy_length prog_16_method_54_code 1 (some .int) :: ai_gw) { frames := 1, cells := 0, slots := 0, locals := 20 } (sm_P sa base Hb [.ref (sa k)]) (sm_Q (some (.int (nI (ai_sl.getD k 0))))) 0 0 (fun _ => False) := by
  refine Met.ofW (cc := prog_16_method_54_code) (maxL := 1) (ret := (some .int)) (by decide) rfl ?_
  intro p e s m args below meth c s₁ B hml hv
  obtain ⟨rfl, hLo, hE⟩ := hv
  have hx := B.exec
  have hb := B.bytes
  have hr := B.returns
  have hts0 := atoms_spec (ws := .code sy_length prog_16_method_54_code 1 (some .int) :: ai_gw) B.pre
  have hts : ∀ w ∈ ai_gw, w.before _ s = true := fun w hw => hts0 w (List.mem_cons_of_mem _ hw)
  have hown : s.vm.findClass "java/lang/String" = some m.cls := findClass_of_methodNamed B.named
  have hlocks := B.notSynchronized
  have hS : va_S (ai_A base) s.heap s.heap [] := va_S.rf
  have hkp : ∀ q : Nat, q < Hb.size → ¬ ai_A base q → s.heap[q]? = Hb[q]? := fun q h1 h2 => hLo q (Nat.not_le.mp h2)
  have hstr := hE.2.2.2.1.kept hkp
  have hl := lv_entry ([.ref (sa k)]) (n := 1) (Nat.le_of_ble_eq_true rfl)
  rw [lg_entry_eq]
  generalize (lg_sl ([.ref (sa k)]) ++ List.replicate (1 - (lg_sl ([.ref (sa k)])).length) Slot.unset).toArray = ls at hl ⊢
  refine lv_aload_n hx hb (show decode prog_16_method_54_code 0 = .ok (.aload_n 0, 1) by decide +kernel) rfl (lv_at hl 0 rfl) ?_
  refine vk_getf hx hb (hstr.1 k hk).2.2.1 hS hown (hts _ (ai_gw_of sw_f9)) (fun _ h => h) (show decode prog_16_method_54_code 1 = .ok (.getfield 9, 3) by decide +kernel) ?_
  obtain ⟨cell, z1, z2, z3, z4, z5, z6, z7⟩ := (hstr.1 k hk).2.2.2
  refine W.alen (n := nI (ai_sl.getD k 0)) hx hb z1 z2 z5 rfl rfl (show decode prog_16_method_54_code 4 = .ok (.arraylength, 1) by decide +kernel) ?_
  refine lv_aload_n hx hb (show decode prog_16_method_54_code 5 = .ok (.aload_n 0, 1) by decide +kernel) rfl (lv_at hl 0 rfl) ?_
  refine sm_call (va_runV (C := "java/lang/String") (b := sa k) (As := []) (rest := [.int (nI (ai_sl.getD k 0))]) ⟨hx, hb, hml, hown, hts⟩ (sm_coder l hk) ⟨callB_of 0 hts (sm_good sw_coder) rfl rfl rfl (hts _ (ai_gw_of sw_ini)) (hts _ (ai_gw_of sw_m335)) (by decide +kernel) ⟨Nat.le_of_ble_eq_true rfl, Nat.le_of_ble_eq_true rfl⟩, hts _ (ai_gw_of sw_coder.2.1), hts _ (ai_gw_of sw_coder.2.2)⟩ ⟨sm_blind, vk_recv hstr hk hS, fun U hU hW => ⟨rfl, by rw [hU]; exact hLo, hE.warm hW⟩⟩ rfl rfl hl.1 rfl (lv_room (Nat.le_of_ble_eq_true rfl)) (show decode prog_16_method_54_code 6 = .ok (.invokevirtual 335, 3) by decide +kernel) ⟨Nat.le_refl _, Nat.le_refl _⟩) ?_
  refine lv_ishr hx hb (show decode prog_16_method_54_code 9 = .ok (.ishr, 1) by decide +kernel) ?_
  rw [sb_shr0]
  exact W.iret hx hb hr (fun t ht hW => ⟨rfl, ht, trivial⟩) (fun q h => by cases h) (show decode prog_16_method_54_code 10 = .ok (.ireturn, 1) by decide +kernel)
theorem sm_chk (l : Launch) {i n : Int32} (hi : ¬ i < 0) (hn : i < n) : Met l sy_chk (.code sy_chk prog_16_method_155_code 2 none :: ai_gw) { frames := 1, cells := 0, slots := 0, locals := 22 } (sm_P sa base Hb [.int i, .int n]) (sm_Q none) 0 0 (fun _ => False) := by
  refine Met.ofW (cc := prog_16_method_155_code) (maxL := 2) (ret := none) (by decide) rfl ?_
  intro p e s m args below meth c s₁ B hml hv
  obtain ⟨rfl, hLo, hE⟩ := hv
  have hx := B.exec
  have hb := B.bytes
  have hr := B.returns
  have hts0 := atoms_spec (ws := .code sy_chk prog_16_method_155_code 2 none :: ai_gw) B.pre
  have hts : ∀ w ∈ ai_gw, w.before _ s = true := fun w hw => hts0 w (List.mem_cons_of_mem _ hw)
  have hown : s.vm.findClass "java/lang/String" = some m.cls := findClass_of_methodNamed B.named
  have hlocks := B.notSynchronized
  have hS : va_S (ai_A base) s.heap s.heap [] := va_S.rf
  have hkp : ∀ q : Nat, q < Hb.size → ¬ ai_A base q → s.heap[q]? = Hb[q]? := fun q h1 h2 => hLo q (Nat.not_le.mp h2)
  have hstr := hE.2.2.2.1.kept hkp
  have hl := lv_entry ([.int i, .int n]) (n := 2) (Nat.le_of_ble_eq_true rfl)
  rw [lg_entry_eq]
  generalize (lg_sl ([.int i, .int n]) ++ List.replicate (2 - (lg_sl ([.int i, .int n])).length) Slot.unset).toArray = ls at hl ⊢
  refine lv_iload_n hx hb (show decode prog_16_method_155_code 0 = .ok (.iload_n 0, 1) by decide +kernel) rfl (lv_at hl 0 rfl) ?_
  refine lv_iload_n hx hb (show decode prog_16_method_155_code 1 = .ok (.iload_n 1, 1) by decide +kernel) rfl (lv_at hl 1 rfl) ?_
  rcases hE.2.2.2.2.2.kept hkp with hz | ⟨t, hz⟩
  · refine va_gets hx hb hz hS hown (hts _ (ai_gw_of sw_f1053)) (fun _ h => h) (show decode prog_16_method_155_code 2 = .ok (.getstatic 1053, 3) by decide +kernel) ?_
    refine sm_call (va_runS (As := [.int i, .int n, .null]) (rest := []) ⟨hx, hb, hml, hown, hts⟩ (sm_pre l (w := .null) (Or.inl rfl) hi hn) ⟨callB_of 3 hts (sm_good sw_pre) rfl rfl rfl (hts _ (ai_gw_of sw_iniP)) (hts _ (ai_gw_of sw_m1059)) (by decide +kernel) ⟨Nat.le_of_ble_eq_true rfl, Nat.le_of_ble_eq_true rfl⟩, hts _ (ai_gw_of sw_pre.2)⟩ ⟨sm_blind, fun U hU hW => ⟨rfl, by rw [hU]; exact hLo, hE.warm hW⟩⟩ rfl rfl hl.1 rfl (lv_room (Nat.le_of_ble_eq_true rfl)) (show decode prog_16_method_155_code 5 = .ok (.invokestatic 1059, 3) by decide +kernel) ⟨Nat.le_refl _, Nat.le_refl _⟩) ?_
    refine lv_pop hx hb (show decode prog_16_method_155_code 8 = .ok (.pop, 1) by decide +kernel) rfl ?_
    exact W.vret hx hb hr (fun t ht hW => ⟨rfl, ht, trivial⟩) (fun q h => by cases h) (show decode prog_16_method_155_code 9 = .ok (.return_, 1) by decide +kernel)
  · refine va_gets hx hb hz hS hown (hts _ (ai_gw_of sw_f1053)) (fun _ h => h) (show decode prog_16_method_155_code 2 = .ok (.getstatic 1053, 3) by decide +kernel) ?_
    refine sm_call (va_runS (As := [.int i, .int n, .ref t]) (rest := []) ⟨hx, hb, hml, hown, hts⟩ (sm_pre l (w := .ref t) (Or.inr ⟨t, rfl⟩) hi hn) ⟨callB_of 3 hts (sm_good sw_pre) rfl rfl rfl (hts _ (ai_gw_of sw_iniP)) (hts _ (ai_gw_of sw_m1059)) (by decide +kernel) ⟨Nat.le_of_ble_eq_true rfl, Nat.le_of_ble_eq_true rfl⟩, hts _ (ai_gw_of sw_pre.2)⟩ ⟨sm_blind, fun U hU hW => ⟨rfl, by rw [hU]; exact hLo, hE.warm hW⟩⟩ rfl rfl hl.1 rfl (lv_room (Nat.le_of_ble_eq_true rfl)) (show decode prog_16_method_155_code 5 = .ok (.invokestatic 1059, 3) by decide +kernel) ⟨Nat.le_refl _, Nat.le_refl _⟩) ?_
    refine lv_pop hx hb (show decode prog_16_method_155_code 8 = .ok (.pop, 1) by decide +kernel) rfl ?_
    exact W.vret hx hb hr (fun t ht hW => ⟨rfl, ht, trivial⟩) (fun q h => by cases h) (show decode prog_16_method_155_code 9 = .ok (.return_, 1) by decide +kernel)
theorem sm_ltn {i : Int32} {n : Nat} (hn : n < 2 ^ 31) (h : ¬ (i < 0 ∨ n ≤ i.toNatClampNeg)) : ¬ i < 0 ∧ i < nI n := by
  refine ⟨fun z => h (Or.inl z), ?_⟩
  obtain ⟨j, hj, rfl⟩ := vp_in_of (n := n) h hn
  exact nI_lt hj hn
theorem sm_sln (k : Nat) : ai_sl.getD k 0 < 2 ^ 31 := by
  rcases Nat.lt_or_ge k 11 with h | h
  · exact co_dec (N := 11) (P := fun k => ai_sl.getD k 0 < 2 ^ 31) (by decide +kernel) h
  · rw [List.getD_eq_getElem?_getD, List.getElem?_eq_none (by exact h)]; decide
theorem sm_lat (l : Launch) {k : Nat} {i : Int32} (hk : k < 11) (hi : ¬ (i < 0 ∨ ai_sl.getD k 0 ≤ i.toNatClampNeg)) : Met l sy_lat (.code sy_lat prog_17_method_2_code 2 (some .char) :: ai_gw) { frames := 2, cells := 0, slots := 0, locals := 43 } (sm_P sa base Hb [.ref (sa (200 + k)), .int i]) (sm_Q (some (.int (ai_sc k i.toNatClampNeg)))) 0 0 (fun _ => False) := by
  refine Met.ofW (cc := prog_17_method_2_code) (maxL := 2) (ret := (some .char)) (by decide) rfl ?_
  intro p e s m args below meth c s₁ B hml hv
  obtain ⟨rfl, hLo, hE⟩ := hv
  have hx := B.exec
  have hb := B.bytes
  have hr := B.returns
  have hts0 := atoms_spec (ws := .code sy_lat prog_17_method_2_code 2 (some .char) :: ai_gw) B.pre
  have hts : ∀ w ∈ ai_gw, w.before _ s = true := fun w hw => hts0 w (List.mem_cons_of_mem _ hw)
  have hown : s.vm.findClass "java/lang/StringLatin1" = some m.cls := findClass_of_methodNamed B.named
  have hlocks := B.notSynchronized
  have hS : va_S (ai_A base) s.heap s.heap [] := va_S.rf
  have hkp : ∀ q : Nat, q < Hb.size → ¬ ai_A base q → s.heap[q]? = Hb[q]? := fun q h1 h2 => hLo q (Nat.not_le.mp h2)
  have hstr := hE.2.2.2.1.kept hkp
  have hl := lv_entry ([.ref (sa (200 + k)), .int i]) (n := 2) (Nat.le_of_ble_eq_true rfl)
  rw [lg_entry_eq]
  generalize (lg_sl ([.ref (sa (200 + k)), .int i]) ++ List.replicate (2 - (lg_sl ([.ref (sa (200 + k)), .int i])).length) Slot.unset).toArray = ls at hl ⊢
  have hT := (hstr.1 k hk).2.2.2
  obtain ⟨cell, z1, z2, z3, z4, z5, z6, z7⟩ := id hT
  have hb2 := sm_ltn (sm_sln k) hi
  refine lv_iload_n hx hb (show decode prog_17_method_2_code 0 = .ok (.iload_n 1, 1) by decide +kernel) rfl (lv_at hl 1 rfl) ?_
  refine lv_aload_n hx hb (show decode prog_17_method_2_code 1 = .ok (.aload_n 0, 1) by decide +kernel) rfl (lv_at hl 0 rfl) ?_
  refine W.alen (n := nI (ai_sl.getD k 0)) hx hb z1 z2 z5 rfl rfl (show decode prog_17_method_2_code 2 = .ok (.arraylength, 1) by decide +kernel) ?_
  refine sm_call (va_runS (As := [.int i, .int (nI (ai_sl.getD k 0))]) (rest := []) ⟨hx, hb, hml, hown, hts⟩ (sm_chk l hb2.1 hb2.2) ⟨callB_of 2 hts (sm_good sw_chk) rfl rfl rfl (hts _ (ai_gw_of sw_ini)) (hts _ (ai_gw_of sw_m9)) (by decide +kernel) ⟨Nat.le_of_ble_eq_true rfl, Nat.le_of_ble_eq_true rfl⟩, hts _ (ai_gw_of sw_chk.2)⟩ ⟨sm_blind, fun U hU hW => ⟨rfl, by rw [hU]; exact hLo, hE.warm hW⟩⟩ rfl rfl hl.1 rfl (lv_room (Nat.le_of_ble_eq_true rfl)) (show decode prog_17_method_2_code 3 = .ok (.invokestatic 9, 3) by decide +kernel) ⟨Nat.le_refl _, Nat.le_refl _⟩) ?_
  refine lv_aload_n hx hb (show decode prog_17_method_2_code 6 = .ok (.aload_n 0, 1) by decide +kernel) rfl (lv_at hl 0 rfl) ?_
  refine lv_iload_n hx hb (show decode prog_17_method_2_code 7 = .ok (.iload_n 1, 1) by decide +kernel) rfl (lv_at hl 1 rfl) ?_
  refine va_tb hx hb hT hS hi rfl (show decode prog_17_method_2_code 8 = .ok (.baload, 1) by decide +kernel) ?_
  refine lv_sipush (v := 255) hx hb (show decode prog_17_method_2_code 9 = .ok (.sipush 255, 3) by decide +kernel) (by decide) ?_
  refine lv_iand hx hb (show decode prog_17_method_2_code 12 = .ok (.iand, 1) by decide +kernel) ?_
  refine lv_i2c hx hb (show decode prog_17_method_2_code 13 = .ok (.i2c, 1) by decide +kernel) rfl ?_
  exact W.zret hx hb hr (pk_nc _) (fun t ht hW => ⟨rfl, ht, trivial⟩) (fun q h => by cases h) (show decode prog_17_method_2_code 14 = .ok (.ireturn, 1) by decide +kernel)
theorem sm_charAt (l : Launch) {k : Nat} {i : Int32} (hk : k < 11) (hi : ¬ (i < 0 ∨ ai_sl.getD k 0 ≤ i.toNatClampNeg)) (hb0 : Hb.size = base) : Met l sy_charAt (.code sy_charAt prog_16_method_56_code 2 (some .char) :: ai_gw) { frames := 3, cells := 0, slots := 0, locals := 64 } (sm_P sa base Hb [.ref (sa k), .int i]) (sm_Q (some (.int (ai_sc k i.toNatClampNeg)))) 0 0 (fun _ => False) := by
  refine Met.ofW (cc := prog_16_method_56_code) (maxL := 2) (ret := (some .char)) (by decide) rfl ?_
  intro p e s m args below meth c s₁ B hml hv
  obtain ⟨rfl, hLo, hE⟩ := hv
  have hx := B.exec
  have hb := B.bytes
  have hr := B.returns
  have hts0 := atoms_spec (ws := .code sy_charAt prog_16_method_56_code 2 (some .char) :: ai_gw) B.pre
  have hts : ∀ w ∈ ai_gw, w.before _ s = true := fun w hw => hts0 w (List.mem_cons_of_mem _ hw)
  have hown : s.vm.findClass "java/lang/String" = some m.cls := findClass_of_methodNamed B.named
  have hlocks := B.notSynchronized
  have hS : va_S (ai_A base) s.heap s.heap [] := va_S.rf
  have hkp : ∀ q : Nat, q < Hb.size → ¬ ai_A base q → s.heap[q]? = Hb[q]? := fun q h1 h2 => hLo q (Nat.not_le.mp h2)
  have hstr := hE.2.2.2.1.kept hkp
  have hl := lv_entry ([.ref (sa k), .int i]) (n := 2) (Nat.le_of_ble_eq_true rfl)
  rw [lg_entry_eq]
  generalize (lg_sl ([.ref (sa k), .int i]) ++ List.replicate (2 - (lg_sl ([.ref (sa k), .int i])).length) Slot.unset).toArray = ls at hl ⊢
  refine lv_aload_n hx hb (show decode prog_16_method_56_code 0 = .ok (.aload_n 0, 1) by decide +kernel) rfl (lv_at hl 0 rfl) ?_
  refine sm_call (va_runV (C := "java/lang/String") (b := sa k) (As := []) (rest := []) ⟨hx, hb, hml, hown, hts⟩ (sm_isLatin1 l hk) ⟨callB_of 0 hts (sm_good sw_isLatin1) rfl rfl rfl (hts _ (ai_gw_of sw_ini)) (hts _ (ai_gw_of sw_m492)) (by decide +kernel) ⟨Nat.le_of_ble_eq_true rfl, Nat.le_of_ble_eq_true rfl⟩, hts _ (ai_gw_of sw_isLatin1.2.1), hts _ (ai_gw_of sw_isLatin1.2.2)⟩ ⟨sm_blind, vk_recv hstr hk hS, fun U hU hW => ⟨rfl, by rw [hU]; exact hLo, hE.warm hW⟩⟩ rfl rfl hl.1 rfl (lv_room (Nat.le_of_ble_eq_true rfl)) (show decode prog_16_method_56_code 1 = .ok (.invokevirtual 492, 3) by decide +kernel) ⟨Nat.le_refl _, Nat.le_refl _⟩) ?_
  refine lv_if_eq (tgt := 16) hx hb (show decode prog_16_method_56_code 4 = .ok (.ifCond .eq 12, 3) by decide +kernel) (by decide) (fun z => absurd z (by decide)) (fun _ => ?_)
  refine lv_aload_n hx hb (show decode prog_16_method_56_code 7 = .ok (.aload_n 0, 1) by decide +kernel) rfl (lv_at hl 0 rfl) ?_
  refine vk_getf hx hb (hstr.1 k hk).2.2.1 hS hown (hts _ (ai_gw_of sw_f9)) (fun _ h => h) (show decode prog_16_method_56_code 8 = .ok (.getfield 9, 3) by decide +kernel) ?_
  refine lv_iload_n hx hb (show decode prog_16_method_56_code 11 = .ok (.iload_n 1, 1) by decide +kernel) rfl (lv_at hl 1 rfl) ?_
  refine sm_call (va_runS (As := [.ref (sa (200 + k)), .int i]) (rest := []) ⟨hx, hb, hml, hown, hts⟩ (sm_lat l hk hi) ⟨callB_of 2 hts (sm_good sw_lat) rfl rfl rfl (hts _ (ai_gw_of sw_iniL)) (hts _ (ai_gw_of sw_m495)) (by decide +kernel) ⟨Nat.le_of_ble_eq_true rfl, Nat.le_of_ble_eq_true rfl⟩, hts _ (ai_gw_of sw_lat.2)⟩ ⟨sm_blind, fun U hU hW => ⟨rfl, by rw [hU]; exact hLo, hE.warm hW⟩⟩ rfl rfl hl.1 rfl (lv_room (Nat.le_of_ble_eq_true rfl)) (show decode prog_16_method_56_code 12 = .ok (.invokestatic 495, 3) by decide +kernel) ⟨Nat.le_refl _, Nat.le_refl _⟩) ?_
  exact W.zret hx hb hr (pk_nc _) (fun t ht hW => ⟨rfl, ht, trivial⟩) (fun q h => by cases h) (show decode prog_16_method_56_code 15 = .ok (.ireturn, 1) by decide +kernel)
end SMET
end
section
/-! SOUNDNESS: what the interpreter answers, the machine does -/
def ai_poi : Nat := 7027
def ai_poc : Nat := 7028
theorem ai_oi : ai_w ai_poi (.instanceMethod objectInit) = true ∧ ai_w ai_poc (.code objectInit ⟨#[0xb1]⟩ 1 none) = true := by decide +kernel
theorem ai_cpw : ai_w 9064 (.native arraycopyName) = true ∧ ai_w 9063 (.static arraycopyName) = true ∧ ai_w 7019 (.initialized "java/lang/System") = true := by decide +kernel
def ai_plain : Value → Bool
  | .ref _ => false
  | .float _ => false
  | _ => true
theorem ai_plain_ok {sa : Nat → Nat} {base : Nat} {fs : List Value} (h : fs.all ai_plain = true) : fs.map (ai_cv sa base) = fs := by
  induction fs with
  | nil => rfl
  | cons v t ih =>
    simp only [List.all_cons, Bool.and_eq_true] at h
    rw [List.map_cons, ih h.2]
    congr 1
    cases v <;> first | rfl | (simp [ai_plain] at h)
theorem ai_df_plain : ai_df.all (fun fs => fs.all ai_plain) = true := by decide +kernel
theorem ai_ra {U : State} {c1 c2 : ClassId} {ty : FieldType} (h1 : va_RA U c1 ty) (h2 : va_RA U c2 ty) : c1 = c2 := by
  cases ty with
  | object C =>
    obtain ⟨_, _, -, -, -, e1⟩ := h1
    obtain ⟨_, _, -, -, -, e2⟩ := h2
    exact Option.some.inj (e1.symm.trans e2)
  | _ => exact Option.some.inj (Eq.trans (Eq.symm h1) h2)
theorem ai_newq {D : va_G} {cas : Nat → ClassId} {f : Value → Value} {base q : Nat} {h : ai_H} {ev : va_E} {H1 : Heap} (hP : va_P D ai_cl (ai_W cas f base 0 h ++ [(q, ev)]) H1) (hD : va_D (ai_A base) (ai_W cas f base 0 h ++ [(q, ev)])) (hup : H1.size ≤ base + h.length + 1) : q = base + h.length := by
  have hl : (ai_W cas f base 0 h ++ [(q, ev)])[h.length]? = some (q, ev) := by
    rw [List.getElem?_append_right (by rw [ai_W_len]; omega), ai_W_len]; simp
  have h1 : q < H1.size := (hP _ _ hl).lt
  have h2 : base ≤ q := hD.2 _ _ hl
  rcases Nat.lt_or_ge q (base + h.length) with z | z
  · exfalso
    have hi : q - base < h.length := by omega
    obtain ⟨c, hc⟩ : ∃ c, h[q - base]? = some c := ⟨_, List.getElem?_eq_getElem hi⟩
    have h3 : (ai_W cas f base 0 h ++ [(q, ev)])[q - base]? = some (base + (q - base), ai_cE cas f base c) := by
      rw [List.getElem?_append_left (by rw [ai_W_len]; exact hi)]
      exact ai_W_at hc
    have := hD.1 _ _ _ _ h3 hl (by show base + (q - base) = q; omega)
    omega
  · omega
def ai_ri : Option Value → Instr
  | none => .return_
  | some (.int _) => .ireturn
  | _ => .lreturn
def ai_rt (M : ai_M) : Option Value → Prop
  | none => ai_mT M = none
  | some (.int v) => ai_rok (ai_mT M) v = true
  | some (.long _) => ai_mT M = some .long
  | _ => False
def ai_Pc (D : va_G) (cas : Nat → ClassId) (sa : Nat → Nat) (base : Nat) (Hb : Heap) (av : List Value) (h : ai_H) : Array Value → State → Prop := fun a U => a = (av.map (ai_cv sa base)).toArray ∧ ai_Rp D cas sa base Hb h U.heap ∧ va_K D ai_cl (ai_tys cas) U ∧ ai_E sa base Hb U
def ai_Qc (D : va_G) (cas : Nat → ClassId) (sa : Nat → Nat) (base : Nat) (Hb : Heap) (r : Option Value) (h : ai_H) : Array Value → State → Outcome → State → Prop := fun _ _ o t => o = .returned (r.map (ai_cv sa base)) ∧ ai_Rp D cas sa base Hb h t.heap
theorem ai_blind {D : va_G} {cas : Nat → ClassId} {sa : Nat → Nat} {base : Nat} {Hb : Heap} {av : List Value} {h : ai_H} : FrameBlind (ai_Pc D cas sa base Hb av h) := fun a U g mk q => ⟨q.1, q.2.1, va_K.moved (u := U) (U := U.calling g mk a) (Vm.Alike.refl U.vm) q.2.2.1, q.2.2.2.same rfl⟩
section AICALL
variable {p : Program} {l : Launch} {e : Env} {R : Room} {s : State} {m : MethodId} {args : Array Value} {below : List Frame} {meth : Method} {c : Code} {H : Heap} {locs : List Loc} {cells slots : Nat} {Q : State → Prop}
theorem ai_callW {pc mc ms : Nat} {ls : Array Slot} {st0 rest : List Value} {Qa : State → Outcome → State → Prop} {free : Addr → Prop} (hr : va_Run p l e R s m args below meth c H locs cells slots mc ms (F0 m pc ls st0) rest Qa free)
    (kk : ∀ (v : Option Value) (st₀ t : State) (L : List Loc), Qa st₀ (.returned v) t → (∀ q ∈ L, free q.base) → W p l e R s m args below meth c t.heap (locs ++ L) (cells + mc) (slots + ms) Q (F0 m (pc + 3) ls (v.toList ++ rest))) : W p l e R s m args below meth c H locs cells slots Q (F0 m pc ls st0) := by
  intro T hT X
  obtain ⟨v, st₀, t, T', L, h0, X', hL, e1, e2, hq, st⟩ := hr T hT X
  obtain ⟨t2, a1, b1⟩ := kk v st₀ t L hq hL T' e1 X'
  exact ⟨t2, st t2 a1, b1⟩
end AICALL
/-- the statement of soundness at a fuel -/
def ai_Snd (l : Launch) (D : va_G) (cas : Nat → ClassId) (sa : Nat → Nat) (base : Nat) (Hb : Heap) (X : ai_X) (n : Nat) : Prop :=
  ∀ (M : ai_M) (rs : List ai_R) (ls : ai_L) (st : List Value) (h : ai_H) (o : ai_O), ai_run X n M (rs, ls, st, h) = some o → M ∈ ai_mt → rs <:+ ai_mR M →
  ∀ (p : Program) (e : Env) (R : Room) (s : State) (m : MethodId) (args : Array Value) (below : List Frame) (meth : Method) (c : Code) (H : Heap) (locs : List Loc) (cells slots : Nat) (Q : State → Prop) (lc : Array Slot),
  ai_Cx D cas sa base Hb X M p R s m args meth c → ai_LV sa base (ai_mL M) ls lc → ai_Rp D cas sa base Hb h H → (∀ q ∈ locs, base ≤ q.base) → s.heap.size + cells = base + h.length → cells + o.2.2.1 ≤ R.cells → slots + o.2.2.2 ≤ R.slots →
  (∀ (pc1 : Nat) (lc1 : Array Slot) (H1 : Heap) (locs1 : List Loc), decode (ai_mB M) pc1 = .ok (ai_ri o.1, 1) → ai_rt M o.1 → ai_Rp D cas sa base Hb o.2.1 H1 → (∀ q ∈ locs1, base ≤ q.base) → W p l e R s m args below meth c H1 locs1 (cells + o.2.2.1) (slots + o.2.2.2) Q (F0 m pc1 lc1 (o.1.toList.map (ai_cv sa base)))) →
  W p l e R s m args below meth c H locs cells slots Q (F0 m (ai_pc rs) lc (st.map (ai_cv sa base)))
/-- a method's facts -/
theorem ai_mth {M : ai_M} (hM : M ∈ ai_mt) (hk : ai_mK M < 9) : Cond.code (ai_mY M) (ai_mB M) (ai_mL M) (ai_mT M) ∈ ai_gw ∧ (ai_mY M).cls = ai_own M ∧ ((ai_mY M).cls ≠ "java/lang/invoke/MethodHandle" ∧ (ai_mY M).cls ≠ "java/lang/invoke/VarHandle" ∧ (parseMethodDescriptor (ai_mY M).desc).map (fun d => d.parameters.length) = some (ai_mN M)) ∧ plainName (ai_mY M).cls = true ∧ Cond.initialized (ai_mY M).cls ∈ ai_gw ∧ ai_pc (ai_mR M) = 0 ∧ ai_mC M ≠ 12 ∧ ai_mkd M = true := by
  rcases (ai_ok_m M hM).1 with h | h
  · exact absurd hk (by have := ai_law12 M hM h; omega)
  · simp only [ai_mok, Bool.and_eq_true, decide_eq_true_eq] at h
    obtain ⟨h1, h2, h3, h4, h5, h6, h7, h8⟩ := h
    refine ⟨ai_gw_of h1, h2, h3, h4, by rw [h2]; exact ai_gw_of h5, ?_, h7, h8⟩
    cases hr : ai_mR M with
    | nil => rw [hr] at h6; cases h6
    | cons r t => rw [hr] at h6; exact Option.some.inj h6
theorem ai_met {l : Launch} {D : va_G} {cas : Nat → ClassId} {sa : Nat → Nat} {base : Nat} {Hb : Heap} {X : ai_X} {n : Nat} (S : ai_Snd l D cas sa base Hb X n) {M : ai_M} (hM : M ∈ ai_mt) (hk : ai_mK M < 9) {av : List Value} {h : ai_H} {o : ai_O} (hfl : (ai_fl av).length ≤ ai_mL M) (hrun : ai_run X n M (ai_mR M, ai_loc (ai_mL M) av, [], h) = some o) :
    Met l (ai_mY M) (.code (ai_mY M) (ai_mB M) (ai_mL M) (ai_mT M) :: ai_gw) { frames := ai_mF M, cells := o.2.2.1, slots := o.2.2.2, locals := ai_mO M } (ai_Pc D cas sa base Hb av h) (ai_Qc D cas sa base Hb o.1 o.2.1) o.2.2.1 o.2.2.2 (ai_A base) := by
  obtain ⟨f1, f2, f3, f4, f5, f6, f7, f8⟩ := ai_mth hM hk
  refine Met.ofW (cc := ai_mB M) (maxL := ai_mL M) (ret := ai_mT M) f4 rfl ?_
  intro p e s m args below meth c s₁ B hml hv
  obtain ⟨rfl, hRp, hK, hE⟩ := hv
  have hts := atoms_spec (ws := .code (ai_mY M) (ai_mB M) (ai_mL M) (ai_mT M) :: ai_gw) B.pre
  have hown : s.vm.findClass (ai_own M) = some m.cls := by rw [← f2]; exact findClass_of_methodNamed B.named
  have hlocks := B.notSynchronized
  have hr := B.returns
  rw [lg_entry_eq]
  have hC : ai_Cx D cas sa base Hb X M p { frames := ai_mF M, cells := o.2.2.1, slots := o.2.2.2, locals := ai_mO M } s m (av.map (ai_cv sa base)).toArray meth c :=
    ⟨B.exec, B.bytes, hml, hown, fun w hw => hts w (List.mem_cons_of_mem _ hw), hK, Or.inr (name_of_methodNamed B.named B.method).1, Nat.le_refl _, Nat.le_refl _, hE, fun z => absurd z f7, hRp.2.2.1⟩
  have K := S M (ai_mR M) (ai_loc (ai_mL M) av) [] h o hrun hM (List.suffix_refl _) p e { frames := ai_mF M, cells := o.2.2.1, slots := o.2.2.2, locals := ai_mO M } s m (av.map (ai_cv sa base)).toArray below meth c s.heap [] 0 0 (MQ below (ai_Qc D cas sa base Hb o.1 o.2.1) (av.map (ai_cv sa base)).toArray s o.2.2.1 o.2.2.2 (ai_A base)) _ hC (ai_LV.entry hfl) hRp (fun q hq => by simp at hq) (by rw [hRp.1]; omega) (by simp) (by simp) ?_
  · rw [f6] at K
    exact K
  · intro pc1 lc1 H1 locs1 hd hrt hRp1 hl1
    rw [Nat.zero_add, Nat.zero_add]
    obtain ⟨ov, oh, oc, os⟩ := o
    simp only at hd hrt hRp1 ⊢
    match ov, hd, hrt with
    | none, hd, hrt =>
      exact W.vret B.exec B.bytes (hr.trans hrt) (fun t ht hW => ⟨rfl, by rw [ht]; exact hRp1⟩) hl1 hd
    | some (.int v), hd, hrt =>
      change ai_rok (ai_mT M) v = true at hrt
      cases hT : ai_mT M with
      | none => rw [hT] at hrt; simp [ai_rok] at hrt
      | some ty =>
        rw [hT] at hrt hr
        refine W.zret B.exec B.bytes hr ?_ (fun t ht hW => ⟨rfl, by rw [ht]; exact hRp1⟩) hl1 hd
        cases ty <;> simp [ai_rok] at hrt <;> first | rfl | (rcases hrt with rfl | rfl <;> rfl)
    | some (.long v), hd, hrt =>
      exact W.lret B.exec B.bytes (hr.trans hrt) (fun t ht hW => ⟨rfl, by rw [ht]; exact hRp1⟩) hl1 hd
    | some (.ref _), hd, hrt => exact hrt.elim
    | some .null, hd, hrt => exact hrt.elim
    | some (.float _), hd, hrt => exact hrt.elim
    | some (.double _), hd, hrt => exact hrt.elim
    | some (.retAddr _), hd, hrt => exact hrt.elim
end
section
/-! SOUNDNESS, by induction on the fuel -/
section AISOUND
variable {l : Launch} {D : va_G} {cas : Nat → ClassId} {sa : Nat → Nat} {base : Nat} {Hb : Heap} {X : ai_X}
theorem ai_kd7 {i : Instr} (h : ai_kd i = 7) : (∃ k, i = .invokevirtual k) ∨ (∃ k, i = .invokestatic k) ∨ ∃ k, i = .invokespecial k := by
  cases i <;> simp [ai_kd] at h ⊢
theorem ai_kd1 {i : Instr} (h : ai_kd i = 1) : i = .ireturn := by cases i <;> simp [ai_kd] at h ⊢
theorem ai_kd2 {i : Instr} (h : ai_kd i = 2) : i = .lreturn := by cases i <;> simp [ai_kd] at h ⊢
theorem ai_kd3 {i : Instr} (h : ai_kd i = 3) : i = .return_ := by cases i <;> simp [ai_kd] at h ⊢
theorem ai_kd4 {i : Instr} (h : ai_kd i = 4) : ∃ k, i = .new k := by cases i <;> simp [ai_kd] at h ⊢
theorem ai_kd5 {i : Instr} (h : ai_kd i = 5) : ∃ k, i = .newarray k := by cases i <;> simp [ai_kd] at h ⊢
theorem ai_kd6 {i : Instr} (h : ai_kd i = 6) : ∃ k, i = .anewarray k := by cases i <;> simp [ai_kd] at h ⊢
theorem ai_run_ne {n : Nat} {M : ai_M} {rs : List ai_R} {ls : ai_L} {st : List Value} {h : ai_H} {o : ai_O} (hr : ai_run X n M (rs, ls, st, h) = some o) : rs ≠ [] := by
  rintro rfl
  cases n <;> simp [ai_run] at hr
theorem ai_sum_cv {sa : Nat → Nat} {base : Nat} (t : List Value) : ((t.map (ai_cv sa base)).map fun v => v.category).sum = ai_sum t := by
  simp only [ai_sum, List.map_map]
  congr 2
  funext v
  exact ai_cv_cat sa base v
theorem ai_goodIn {M : ai_M} (h : Cond.code (ai_mY M) (ai_mB M) (ai_mL M) (ai_mT M) ∈ ai_gw) : GoodIn ai_gw (.code (ai_mY M) (ai_mB M) (ai_mL M) (ai_mT M) :: ai_gw) := by
  intro w hw
  have hm : w ∈ ai_gw := by
    rcases List.mem_cons.mp hw with rfl | z
    · exact h
    · exact z
  exact ⟨hm, ai_gw_good hm⟩
theorem ai_nfw : nativeFrameWords "java/lang/System" "arraycopy" 5 = 7 := by decide +kernel
set_option maxHeartbeats 4000000 in
theorem ai_stp_len {M : ai_M} {r : ai_R} {rs rs' : List ai_R} {ls ls' : ai_L} {st st' : List Value} {h h' : ai_H} (hs : ai_stp X M r rs ls st h = some (rs', ls', st', h')) : h'.length = h.length := by
  unfold ai_stp at hs
  simp only [ai_br] at hs
  split at hs <;> (repeat' split at hs) <;> first | (cases hs; done) | (simp only [Option.some.injEq, Prod.mk.injEq] at hs; obtain ⟨-, -, -, rfl⟩ := hs; simp)
theorem ai_cpy_len {st t : List Value} {h h' : ai_H} (hs : ai_cpy st h = some (t, h')) : h'.length = h.length := by
  unfold ai_cpy at hs
  (repeat' split at hs) <;> first | (cases hs; done) | (simp only [Option.some.injEq, Prod.mk.injEq] at hs; obtain ⟨-, rfl⟩ := hs; simp)
/-- the cells that the interpreter counts are those that it made -/
theorem ai_run_cnt : ∀ (n : Nat) (M : ai_M) (rs : List ai_R) (ls : ai_L) (st : List Value) (h : ai_H) (o : ai_O), ai_run X n M (rs, ls, st, h) = some o → o.2.1.length = h.length + o.2.2.1 := by
  intro n
  induction n with
  | zero => intro M rs ls st h o hr; simp [ai_run] at hr
  | succ n ih =>
    intro M rs ls st h o hr
    cases rs with
    | nil => exact absurd rfl (ai_run_ne hr)
    | cons r rs =>
    unfold ai_run at hr
    split at hr
    · split at hr
      · rename_i s1 hs1
        obtain ⟨rs1, ls1, st1, h1⟩ := s1
        rw [ih _ _ _ _ _ _ hr, ai_stp_len hs1]
      · cases hr
    · (repeat' split at hr) <;> first | (cases hr; done) | (cases hr; rfl)
    · (repeat' split at hr) <;> first | (cases hr; done) | (cases hr; rfl)
    · (repeat' split at hr) <;> first | (cases hr; done) | (cases hr; rfl)
    · split at hr
      · obtain ⟨o1, ho1, rfl⟩ := Option.map_eq_some_iff.mp hr
        have := ih _ _ _ _ _ _ ho1
        simp [ai_add] at this ⊢; omega
      · cases hr
    · split at hr
      · split at hr
        · cases hr
        · obtain ⟨o1, ho1, rfl⟩ := Option.map_eq_some_iff.mp hr
          have := ih _ _ _ _ _ _ ho1
          simp [ai_add] at this ⊢; omega
      · cases hr
    · split at hr
      · split at hr
        · cases hr
        · obtain ⟨o1, ho1, rfl⟩ := Option.map_eq_some_iff.mp hr
          have := ih _ _ _ _ _ _ ho1
          simp [ai_add] at this ⊢; omega
      · cases hr
    · split at hr
      · (repeat' split at hr) <;> first | (cases hr; done) | exact ih _ _ _ _ _ _ hr
      · split at hr
        · split at hr
          · rename_i t h1 hcp
            split at hr
            · rw [ih _ _ _ _ _ _ hr, ai_cpy_len hcp]
            · cases hr
          · cases hr
        · split at hr
          · (repeat' split at hr) <;> first | (cases hr; done) | exact ih _ _ _ _ _ _ hr
          · split at hr
            · (repeat' split at hr) <;> first | (cases hr; done) | exact ih _ _ _ _ _ _ hr
            · split at hr
              · (repeat' split at hr) <;> first | (cases hr; done) | exact ih _ _ _ _ _ _ hr
              · split at hr
                · (repeat' split at hr) <;> first | (cases hr; done) | exact ih _ _ _ _ _ _ hr
                · split at hr
                  · split at hr
                    · split at hr
                      · split at hr
                        · split at hr
                          · rename_i o1 ho1
                            obtain ⟨o2, ho2, rfl⟩ := Option.map_eq_some_iff.mp hr
                            have e1 := ih _ _ _ _ _ _ ho1
                            have e2 := ih _ _ _ _ _ _ ho2
                            simp [ai_add]; omega
                          · cases hr
                        · cases hr
                      · cases hr
                    · cases hr
                  · cases hr
    · cases hr
set_option maxHeartbeats 4000000 in
theorem ai_sound : ∀ n : Nat, ai_Snd l D cas sa base Hb X n := by
  intro n
  induction n with
  | zero => intro M rs ls st h o hrun; simp [ai_run] at hrun
  | succ n S =>
    intro M rs ls st h o hrun hM hsuf p e R s m args below meth c H locs cells slots Q lc C hLV hR hlocs hcnt hcc hcs hret
    have hrk := (ai_ok_m M hM).2
    simp only [ai_rk, Bool.and_eq_true] at hrk
    obtain ⟨hrows, hcont⟩ := hrk
    cases rs with
    | nil => exact absurd rfl (ai_run_ne hrun)
    | cons r rs =>
    have hrow : ai_row M r = true := List.all_eq_true.mp hrows r (hsuf.subset List.mem_cons_self)
    have hsq := ai_seq hcont hsuf
    have hs' : rs <:+ ai_mR M := (List.suffix_cons _ _).trans hsuf
    have hrow0 := hrow
    simp only [ai_row, Bool.and_eq_true, decide_eq_true_eq] at hrow0
    obtain ⟨hdg, hlen, hlnk⟩ := hrow0
    show W p l e R s m args below meth c H locs cells slots Q (F0 m r.1 lc (st.map (ai_cv sa base)))
    unfold ai_run at hrun
    split at hrun
    · -- a step
      split at hrun
      · rename_i s1 hs1
        obtain ⟨rs1, ls1, st1, h1⟩ := s1
        refine ai_stp_ok C hcont hrow hsuf hs1 (ai_run_ne hrun) hLV hR hlocs hcnt fun lc1 H1 locs1 a b d e1 e2 => ?_
        exact S M rs1 ls1 st1 h1 o hrun hM a p e R s m args below meth c H1 locs1 cells slots Q lc1 C b d e1 (by rw [e2]; exact hcnt) hcc hcs hret
      · cases hrun
    · -- ireturn
      rename_i hk
      split at hrun
      · rename_i v
        split at hrun
        · rename_i ht
          cases hrun
          rw [ai_kd1 hk] at hdg hlen
          obtain e1 : r.2.2.1 = 1 := by simpa [ai_len] using hlen
          rw [e1] at hdg
          exact hret r.1 lc H locs hdg ht hR hlocs
        · cases hrun
      · cases hrun
    · -- lreturn
      rename_i hk
      split at hrun
      · rename_i v
        split at hrun
        · rename_i ht
          cases hrun
          rw [ai_kd2 hk] at hdg hlen
          obtain e1 : r.2.2.1 = 1 := by simpa [ai_len] using hlen
          rw [e1] at hdg
          exact hret r.1 lc H locs hdg ht hR hlocs
        · cases hrun
      · cases hrun
    · -- return
      rename_i hk
      split at hrun
      · split at hrun
        · rename_i ht
          cases hrun
          rw [ai_kd3 hk] at hdg hlen
          obtain e1 : r.2.2.1 = 1 := by simpa [ai_len] using hlen
          rw [e1] at hdg
          exact hret r.1 lc H locs hdg ht hR hlocs
        · cases hrun
      · cases hrun
    · -- new
      rename_i hk
      split at hrun
      · rename_i fs hfs
        obtain ⟨o1, ho1, rfl⟩ := Option.map_eq_some_iff.mp hrun
        obtain ⟨k, hi⟩ := ai_kd4 hk
        rw [hi] at hdg hlen
        obtain e1 : r.2.2.1 = 3 := by simpa [ai_len] using hlen
        rw [e1] at hdg
        rw [e1] at hsq
        simp only [ai_lnk, hi] at hlnk
        split at hlnk
        · rename_i q hq
          obtain ⟨f1, f2, f3, f4, f5, f6, f7, f8⟩ := ai_cls hq
          have hfd : ai_df.getD r.2.2.2.2.1 [] = fs := by rw [List.getD_eq_getElem?_getD, hfs]; rfl
          rw [hfd] at f6 f8
          obtain ⟨hx, hb, hml, hown, hts, hK, hnm, hfr, hlo, hE, hX, hLo⟩ := id C
          have hpl : fs.map (ai_cv sa base) = fs := ai_plain_ok (List.all_eq_true.mp ai_df_plain fs (List.mem_of_getElem? hfs))
          simp only [ai_add] at hcc hcs hret
          rw [f6] at hcs hret
          refine va_new (D := D) (C := q.1) (T := q.2.1) (N := q.2.2) hx hb hts f1 _ f2 hown (hts _ (ai_gw_of hlnk)) (hts _ f4) (hts _ f5) hK hR.2.1 ai_D (hR.S hlocs) (fun z hz => by rw [hR.2.2.2] at hz; exact hz) hq f8 (by omega) (by omega) hdg ?_
          intro q1 H1 hP1 hD1 hS1
          refine ai_szW fun hup => ?_
          have hq1 := ai_newq hP1 hD1 (by omega)
          subst hq1
          have hP2 : va_P D ai_cl (ai_W cas (ai_cv sa base) base 0 (h ++ [.inr (r.2.2.2.2.1, fs)])) H1 := by
            rw [ai_W_app, Nat.zero_add]
            simpa [ai_cE, hpl] using hP1
          rw [← hsq (ai_run_ne ho1)]
          refine S M rs ls _ _ o1 ho1 hM hs' p e R s m args below meth c H1 locs (cells + 1) (slots + q.2.2) Q lc C hLV (ai_Rp.of hP2 hS1 hR.2.2.2 (by simp) (by simp; omega)) hlocs (by simp; omega) (by omega) (by omega) ?_
          intro pc1 lc1 H2 locs2 a b d e2
          have := hret pc1 lc1 H2 locs2 a b d e2
          rw [Nat.add_assoc, Nat.add_assoc]
          exact this
        · cases hlnk
      · cases hrun
    · -- newarray
      rename_i hk
      split at hrun
      · rename_i k t f hf
        split at hrun
        · cases hrun
        · rename_i hkk
          obtain ⟨o1, ho1, rfl⟩ := Option.map_eq_some_iff.mp hrun
          obtain ⟨ty, hi⟩ := ai_kd5 hk
          rw [hi] at hdg hlen ho1 hf
          obtain e1 : r.2.2.1 = 2 := by simpa [ai_len] using hlen
          rw [e1] at hdg
          rw [e1] at hsq
          obtain ⟨hx, hb, hml, hown, hts, hK, hnm, hfr, hlo, hE, hX, hLo⟩ := id C
          simp only [ai_add] at hcc hcs hret
          simp only [not_or, Nat.not_lt] at hkk
          simp only [ai_nt] at ho1 hf
          have key : ∀ (t0 : Nat) (fty : FieldType), ai_at ty = t0 → newarray.typeOf ty = fty → ai_ty[t0]? = some fty → (Cond.arrayClass fty) ∈ ai_gw → (∀ cA : ClassId, vp_cell cA (k.toNatClampNeg, f) = arrV cA k.toNatClampNeg (fun _ => defaultValue fty)) → componentBytes fty ≤ 8 → (∀ g, f ≠ .inr (.inr g)) → W p l e R s m args below meth c H locs cells slots Q (F0 m r.1 lc ((Value.int k :: t).map (ai_cv sa base))) := by
            intro t0 fty ha hty htt hac hcell hcb hng
            subst hty
            refine va_newa hx hb (hts _ hac) rfl hK hR.2.1 ai_D (hR.S hlocs) (fun z hz => by rw [hR.2.2.2] at hz; exact hz) (N' := k.toNatClampNeg) (a0 := (k.toNatClampNeg, f)) hcell hkk.1 rfl (by have := Nat.mul_le_mul hkk.2 hcb; omega) (by omega) (by omega) hdg ?_
            intro q1 cA H1 hK1 hP1 hD1 hS1
            refine ai_szW fun hup => ?_
            have hq1 := ai_newq hP1 hD1 (by omega)
            subst hq1
            have hcA : cA = cas t0 := by
              refine ai_ra (hK1.2 6 (cA, newarray.typeOf ty) ?_).2 (hK.2 t0 _ (ai_tys_at htt)).2
              rw [List.getElem?_append_right (by simp [ai_tys])]; simp [ai_tys]
            have hP2 : va_P D ai_cl (ai_W cas (ai_cv sa base) base 0 (h ++ [.inl (t0, k.toNatClampNeg, f)])) H1 := by
              rw [ai_W_app, Nat.zero_add]
              rw [hcA] at hP1
              rcases f with g | g | g
              · exact hP1
              · exact hP1
              · exact absurd rfl (hng g)
            rw [← hsq (ai_run_ne ho1)]
            rw [ha] at ho1
            refine S M rs ls _ _ o1 ho1 hM hs' p e R s m args below meth c H1 locs (cells + 1) (slots + k.toNatClampNeg) Q lc C hLV (ai_Rp.of hP2 hS1 hR.2.2.2 (by simp) (by simp; omega)) hlocs (by simp; omega) (by omega) (by omega) ?_
            intro pc1 lc1 H2 locs2 a b d e2
            have := hret pc1 lc1 H2 locs2 a b d e2
            rw [Nat.add_assoc, Nat.add_assoc]
            exact this
          cases ty <;> simp only [ai_at, ai_arr0] at hf <;> first | (cases hf; done) | skip
          all_goals (cases hf)
          all_goals first
            | exact key 0 .int rfl rfl rfl (ai_gw_of ai_ok_ap.1) (fun _ => rfl) (by decide) (fun g z => by cases z)
            | exact key 1 .long rfl rfl rfl (ai_gw_of ai_ok_ap.2.1) (fun _ => rfl) (by decide) (fun g z => by cases z)
            | exact key 2 .boolean rfl rfl rfl (ai_gw_of ai_ok_ap.2.2) (fun _ => rfl) (by decide) (fun g z => by cases z)
      · cases hrun
    · -- anewarray
      rename_i hk
      split at hrun
      · rename_i k t
        split at hrun
        · cases hrun
        · rename_i hkk
          obtain ⟨o1, ho1, rfl⟩ := Option.map_eq_some_iff.mp hrun
          obtain ⟨i, hi⟩ := ai_kd6 hk
          rw [hi] at hdg hlen
          obtain e1 : r.2.2.1 = 3 := by simpa [ai_len] using hlen
          rw [e1] at hdg
          rw [e1] at hsq
          obtain ⟨hx, hb, hml, hown, hts, hK, hnm, hfr, hlo, hE, hX, hLo⟩ := id C
          simp only [ai_add] at hcc hcs hret
          simp only [not_or, Nat.not_lt] at hkk
          simp only [ai_lnk, hi] at hlnk
          split at hlnk
          · rename_i C1 hC1
            refine va_newq hx hb hown (hts _ (ai_gw_of hlnk)) (hE.2.1 _ _ hC1) hK hR.2.1 ai_D (hR.S hlocs) (fun z hz => by rw [hR.2.2.2] at hz; exact hz) (N' := k.toNatClampNeg) hkk.1 rfl (by omega) (by omega) (by omega) hdg ?_
            intro q1 cA H1 hK1 hP1 hD1 hS1
            refine ai_szW fun hup => ?_
            have hq1 := ai_newq hP1 hD1 (by omega)
            subst hq1
            have hcA : cA = cas r.2.2.2.2.1 := by
              refine ai_ra (hK1.2 6 (cA, .object C1) ?_).2 (hK.2 _ _ (ai_tys_at hC1)).2
              rw [List.getElem?_append_right (by simp [ai_tys])]; simp [ai_tys]
            have hP2 : va_P D ai_cl (ai_W cas (ai_cv sa base) base 0 (h ++ [.inl (r.2.2.2.2.1, k.toNatClampNeg, .inr (.inr (.inr (.inr (fun _ => none)))))])) H1 := by
              rw [ai_W_app, Nat.zero_add]
              rw [hcA] at hP1
              exact hP1
            rw [← hsq (ai_run_ne ho1)]
            refine S M rs ls _ _ o1 ho1 hM hs' p e R s m args below meth c H1 locs (cells + 1) (slots + k.toNatClampNeg) Q lc C hLV (ai_Rp.of hP2 hS1 hR.2.2.2 (by simp) (by simp; omega)) hlocs (by simp; omega) (by omega) (by omega) ?_
            intro pc1 lc1 H2 locs2 a b d e2
            have := hret pc1 lc1 H2 locs2 a b d e2
            rw [Nat.add_assoc, Nat.add_assoc]
            exact this
          · cases hlnk
      · cases hrun
    · -- a call
      rename_i hk
      obtain ⟨hx, hb, hml, hown, hts, hK, hnm, hfr, hlo, hE, hX, hLo⟩ := id C
      have hlen3 : r.2.2.1 = 3 := by
        rcases ai_kd7 hk with ⟨k, hi⟩ | ⟨k, hi⟩ | ⟨k, hi⟩ <;> · rw [hi] at hlen; simpa [ai_len] using hlen
      rw [hlen3] at hdg hsq
      have hsz : lc.size = ai_mL M := hLV.2.1
      split at hrun
      · -- Object's own constructor
        rename_i h4
        split at hrun
        · rename_i a t
          split at hrun
          · rename_i hsm
            rcases ai_kd7 hk with ⟨k, hi⟩ | ⟨k, hi⟩ | ⟨k, hi⟩
            · simp [ai_lnk, hi, h4] at hlnk
            · simp [ai_lnk, hi, h4] at hlnk
            · simp only [ai_lnk, hi, h4] at hlnk
              simp only [show ¬ (4 = 2) by decide, show ¬ (4 = 3) by decide, if_false, Bool.and_eq_true, decide_eq_true_eq] at hlnk
              rw [hi] at hdg
              refine W.objInit hx hb hown (hts _ (ai_gw_of hlnk.2.1)) (hts _ (ai_gw_of ai_oi.1)) (hts _ (ai_gw_of ai_oi.2)) rfl (by rw [hml]; exact hsz) rfl hdg (by omega) (by rw [ai_sum_cv]; show 2 * 0 + ai_sum t + 12 ≤ _; omega) ?_
              refine W.eq (g2 := F0 m (r.1 + 3) lc (t.map (ai_cv sa base))) rfl ?_
              rw [← hsq (ai_run_ne hrun)]
              exact S M rs ls t h o hrun hM hs' p e R s m args below meth c H locs cells slots Q lc C hLV hR hlocs hcnt hcc hcs hret
          · cases hrun
        · cases hrun
      · rename_i hn4
        split at hrun
        · -- arraycopy
          rename_i h5
          split at hrun
          · rename_i t h1 hcp
            split at hrun
            · rename_i hsm
              rcases ai_kd7 hk with ⟨k, hi⟩ | ⟨k, hi⟩ | ⟨k, hi⟩
              · simp [ai_lnk, hi, h5] at hlnk
              · simp only [ai_lnk, hi, h5] at hlnk
                simp only [show ¬ (5 = 1) by decide, show ¬ (5 = 8) by decide, show ¬ (5 = 9) by decide, if_false, Bool.and_eq_true, decide_eq_true_eq] at hlnk
                rw [hi] at hdg
                unfold ai_cpy at hcp
                split at hcp
                · rename_i n1 dp b1 sp a1 t1
                  split at hcp
                  · rename_i n0 f n2 g ha1 hb1
                    split at hcp
                    · cases hcp
                    · rename_i hz
                      simp only [Option.some.injEq, Prod.mk.injEq] at hcp
                      obtain ⟨rfl, rfl⟩ := hcp
                      simp only [not_or, Nat.not_lt] at hz
                      refine va_copyi hx hb (by rw [hml]; exact hsz.symm) hown (hts _ (ai_gw_of hlnk.2.1)) (hts _ (ai_gw_of ai_cpw.1)) (hts _ (ai_gw_of ai_cpw.2.1)) (hts _ (ai_gw_of ai_cpw.2.2)) hK hR.2.1 ai_D (hR.S hlocs) a1 b1 0 0 (ty := .int) (ai_W_at ha1) (ai_W_at hb1) (ai_tys_at rfl) (ai_tys_at rfl) rfl hz.1 hz.2.1 hz.2.2.1 hz.2.2.2.1 hz.2.2.2.2 (fun _ _ => rfl) (by omega) (by rw [ai_sum_cv, ai_nfw]; omega) hdg ?_
                      intro H1 locs1 hP1 hD1 hS1
                      refine ai_szW fun hup => ?_
                      rw [← hsq (ai_run_ne hrun)]
                      exact S M rs ls t1 _ o hrun hM hs' p e R s m args below meth c H1 locs1 cells slots Q lc C hLV (ai_Rp.of (locs := locs1) (by rw [ai_W_set]; simpa [ai_cE] using hP1) hS1 hR.2.2.2 (by intro z; simp at z; subst z; simp at hb1) (by rw [List.length_set]; omega)) hS1.2.2 (by rw [List.length_set]; exact hcnt) hcc hcs hret
                  · rename_i n0 f n2 g ha1 hb1
                    split at hcp
                    · cases hcp
                    · rename_i hz
                      simp only [Option.some.injEq, Prod.mk.injEq] at hcp
                      obtain ⟨rfl, rfl⟩ := hcp
                      simp only [not_or, Nat.not_lt] at hz
                      refine va_copyl hx hb (by rw [hml]; exact hsz.symm) hown (hts _ (ai_gw_of hlnk.2.1)) (hts _ (ai_gw_of ai_cpw.1)) (hts _ (ai_gw_of ai_cpw.2.1)) (hts _ (ai_gw_of ai_cpw.2.2)) hK hR.2.1 ai_D (hR.S hlocs) a1 b1 1 1 (ty := .long) (ai_W_at ha1) (ai_W_at hb1) (ai_tys_at rfl) (ai_tys_at rfl) rfl hz.1 hz.2.1 hz.2.2.1 hz.2.2.2.1 hz.2.2.2.2 (fun _ _ => rfl) (by omega) (by rw [ai_sum_cv, ai_nfw]; omega) hdg ?_
                      intro H1 locs1 hP1 hD1 hS1
                      refine ai_szW fun hup => ?_
                      rw [← hsq (ai_run_ne hrun)]
                      exact S M rs ls t1 _ o hrun hM hs' p e R s m args below meth c H1 locs1 cells slots Q lc C hLV (ai_Rp.of (locs := locs1) (by rw [ai_W_set]; simpa [ai_cE] using hP1) hS1 hR.2.2.2 (by intro z; simp at z; subst z; simp at hb1) (by rw [List.length_set]; omega)) hS1.2.2 (by rw [List.length_set]; exact hcnt) hcc hcs hret
                  · cases hcp
                · cases hcp
              · simp [ai_lnk, hi, h5] at hlnk
            · cases hrun
          · cases hrun
        · rename_i hn5
          have hSs : va_S (ai_A base) s.heap H locs := ⟨by rw [hR.1]; omega, fun q h1 h2 => by rw [hLo q (Nat.not_le.mp h2)]; exact hR.2.2.1 q (Nat.not_le.mp h2), hlocs⟩
          have hkp : ∀ q : Nat, q < Hb.size → ¬ ai_A base q → s.heap[q]? = Hb[q]? := fun q h1 h2 => hLo q (Nat.not_le.mp h2)
          have hbelow : ai_Lo base Hb H := hR.2.2.1
          split at hrun
          · -- String.length
            rename_i h6
            split at hrun
            · rename_i k t
              split at hrun
              · rename_i hsm
                rcases ai_kd7 hk with ⟨i, hi⟩ | ⟨i, hi⟩ | ⟨i, hi⟩
                · simp only [ai_lnk, hi, h6] at hlnk
                  simp only [show ¬ (6 = 0) by decide, if_false, if_true, Bool.and_eq_true, decide_eq_true_eq] at hlnk
                  rw [hi] at hdg
                  refine sm_call (va_runV (C := "java/lang/String") (b := sa k.toNat) (As := []) (rest := t.map (ai_cv sa base)) ⟨hx, hb, hml, hown, hts⟩ (sm_length l hsm.2 hR.2.2.2) ⟨callB_of 0 hts (sm_good sw_length) rfl rfl rfl (hts _ (ai_gw_of sw_ini)) (hts _ (ai_gw_of hlnk.1)) (by decide +kernel) ⟨by show 1 + 1 ≤ R.frames; omega, by show 8 + (1 + 11) + 20 ≤ R.locals; omega⟩, hts _ (ai_gw_of sw_length.2.1), hts _ (ai_gw_of sw_length.2.2)⟩ ⟨sm_blind, vk_recv (hE.2.2.2.1.kept hkp) hsm.2 hSs, fun U hU hW => ⟨rfl, by rw [hU]; exact hbelow, hE.warm hW⟩⟩ rfl rfl hsz rfl (by rw [ai_sum_cv]; show 2 * 0 + ai_sum t ≤ 8; omega) hdg ⟨by show cells + 0 ≤ R.cells; omega, by show slots + 0 ≤ R.slots; omega⟩) ?_
                  rw [← hsq (ai_run_ne hrun)]
                  exact S M rs ls _ h o hrun hM hs' p e R s m args below meth c H locs cells slots Q lc C hLV hR hlocs hcnt hcc hcs hret
                · simp [ai_lnk, hi, h6] at hlnk
                · simp [ai_lnk, hi, h6] at hlnk
              · cases hrun
            · cases hrun
          · rename_i hn6
            split at hrun
            · -- String.charAt
              rename_i h7
              split at hrun
              · rename_i j k t
                split at hrun
                · rename_i hsm
                  rcases ai_kd7 hk with ⟨i, hi⟩ | ⟨i, hi⟩ | ⟨i, hi⟩
                  · simp only [ai_lnk, hi, h7] at hlnk
                    simp only [show ¬ (7 = 0) by decide, show ¬ (7 = 6) by decide, if_false, if_true, Bool.and_eq_true, decide_eq_true_eq] at hlnk
                    rw [hi] at hdg
                    refine sm_call (va_runV (C := "java/lang/String") (b := sa k.toNat) (As := [.int j]) (rest := t.map (ai_cv sa base)) ⟨hx, hb, hml, hown, hts⟩ (sm_charAt l hsm.2.1 hsm.2.2 hR.2.2.2) ⟨callB_of 1 hts (sm_good sw_charAt) rfl rfl rfl (hts _ (ai_gw_of sw_ini)) (hts _ (ai_gw_of hlnk.2.1)) (by decide +kernel) ⟨by show 3 + 1 ≤ R.frames; omega, by show 8 + (2 + 11) + 64 ≤ R.locals; omega⟩, hts _ (ai_gw_of sw_charAt.2.1), hts _ (ai_gw_of sw_charAt.2.2)⟩ ⟨sm_blind, vk_recv (hE.2.2.2.1.kept hkp) hsm.2.1 hSs, fun U hU hW => ⟨rfl, by rw [hU]; exact hbelow, hE.warm hW⟩⟩ rfl rfl hsz rfl (by rw [ai_sum_cv]; show 2 * 0 + ai_sum t ≤ 8; omega) hdg ⟨by show cells + 0 ≤ R.cells; omega, by show slots + 0 ≤ R.slots; omega⟩) ?_
                    rw [← hsq (ai_run_ne hrun)]
                    exact S M rs ls _ h o hrun hM hs' p e R s m args below meth c H locs cells slots Q lc C hLV hR hlocs hcnt hcc hcs hret
                  · simp [ai_lnk, hi, h7] at hlnk
                  · simp [ai_lnk, hi, h7] at hlnk
                · cases hrun
              · cases hrun
            · rename_i hn7
              split at hrun
              · -- Math.max
                rename_i h8
                split at hrun
                · rename_i y x t
                  split at hrun
                  · rename_i hsm
                    rcases ai_kd7 hk with ⟨i, hi⟩ | ⟨i, hi⟩ | ⟨i, hi⟩
                    · simp [ai_lnk, hi, h8] at hlnk
                    · simp only [ai_lnk, hi, h8] at hlnk
                      simp only [show ¬ (8 = 1) by decide, if_false, if_true, Bool.and_eq_true, decide_eq_true_eq] at hlnk
                      rw [hi] at hdg
                      refine va_mmax hx hb (by rw [hml]; exact hsz.symm) hown (hts _ (ai_gw_of hlnk.1)) (hts _ (ai_gw_of sw_max.1)) (hts _ (ai_gw_of sw_math)) (hts _ (ai_gw_of sw_max.2)) (by omega) (by rw [ai_sum_cv]; omega) (by omega) (by omega) hdg ?_
                      rw [← hsq (ai_run_ne hrun)]
                      exact S M rs ls _ h o hrun hM hs' p e R s m args below meth c H locs cells slots Q lc C hLV hR hlocs hcnt hcc hcs hret
                    · simp [ai_lnk, hi, h8] at hlnk
                  · cases hrun
                · cases hrun
              · rename_i hn8
                split at hrun
                · -- Math.min
                  rename_i h9
                  split at hrun
                  · rename_i y x t
                    split at hrun
                    · rename_i hsm
                      rcases ai_kd7 hk with ⟨i, hi⟩ | ⟨i, hi⟩ | ⟨i, hi⟩
                      · simp [ai_lnk, hi, h9] at hlnk
                      · simp only [ai_lnk, hi, h9] at hlnk
                        simp only [show ¬ (9 = 1) by decide, show ¬ (9 = 8) by decide, if_false, if_true, Bool.and_eq_true, decide_eq_true_eq] at hlnk
                        rw [hi] at hdg
                        refine va_mmin hx hb (by rw [hml]; exact hsz.symm) hown (hts _ (ai_gw_of hlnk.1)) (hts _ (ai_gw_of sw_min.1)) (hts _ (ai_gw_of sw_math)) (hts _ (ai_gw_of sw_min.2)) (by omega) (by rw [ai_sum_cv]; omega) (by omega) (by omega) hdg ?_
                        rw [← hsq (ai_run_ne hrun)]
                        exact S M rs ls _ h o hrun hM hs' p e R s m args below meth c H locs cells slots Q lc C hLV hR hlocs hcnt hcc hcs hret
                      · simp [ai_lnk, hi, h9] at hlnk
                    · cases hrun
                  · cases hrun
                · rename_i hn9
                  split at hrun
                  · -- the program's own methods
                    rename_i hlt
                    split at hrun
                    · rename_i M1 hM1
                      split at hrun
                      · rename_i av t hav
                        split at hrun
                        · rename_i hfs
                          split at hrun
                          · rename_i o1 ho1
                            obtain ⟨o2, ho2, rfl⟩ := Option.map_eq_some_iff.mp hrun
                            have hM1' : M1 ∈ ai_mt := List.mem_of_getElem? hM1
                            simp only [ai_add] at hcc hcs hret
                            -- behind the call
                            have after : ∀ (v : Option Value) (st₀ u : State) (L : List Loc) (a : Array Value), ai_Qc D cas sa base Hb o1.1 o1.2.1 a st₀ (.returned v) u → (∀ q ∈ L, ai_A base q.base) → W p l e R s m args below meth c u.heap (locs ++ L) (cells + o1.2.2.1) (slots + o1.2.2.2) Q (F0 m (r.1 + 3) lc (v.toList ++ t.map (ai_cv sa base))) := by
                              intro v st₀ u L a hq hL
                              obtain ⟨e1, hRu⟩ := hq
                              cases e1
                              rw [← hsq (ai_run_ne ho2)]
                              have hcn := ai_run_cnt _ _ _ _ _ _ _ ho1
                              have hst : (Option.map (ai_cv sa base) o1.1).toList ++ t.map (ai_cv sa base) = (o1.1.toList ++ t).map (ai_cv sa base) := by
                                cases o1.1 <;> simp
                              rw [hst]
                              refine S M rs ls _ _ o2 ho2 hM hs' p e R s m args below meth c u.heap (locs ++ L) (cells + o1.2.2.1) (slots + o1.2.2.2) Q lc C hLV hRu (fun q hq => (List.mem_append.mp hq).elim (hlocs q) (hL q)) (by rw [hcn]; omega) (by omega) (by omega) ?_
                              intro pc1 lc1 H2 locs2 a b d e2
                              have := hret pc1 lc1 H2 locs2 a b d e2
                              rw [Nat.add_assoc, Nat.add_assoc]
                              exact this
                            have hroom : cells + o1.2.2.1 ≤ R.cells ∧ slots + o1.2.2.2 ≤ R.slots := ⟨by omega, by omega⟩
                            have hW8 : ∀ (pcx : Nat) (stx : List Value), 2 * (F0 m pcx lc stx).monitorRoom + ((t.map (ai_cv sa base)).map fun v => v.category).sum ≤ 8 := fun pcx stx => by
                              rw [ai_sum_cv]; show 2 * 0 + ai_sum t ≤ 8; omega
                            rcases ai_kd7 hk with ⟨k, hi⟩ | ⟨k, hi⟩ | ⟨k, hi⟩
                            · -- an object's own method
                              rw [hi] at hdg
                              simp only [ai_lnk, hi, hM1] at hlnk
                              split at hlnk
                              · rename_i ha0
                                simp only [Bool.and_eq_true, decide_eq_true_eq] at hlnk
                                obtain ⟨g1, g2, g3, g4⟩ := hlnk
                                obtain ⟨f1, f2, f3, f4, f5, f6, f7, f8⟩ := ai_mth hM1' (by omega)
                                have hmet := ai_met (l := l) S hM1' (by omega) hfs.1 ho1
                                unfold ai_arg at hav
                                rw [if_neg (by omega)] at hav
                                split at hav
                                · rename_i a t1 hdrop
                                  split at hav
                                  · rename_i fc fsx hha
                                    split at hav
                                    · rename_i hfc
                                      simp only [Option.some.injEq, Prod.mk.injEq] at hav
                                      obtain ⟨rfl, rfl⟩ := hav
                                      subst hfc
                                      obtain ⟨q, hq, -⟩ := hR.2.1 a _ (ai_W_at hha)
                                      have hcl : q.1 = (ai_mY M1).cls := by
                                        rw [f2, ai_own, List.getD_eq_getElem?_getD, (ai_cls hq).2.2.2.2.2.2.1]; rfl
                                      simp only [ai_mkd, g2, Bool.and_eq_true] at f8
                                      have hst : st = (st.take (ai_mN M1)) ++ (.ref a :: t1) := by rw [← hdrop, List.take_append_drop]
                                      have hnl : (st.take (ai_mN M1)).length = ai_mN M1 := by
                                        rw [List.length_take]
                                        have : (st.drop (ai_mN M1)).length = (Value.ref a :: t1).length := by rw [hdrop]
                                        rw [List.length_drop, List.length_cons] at this
                                        omega
                                      refine ai_callW (va_runV (C := (ai_mY M1).cls) (b := base + a) (As := (st.take (ai_mN M1)).reverse.map (ai_cv sa base)) (rest := t1.map (ai_cv sa base)) ⟨hx, hb, hml, hown, hts⟩ hmet ⟨callB_of (ai_mN M1) hts (ai_goodIn f1) rfl rfl rfl (hts _ f5) (hts _ (ai_gw_of g1)) f3 ⟨Nat.le_trans g3 hfr, Nat.le_trans g4 hlo⟩, hts _ (ai_gw_of f8.1), hts _ (ai_gw_of f8.2)⟩ ⟨ai_blind, by rw [← hcl]; exact va_recv hK hR.2.1 hq (ai_W_at hha), fun U hU hW => ⟨rfl, by rw [hU]; exact hR, va_K.moved hW.alike hK, hE.warm hW⟩⟩ rfl (by rw [List.length_map, List.length_reverse, hnl]) hsz ?_ (hW8 _ _) hdg hroom) (fun v st₀ u L hq hL => after v st₀ u L _ hq hL)
                                      show st.map (ai_cv sa base) = _
                                      rw [hst, List.map_append, List.map_cons]
                                      simp [List.map_reverse, hnl, ai_cv]
                                    · cases hav
                                  · cases hav
                                · cases hav
                              · exfalso; revert hlnk; (repeat' split) <;> simp <;> omega
                            · -- a class's own method
                              rw [hi] at hdg
                              simp only [ai_lnk, hi, hM1] at hlnk
                              split at hlnk
                              · rename_i ha0
                                simp only [Bool.and_eq_true, decide_eq_true_eq] at hlnk
                                obtain ⟨g1, g2, g3, g4⟩ := hlnk
                                obtain ⟨f1, f2, f3, f4, f5, f6, f7, f8⟩ := ai_mth hM1' (by omega)
                                have hmet := ai_met (l := l) S hM1' (by omega) hfs.1 ho1
                                unfold ai_arg at hav
                                rw [if_pos ha0] at hav
                                split at hav
                                · rename_i hle
                                  simp only [Option.some.injEq, Prod.mk.injEq] at hav
                                  obtain ⟨rfl, rfl⟩ := hav
                                  simp only [ai_mkd, g2] at f8
                                  have hnl : (st.take (ai_mN M1)).length = ai_mN M1 := by rw [List.length_take]; omega
                                  refine ai_callW (va_runS (As := (st.take (ai_mN M1)).reverse.map (ai_cv sa base)) (rest := (st.drop (ai_mN M1)).map (ai_cv sa base)) ⟨hx, hb, hml, hown, hts⟩ hmet ⟨callB_of (ai_mN M1) hts (ai_goodIn f1) rfl rfl rfl (hts _ f5) (hts _ (ai_gw_of g1)) f3 ⟨Nat.le_trans g3 hfr, Nat.le_trans g4 hlo⟩, hts _ (ai_gw_of f8)⟩ ⟨ai_blind, fun U hU hW => ⟨rfl, by rw [hU]; exact hR, va_K.moved hW.alike hK, hE.warm hW⟩⟩ rfl (by rw [List.length_map, List.length_reverse, hnl]) hsz ?_ (hW8 _ _) hdg hroom) (fun v st₀ u L hq hL => after v st₀ u L _ hq hL)
                                  show st.map (ai_cv sa base) = _
                                  conv => lhs; rw [← List.take_append_drop (ai_mN M1) st]
                                  simp [List.map_reverse]
                                · cases hav
                              · exfalso; revert hlnk; (repeat' split) <;> simp <;> omega
                            · -- a constructor
                              rw [hi] at hdg
                              simp only [ai_lnk, hi, hM1] at hlnk
                              have hk2 : ai_mK M1 = 2 ∧ ai_mF M1 + 1 ≤ ai_mF M ∧ 8 + (ai_mL M1 + 11) + ai_mO M1 ≤ ai_mO M ∧ (ai_w r.2.2.2.2.2.2.1 (.methodLink (ai_own M) k (ai_mY M1)) = true ∨ (lw_tbl[r.2.2.2.2.2.2.1]? = some (.methodLinkNest (ai_own M) k (ai_mY M1) an_10) ∧ r.2.2.2.2.2.2.1 ∈ ai_nst)) ∧ r.2.2.2.2.1 ≠ 1 := by
                                split at hlnk
                                · simp only [Bool.and_eq_true, decide_eq_true_eq] at hlnk
                                  exact ⟨hlnk.2.1, hlnk.2.2.1, hlnk.2.2.2, Or.inl hlnk.1, by omega⟩
                                · split at hlnk
                                  · simp only [Bool.and_eq_true, decide_eq_true_eq] at hlnk
                                    exact ⟨hlnk.2.2.1, hlnk.2.2.2.1, hlnk.2.2.2.2, Or.inr ⟨hlnk.1, hlnk.2.1⟩, by omega⟩
                                  · simp only [Bool.and_eq_true, decide_eq_true_eq] at hlnk
                                    exact absurd hlnk.1 hn4
                              obtain ⟨g2, g3, g4, g1, gn⟩ := hk2
                              obtain ⟨f1, f2, f3, f4, f5, f6, f7, f8⟩ := ai_mth hM1' (by omega)
                              have hmet := ai_met (l := l) S hM1' (by omega) hfs.1 ho1
                              unfold ai_arg at hav
                              rw [if_neg gn] at hav
                              split at hav
                              · rename_i a t1 hdrop
                                split at hav
                                · rename_i fc fsx hha
                                  split at hav
                                  · rename_i hfc
                                    simp only [Option.some.injEq, Prod.mk.injEq] at hav
                                    obtain ⟨rfl, rfl⟩ := hav
                                    simp only [ai_mkd, g2, Bool.and_eq_true, decide_eq_true_eq] at f8
                                    have hst : st = (st.take (ai_mN M1)) ++ (.ref a :: t1) := by rw [← hdrop, List.take_append_drop]
                                    have hnl : (st.take (ai_mN M1)).length = ai_mN M1 := by
                                      rw [List.length_take]
                                      have : (st.drop (ai_mN M1)).length = (Value.ref a :: t1).length := by rw [hdrop]
                                      rw [List.length_drop, List.length_cons] at this
                                      omega
                                    have hstk : st.map (ai_cv sa base) = ((st.take (ai_mN M1)).reverse.map (ai_cv sa base)).reverse ++ .ref (base + a) :: t1.map (ai_cv sa base) := by
                                      conv => lhs; rw [hst]
                                      simp [List.map_reverse, ai_cv]
                                    have hT : ai_mT M1 = none := f8.2.2
                                    rw [hT] at hmet f1
                                    have hG : GoodIn ai_gw (.code (ai_mY M1) (ai_mB M1) (ai_mL M1) none :: ai_gw) := by have := ai_goodIn (M := M1) (by rw [hT]; exact f1); rwa [hT] at this
                                    rcases g1 with g1 | ⟨g1, gm⟩
                                    · exact ai_callW (va_runI (b := base + a) (As := (st.take (ai_mN M1)).reverse.map (ai_cv sa base)) (rest := t1.map (ai_cv sa base)) ⟨hx, hb, hml, hown, hts⟩ hmet ⟨callB_of (ai_mN M1) hts hG rfl rfl rfl (hts _ f5) (hts _ (ai_gw_of g1)) f3 ⟨Nat.le_trans g3 hfr, Nat.le_trans g4 hlo⟩, f8.2.1, hts _ (ai_gw_of f8.1)⟩ ⟨ai_blind, fun U hU hW => ⟨rfl, by rw [hU]; exact hR, va_K.moved hW.alike hK, hE.warm hW⟩⟩ rfl (by rw [List.length_map, List.length_reverse, hnl]) hsz hstk (hW8 _ _) hdg hroom) (fun v st₀ u L hq hL => after v st₀ u L _ hq hL)
                                    · exact ai_callW (va_runIN (host := an_10) (b := base + a) (As := (st.take (ai_mN M1)).reverse.map (ai_cv sa base)) (rest := t1.map (ai_cv sa base)) ⟨hx, hb, hml, hown, hts⟩ hmet ⟨va_cnB (ai_mN M1) hts hG rfl rfl rfl (hE.1 _ gm _ _ _ _ g1) (hts _ f5) f3 ⟨Nat.le_trans g3 hfr, Nat.le_trans g4 hlo⟩, f8.2.1, hts _ (ai_gw_of f8.1)⟩ ⟨ai_blind, fun U hU hW => ⟨rfl, by rw [hU]; exact hR, va_K.moved hW.alike hK, hE.warm hW⟩⟩ rfl (by rw [List.length_map, List.length_reverse, hnl]) hsz hstk (hW8 _ _) hdg hroom) (fun v st₀ u L hq hL => after v st₀ u L _ hq hL)
                                  · cases hav
                                · cases hav
                              · cases hav
                          · cases hrun
                        · cases hrun
                      · cases hrun
                    · cases hrun
                  · cases hrun
    · cases hrun
end AISOUND
end
section
/-! THE CLAIM OUT OF ONE WALK OF THE LAW'S BODY. Your part is whole_start (and what it stands on); all else here is the same for every law, but numbers. -/
def R_law : String := "OneBellLaw"
def lw_P (b : Addr) (xs : List Int32) (args : Array Value) (s : State) : Prop := args = #[.ref b] ∧ s.IntsAt b xs ∧ xs.length ≤ 384 ∧ (Jvm.Cond.and given_1 narrow_1).before args s = true
def lw_Q (_ : Array Value) (s : State) (o : Outcome) (t : State) : Prop := o = .returned (some (.int 1)) ∧ Framed s o t [] 600000 7302249
def lw_Z (below : List Frame) (a : Array Value) (s : State) : State → Prop := fun t => ∃ o, t.status = .running ∧ Ended t below o ∧ lw_Q a s o t
/-- the law's own end, with 1 on the stack, nothing written that was there before, its room as the claim has it -/
theorem lw_ret {p : Program} {l : Launch} {e : Env} {s : State} {m : MethodId} {below : List Frame} {meth : Method} {c : Code} {b : Nat} (hx : p.tables.exec = Jvm.exec) (hb : c.code = code) (hr : meth.sig.returnType = ret) (hlocks : meth.locks = false) {pc : Nat} {H : Heap} {ls : Array Slot} (hdg : decode code pc = .ok (.ireturn, 1)) : W p l e room_1 s m #[Value.ref b] below meth c H [] 600000 7302249 (lw_Z below #[Value.ref b] s) (F0 m pc ls [.int 1]) := by
  intro T hT X
  obtain ⟨fs, hret, hrun, hended, hW, hframe⟩ := X.leave (v := some (.int 1)) (hlocks := hlocks) (fun h => by rw [hr] at h; cases h)
  have hmeth' : T.vm.method? m = some meth := X.method'
  refine ⟨T.setFrames fs, ?_, .returned (some (.int 1)), hrun, hended, rfl, ⟨_, rfl⟩, hW, hframe⟩
  jvm_step X.here [X.here.top, hx, hb, hdg, hmeth', hr, ret, narrow_b1]
  (try refine ⟨rfl, ?_⟩); (try refine ⟨rfl, ?_⟩)
  first | (intro acts; rw [hret _ acts rfl rfl rfl]) | rw [hret _ _ rfl rfl rfl]
  exact Steps.refl _
/-- what holds at the law's entry: the machine, the code, the tables' words (any of lw_tbl by 'hts w (by decide +kernel)'), the script of L ints xs at the cell b, what the Statement gives of the start (any of its parts by flat_of_before) -/
def lw_At (p : Program) (s : State) (m : MethodId) (meth : Method) (c : Code) (b L : Nat) (xs : Nat → Int32) : Prop :=
  p.tables.exec = Jvm.exec ∧ c.code = code ∧ meth.sig.returnType = ret ∧ c.maxLocals = 4 ∧ s.vm.findClass R_law = some m.cls ∧ (∀ w ∈ lw_tbl, w.before #[Value.ref b] s = true) ∧ va_X b L xs s s.heap ∧ b < s.heap.size ∧ meth.locks = false ∧ (Jvm.Cond.and given_1 narrow_1).before #[Value.ref b] s = true
/-- the law's run, as the interpreter has it: for every script of at most N ints it ends with 1, within the room -/
def ai_good (N : Nat) : Prop := ∀ (L : Nat) (xs : Nat → Int32), L ≤ N → ∃ (n : Nat) (o : ai_O), ai_run (L, xs) n am_293 (ar_293, ai_loc 4 [.float 99], [], []) = some o ∧ o.1 = some (.int 1) ∧ o.2.2.1 ≤ 600000 ∧ o.2.2.2 ≤ 7302249
theorem ai_ao_in : ∀ (k : Nat) (C : String), ai_ty[k]? = some (.object C) → Cond.arrayOver (.object C) ∈ lw_tbl := by
  intro k C h
  match k, h with
  | 0, h => cases h
  | 1, h => cases h
  | 2, h => cases h
  | 3, h => cases h; exact List.mem_of_getElem? (i := 262) (by decide +kernel)
  | 4, h => cases h; exact List.mem_of_getElem? (i := 263) (by decide +kernel)
  | 5, h => cases h; exact List.mem_of_getElem? (i := 264) (by decide +kernel)
  | k + 6, h => cases h
/-! the program's own texts at the start -/
def as_tm (i : Nat) : Term := Term.string (ai_so.getD i ("", 0, "")).1 (ai_so.getD i ("", 0, "")).2.1
def as_fl : List Cond := flatC (Jvm.Cond.and given_1 narrow_1)
abbrev as_val (i : Nat) : Term := .field (as_tm i) "java/lang/String" "value" "[B"
theorem as_1 : (List.range 11).all (fun i => decide (Cond.exactly (as_tm i) "java/lang/String" ∈ as_fl)) = true := by decide +kernel
theorem as_2 : (List.range 11).all (fun i => decide (Cond.eq (.field (as_tm i) "java/lang/String" "coder" "B") (.int 0) ∈ as_fl)) = true := by decide +kernel
theorem as_3 : (List.range 11).all (fun i => decide (Cond.arrayOf (as_val i) .byte ∈ as_fl)) = true := by decide +kernel
theorem as_4 : (List.range 11).all (fun i => decide (Cond.eq (.length (as_val i)) (.int (Int32.ofNat (ai_sl.getD i 0))) ∈ as_fl)) = true := by decide +kernel
theorem as_5 : (List.range 11).all (fun i => decide ((List.range (ai_sl.getD i 0)).all (fun j => decide (Cond.eq (.elem (as_val i) (.int (Int32.ofNat j))) (.int ((ai_sb.getD i []).getD j 0)) ∈ as_fl)) = true)) = true := by decide +kernel
theorem as_6 : (List.range 11).all (fun i => decide ((List.range 11).all (fun j => decide (i = j ∨ Cond.not (Cond.eq (as_tm i) (as_tm j)) ∈ as_fl ∨ Cond.not (Cond.eq (as_tm j) (as_tm i)) ∈ as_fl)) = true)) = true := by decide +kernel
theorem as_7 : Cond.eq (.static "java/lang/String" "COMPACT_STRINGS" "Z") (.int 1) ∈ as_fl := by decide +kernel
theorem as_8 : Cond.isRef (.static "jdk/internal/util/Preconditions" "SIOOBE_FORMATTER" "Ljava/util/function/BiFunction;") ∈ as_fl := by decide +kernel
def as_pos : List Nat := [537, 590, 591, 592, 593, 594, 595, 596, 597, 598, 1458]
theorem as_9 : (List.range 11).all (fun i => decide (lw_tbl[as_pos.getD i 0]? = some (Cond.stringRef (ai_so.getD i ("", 0, "")).1 (ai_so.getD i ("", 0, "")).2.1 (ai_so.getD i ("", 0, "")).2.2))) = true := by decide +kernel
theorem as_lay1 : Cond.laysStatic "java/lang/String" "COMPACT_STRINGS" "Z" ∈ lw_tbl := List.mem_of_getElem? (i := 551) (by decide +kernel)
theorem as_lay2 : Cond.laysStatic "jdk/internal/util/Preconditions" "SIOOBE_FORMATTER" "Ljava/util/function/BiFunction;" ∈ lw_tbl := List.mem_of_getElem? (i := 567) (by decide +kernel)
def as_sa (b : Nat) (adK adV : Nat → Nat) (n : Nat) : Nat := if n = 99 then b else if n < 200 then adK n else adV (n - 200)
theorem as_E {args : Array Value} {s : State} (b : Nat) (hts : ∀ w ∈ lw_tbl, w.before args s = true) (hgv : (Jvm.Cond.and given_1 narrow_1).before args s = true) : ∃ sa : Nat → Nat, sa 99 = b ∧ ai_E sa s.heap.size s.heap s := by
  have hs := flat_of_before _ hgv
  have hA : ∀ a : Nat, a < s.heap.size → ¬ ai_A s.heap.size a := fun a h => Nat.not_le.mpr h
  have htg : ∀ w ∈ ai_gw, w.before args s = true := fun w hw => hts w (List.mem_filter.mp hw).1
  obtain ⟨adK, adV, hV, hev⟩ := vk_Sof (N := 11) (tm := as_tm) (len := ai_sl) (byt := ai_sb) (A := ai_A s.heap.size) (fun i _ => sm_sln i) (fun i hi => hs _ (co_dec as_1 hi)) (fun i hi => hs _ (co_dec as_2 hi)) (fun i hi => hs _ (co_dec as_3 hi)) (fun i hi => hs _ (co_dec as_4 hi)) (fun i hi j hj => hs _ (co_dec (co_dec as_5 hi) hj)) (fun i j hi hj hne => by
    rcases co_dec (co_dec as_6 hi) hj with z | z | z
    · exact absurd z hne
    · exact Or.inl (hs _ z)
    · exact Or.inr (hs _ z)) hA
  have e1 : ∀ i, i < 11 → as_sa b adK adV i = adK i := fun i hi => by simp only [as_sa]; rw [if_neg (by omega), if_pos (by omega)]
  have e2 : ∀ i, i < 11 → as_sa b adK adV (200 + i) = adV i := fun i hi => by simp only [as_sa]; rw [if_neg (by omega), if_neg (by omega), show 200 + i - 200 = i by omega]
  refine ⟨as_sa b adK adV, rfl, fun q hq a i y z hw => va_Nw.of rfl (hts _ (List.mem_of_getElem? hw)), fun k C hk => va_AO.of (hts _ (ai_ao_in k C hk)), fun k q hk => ?_, ⟨fun i hi => ?_, fun i j hi hj e => hV.2 i j hi hj (by rw [← e1 i hi, ← e1 j hj]; exact e)⟩, va_Zof (hts _ as_lay1) (htg _ (ai_gw_of sw_ini)) (va_eqt (hs _ as_7)) hA, va_Zqof (hts _ as_lay2) (htg _ (ai_gw_of sw_iniP)) (hs _ as_8) hA⟩
  · have hk11 : k < 11 := (List.getElem?_eq_some_iff.mp hk).1
    have hq : ai_so.getD k ("", 0, "") = q := by rw [List.getD_eq_getElem?_getD, hk]; rfl
    have h9 := co_dec as_9 hk11
    have hv := hev k hk11
    rw [as_tm, hq] at hv
    rw [hq] at h9
    rw [e1 k hk11]
    exact vk_R.of (A := args) (hts _ (List.mem_of_getElem? h9)) hv
  · have hz := hV.1 i hi
    show va_O "java/lang/String" (as_sa b adK adV i) _ _ _ ∧ va_OF "java/lang/String" "coder" "B" (.int 0) (as_sa b adK adV i) _ _ _ ∧ va_OF "java/lang/String" "value" "[B" (.ref (as_sa b adK adV (200 + i))) (as_sa b adK adV i) _ _ _ ∧ va_T .byte (as_sa b adK adV (200 + i)) _ _ _ _ _
    rw [e1 i hi, e2 i hi]
    exact hz
theorem ai_mem_law : am_293 ∈ ai_mt := List.mem_of_getElem? (i := 293) rfl
set_option maxHeartbeats 4000000 in
theorem ai_start {p : Program} {e : Env} {s : State} {m : MethodId} {below : List Frame} {meth : Method} {c : Code} (l : Launch) {b L N : Nat} {xs : Nat → Int32} (G : ai_good N) (hL : L ≤ N) (C0 : lw_At p s m meth c b L xs) : W p l e room_1 s m #[Value.ref b] below meth c s.heap [] 0 0 (lw_Z below #[Value.ref b] s) (entryFrame m ([Value.ref b] : List Value).toArray 4) := by
  obtain ⟨hx, hb, hr, hml, hown, hts, hX, hbl, hlocks, hgv⟩ := id C0
  obtain ⟨n, o, hrun, h1, hc1, hc2⟩ := G L xs hL
  have htg : ∀ w ∈ ai_gw, w.before #[Value.ref b] s = true := fun w hw => hts w (List.mem_filter.mp hw).1
  have hex : ∀ k : Nat, ∃ (cc : ClassId) (iS : Nat → Nat), ∀ q : vw_C, ai_cl[k]? = some q → u_Kn s q.1 q.2.1 q.2.2 cc iS := by
    intro k
    cases h : ai_cl[k]? with
    | none => exact ⟨m.cls, fun _ => 0, fun q hq => by cases hq⟩
    | some q =>
      obtain ⟨cc, iS, hk⟩ := u_known htg (ai_cls h).1 (htg _ (ai_cls h).2.2.2.1)
      exact ⟨cc, iS, fun q' hq' => by cases hq'; exact hk⟩
  have hpr : ∀ ty : FieldType, Cond.arrayClass ty ∈ ai_gw → (∀ C, ty ≠ .object C) → ∃ cA : ClassId, ArrOfT s cA ty ∧ va_RA s cA ty := by
    intro ty hty hno
    obtain ⟨cA, kA, comp, f1, f2, f3⟩ := Cond.arrayClass_spec (htg _ hty)
    refine ⟨cA, fun n z => ⟨fun k h => (by cases h), kA, f2, comp, f3⟩, ?_⟩
    cases ty with
    | object C => exact absurd rfl (hno C)
    | _ => exact f1
  have hob : ∀ C : String, Cond.arrayOver (.object C) ∈ lw_tbl → ∃ cA : ClassId, ArrOfT s cA (.object C) ∧ va_RA s cA (.object C) := by
    intro C hC
    obtain ⟨comp, cA, kA, f1, f2, f3, f4, f5⟩ := Cond.arrayOver_spec (hts _ hC)
    exact ⟨cA, fun n z => ⟨fun k h => (by cases h), kA, f3, comp, f4⟩, kA, comp, f3, f4, f1, f5⟩
  have hea : ∀ k : Nat, ∃ cA : ClassId, ∀ ty : FieldType, ai_ty[k]? = some ty → ArrOfT s cA ty ∧ va_RA s cA ty := by
    intro k
    cases h : ai_ty[k]? with
    | none => exact ⟨m.cls, fun q hq => by cases hq⟩
    | some ty =>
      have : ∃ cA : ClassId, ArrOfT s cA ty ∧ va_RA s cA ty := by
        match k, h with
        | 0, h => cases h; exact hpr _ (ai_gw_of ai_ok_ap.1) (fun C z => by cases z)
        | 1, h => cases h; exact hpr _ (ai_gw_of ai_ok_ap.2.1) (fun C z => by cases z)
        | 2, h => cases h; exact hpr _ (ai_gw_of ai_ok_ap.2.2) (fun C z => by cases z)
        | 3, h => cases h; exact hob _ (ai_ao_in 3 _ rfl)
        | 4, h => cases h; exact hob _ (ai_ao_in 4 _ rfl)
        | 5, h => cases h; exact hob _ (ai_ao_in 5 _ rfl)
        | k + 6, h => cases h
      obtain ⟨cA, hA⟩ := this
      exact ⟨cA, fun q hq => by cases hq; exact hA⟩
  obtain ⟨dC, hdC⟩ := Classical.axiomOfChoice hex
  obtain ⟨dI, hdI⟩ := Classical.axiomOfChoice hdC
  obtain ⟨cas, hcas⟩ := Classical.axiomOfChoice hea
  have hK : va_K (dC, dI) ai_cl (ai_tys cas) s := by
    refine ⟨fun k q hq => hdI k q hq, fun k q hq => ?_⟩
    have hl : k < 6 := by have := (List.getElem?_eq_some_iff.mp hq).1; simpa [ai_tys] using this
    obtain ⟨ty, hty⟩ : ∃ ty, ai_ty[k]? = some ty := ⟨_, List.getElem?_eq_getElem hl⟩
    rw [ai_tys_at hty] at hq
    cases hq
    exact hcas k ty hty
  obtain ⟨sa, hsa, hE⟩ := as_E b hts hgv
  have hC : ai_Cx (dC, dI) cas sa s.heap.size s.heap (L, xs) am_293 p room_1 s m #[Value.ref b] meth c :=
    ⟨hx, hb, hml, hown, htg, hK, Or.inl rfl, by decide, by decide, hE, fun _ => by rw [hsa]; exact ⟨hX, hbl⟩, fun _ _ => rfl⟩
  have hav : ([Value.ref b] : List Value) = [Value.float 99].map (ai_cv sa s.heap.size) := by show _ = [Value.ref (sa 99)]; rw [hsa]
  have hLV := ai_LV.entry (sa := sa) (base := s.heap.size) (n := 4) (vs := [.float 99]) (by decide)
  rw [← hav] at hLV
  rw [lg_entry_eq]
  refine ai_sound n am_293 ar_293 (ai_loc 4 [.float 99]) [] [] o hrun ai_mem_law (List.suffix_refl _) p e room_1 s m #[Value.ref b] below meth c s.heap [] 0 0 (lw_Z below #[Value.ref b] s) _ hC hLV ⟨rfl, fun k q h => by simp [ai_W] at h, fun q _ => rfl, rfl⟩ (fun q hq => by simp at hq) rfl (by show 0 + o.2.2.1 ≤ 600000; omega) (by show 0 + o.2.2.2 ≤ 7302249; omega) ?_
  intro pc1 lc1 H1 locs1 hd hrt hRp hl1
  rw [h1] at hd ⊢
  refine va_forget hl1 ?_
  refine W.widen (k := 600000) (n := 7302249) (by omega) (by omega) ?_
  exact lw_ret hx hb hr hlocks hd
end
section
/-! PURE RULES: what the interpreter does, an instruction a row; k is the row's place in the method -/
section AIRULES
variable {X : ai_X}
theorem ai_mono1 : ∀ (n : Nat) (M : ai_M) (s : ai_S) (o : ai_O), ai_run X n M s = some o → ai_run X (n + 1) M s = some o := by
  intro n
  induction n with
  | zero => intro M s o h; simp [ai_run] at h
  | succ n ih =>
    intro M s o hr
    obtain ⟨rs, ls, st, h⟩ := s
    cases rs with
    | nil => simp [ai_run] at hr
    | cons r rs =>
    have ihm : ∀ (M : ai_M) (s : ai_S) (c d : Nat) (o : ai_O), (ai_run X n M s).map (ai_add c d) = some o → (ai_run X (n + 1) M s).map (ai_add c d) = some o := by
      intro M s c d o h
      obtain ⟨o1, h1, rfl⟩ := Option.map_eq_some_iff.mp h
      rw [ih _ _ _ h1]; rfl
    unfold ai_run at hr ⊢
    split at hr
    · rename_i hk
      try simp only [hk]
      split at hr
      · rename_i s1 hs1
        try simp only [hs1]
        exact ih _ _ _ hr
      · cases hr
    · rename_i hk
      try simp only [hk]
      exact hr
    · rename_i hk
      try simp only [hk]
      exact hr
    · rename_i hk
      try simp only [hk]
      exact hr
    · rename_i hk
      try simp only [hk]
      split at hr
      · rename_i fs hfs
        try simp only [hfs]
        exact ihm _ _ _ _ _ hr
      · cases hr
    · rename_i hk
      try simp only [hk]
      split at hr
      · rename_i k t f hf
        try simp only [hf]
        split at hr
        · cases hr
        · rename_i hz
          rw [if_neg hz]
          exact ihm _ _ _ _ _ hr
      · cases hr
    · rename_i hk
      try simp only [hk]
      split at hr
      · rename_i k t
        split at hr
        · cases hr
        · rename_i hz
          rw [if_neg hz]
          exact ihm _ _ _ _ _ hr
      · cases hr
    · rename_i hk
      try simp only [hk]
      split at hr
      · rename_i h4
        rw [if_pos h4]
        split at hr
        · rename_i a t
          split at hr
          · rename_i hz
            rw [if_pos hz]
            exact ih _ _ _ hr
          · cases hr
        · cases hr
      · rename_i h4
        rw [if_neg h4]
        split at hr
        · rename_i h5
          rw [if_pos h5]
          split at hr
          · rename_i t h1 hcp
            try simp only [hcp]
            split at hr
            · rename_i hz
              rw [if_pos hz]
              exact ih _ _ _ hr
            · cases hr
          · cases hr
        · rename_i h5
          rw [if_neg h5]
          split at hr
          · rename_i h6
            rw [if_pos h6]
            split at hr
            · split at hr
              · rename_i hz
                rw [if_pos hz]
                exact ih _ _ _ hr
              · cases hr
            · cases hr
          rename_i h6
          rw [if_neg h6]
          split at hr
          · rename_i h7
            rw [if_pos h7]
            split at hr
            · split at hr
              · rename_i hz
                rw [if_pos hz]
                exact ih _ _ _ hr
              · cases hr
            · cases hr
          rename_i h7
          rw [if_neg h7]
          split at hr
          · rename_i h8
            rw [if_pos h8]
            split at hr
            · split at hr
              · rename_i hz
                rw [if_pos hz]
                exact ih _ _ _ hr
              · cases hr
            · cases hr
          rename_i h8
          rw [if_neg h8]
          split at hr
          · rename_i h9
            rw [if_pos h9]
            split at hr
            · split at hr
              · rename_i hz
                rw [if_pos hz]
                exact ih _ _ _ hr
              · cases hr
            · cases hr
          rename_i h9
          rw [if_neg h9]
          split at hr
          · rename_i h6
            rw [if_pos h6]
            split at hr
            · rename_i M1 hM1
              try simp only [hM1]
              split at hr
              · rename_i av t hav
                try simp only [hav]
                split at hr
                · rename_i hz
                  rw [if_pos hz]
                  split at hr
                  · rename_i o1 ho1
                    try simp only [ih _ _ _ ho1]
                    exact ihm _ _ _ _ _ hr
                  · cases hr
                · cases hr
              · cases hr
            · cases hr
          · cases hr
    · cases hr
theorem ai_mono {n k : Nat} {M : ai_M} {s : ai_S} {o : ai_O} (h : ai_run X n M s = some o) : ai_run X (n + k) M s = some o := by
  induction k with
  | zero => exact h
  | succ k ih => exact ai_mono1 _ _ _ _ ih
/-- the interpreter comes to an end, with P -/
def Rn (X : ai_X) (M : ai_M) (s : ai_S) (P : ai_O → Prop) : Prop := ∃ n o, ai_run X n M s = some o ∧ P o
/-- from the row k on the method comes to its end, with P -/
def Rk (X : ai_X) (M : ai_M) (k : Nat) (ls : ai_L) (st : List Value) (h : ai_H) (P : ai_O → Prop) : Prop := Rn X M ((ai_mR M).drop k, ls, st, h) P
/-- the method called with the arguments av -/
def Mt (X : ai_X) (M : ai_M) (av : List Value) (h : ai_H) (P : ai_O → Prop) : Prop := Rk X M 0 (ai_loc (ai_mL M) av) [] h P
variable {M : ai_M} {k : Nat} {ls : ai_L} {st : List Value} {h : ai_H} {P : ai_O → Prop}
theorem Rk.mono {Q : ai_O → Prop} (hPQ : ∀ o, P o → Q o) (z : Rk X M k ls st h P) : Rk X M k ls st h Q := by
  obtain ⟨n, o, a, b⟩ := z
  exact ⟨n, o, a, hPQ o b⟩
theorem rk_drop {K : List ai_R} {k : Nat} {r : ai_R} (hr : K[k]? = some r) : K.drop k = r :: K.drop (k + 1) := by
  obtain ⟨hl, e⟩ := List.getElem?_eq_some_iff.mp hr
  rw [List.drop_eq_getElem_cons hl, e]
theorem rk_one {r : ai_R} {s1 : ai_S} (hr : (ai_mR M)[k]? = some r) (hk : ai_kd r.2.1 = 0) (hs : ai_stp X M r ((ai_mR M).drop (k + 1)) ls st h = some s1) (z : Rn X M s1 P) : Rk X M k ls st h P := by
  obtain ⟨n, o, hn, hP⟩ := z
  refine ⟨n + 1, o, ?_, hP⟩
  rw [rk_drop hr]
  unfold ai_run
  simp only [hk, hs]
  exact hn
theorem rk_tg {pc a : Nat} {off : Int} (ht : ((ai_mR M)[a]?).map (fun r => (r.1 : Int)) = some ((pc : Int) + off)) : ai_tg (ai_mR M) pc off a = some ((ai_mR M).drop a) := by
  obtain ⟨r, hr, he⟩ := Option.map_eq_some_iff.mp ht
  rw [ai_tg, rk_drop hr]
  simp only
  rw [if_pos he.symm]

theorem rk_iconst {pc len a b p q : Nat} {v0 : Value} {n : Int} {v : Int32}  (hr : (ai_mR M)[k]? = some (pc, .iconst n, len, v0, a, b, p, q)) (hv : Int32.ofInt n = v) (z : Rk X M (k + 1) ls (.int v :: st) (h) P) : Rk X M k ls (st) h P :=
  rk_one hr rfl (by rw [← hv]; rfl) z
theorem rk_bipush {pc len a b p q : Nat} {v0 : Value} {n : Int} {v : Int32}  (hr : (ai_mR M)[k]? = some (pc, .bipush n, len, v0, a, b, p, q)) (hv : (Int8.ofInt n).toInt32 = v) (z : Rk X M (k + 1) ls (.int v :: st) (h) P) : Rk X M k ls (st) h P :=
  rk_one hr rfl (by rw [← hv]; rfl) z
theorem rk_sipush {pc len a b p q : Nat} {v0 : Value} {n : Int} {v : Int32}  (hr : (ai_mR M)[k]? = some (pc, .sipush n, len, v0, a, b, p, q)) (hv : (Int16.ofInt n).toInt32 = v) (z : Rk X M (k + 1) ls (.int v :: st) (h) P) : Rk X M k ls (st) h P :=
  rk_one hr rfl (by rw [← hv]; rfl) z
theorem rk_lconst {pc len a b p q : Nat} {v0 : Value} {n : Fin 2} {v : Int64}  (hr : (ai_mR M)[k]? = some (pc, .lconst n, len, v0, a, b, p, q)) (hv : Int64.ofNat (n : Nat) = v) (z : Rk X M (k + 1) ls (.long v :: st) (h) P) : Rk X M k ls (st) h P :=
  rk_one hr rfl (by rw [← hv]; rfl) z
theorem rk_ldc {pc len a b p q n : Nat} {v : Int32} (hr : (ai_mR M)[k]? = some (pc, .ldc n, len, .int v, a, b, p, q)) (z : Rk X M (k + 1) ls (.int v :: st) h P) : Rk X M k ls st h P :=
  rk_one hr rfl rfl z
theorem rk_ldcw {pc len a b p q n : Nat} {v : Int32} (hr : (ai_mR M)[k]? = some (pc, .ldc_w n, len, .int v, a, b, p, q)) (z : Rk X M (k + 1) ls (.int v :: st) h P) : Rk X M k ls st h P :=
  rk_one hr rfl rfl z
theorem rk_ldc2 {pc len a b p q n : Nat} {v : Int64} (hr : (ai_mR M)[k]? = some (pc, .ldc2_w n, len, .long v, a, b, p, q)) (z : Rk X M (k + 1) ls (.long v :: st) h P) : Rk X M k ls st h P :=
  rk_one hr rfl rfl z
theorem rk_iload_n {pc len a b p q : Nat} {v0 : Value} {i : Fin 4} {v : Int32}  (hr : (ai_mR M)[k]? = some (pc, .iload_n i, len, v0, a, b, p, q)) (hl : ls[(i : Nat)]? = some (some (.int v))) (z : Rk X M (k + 1) ls (.int v :: st) (h) P) : Rk X M k ls (st) h P :=
  rk_one hr rfl (by simp only [ai_stp, hl]) z
theorem rk_iload {pc len a b p q : Nat} {v0 : Value} {i : Nat} {v : Int32}  (hr : (ai_mR M)[k]? = some (pc, .iload i, len, v0, a, b, p, q)) (hl : ls[i]? = some (some (.int v))) (z : Rk X M (k + 1) ls (.int v :: st) (h) P) : Rk X M k ls (st) h P :=
  rk_one hr rfl (by simp only [ai_stp, hl]) z
theorem rk_lload_n {pc len a b p q : Nat} {v0 : Value} {i : Fin 4} {v : Int64}  (hr : (ai_mR M)[k]? = some (pc, .lload_n i, len, v0, a, b, p, q)) (hl : ls[(i : Nat)]? = some (some (.long v))) (z : Rk X M (k + 1) ls (.long v :: st) (h) P) : Rk X M k ls (st) h P :=
  rk_one hr rfl (by simp only [ai_stp, hl]) z
theorem rk_lload {pc len a b p q : Nat} {v0 : Value} {i : Nat} {v : Int64}  (hr : (ai_mR M)[k]? = some (pc, .lload i, len, v0, a, b, p, q)) (hl : ls[i]? = some (some (.long v))) (z : Rk X M (k + 1) ls (.long v :: st) (h) P) : Rk X M k ls (st) h P :=
  rk_one hr rfl (by simp only [ai_stp, hl]) z
theorem rk_aload_n {pc len a b p q : Nat} {v0 : Value} {i : Fin 4} {v : Nat}  (hr : (ai_mR M)[k]? = some (pc, .aload_n i, len, v0, a, b, p, q)) (hl : ls[(i : Nat)]? = some (some (.ref v))) (z : Rk X M (k + 1) ls (.ref v :: st) (h) P) : Rk X M k ls (st) h P :=
  rk_one hr rfl (by simp only [ai_stp, hl]) z
theorem rk_aload {pc len a b p q : Nat} {v0 : Value} {i : Nat} {v : Nat}  (hr : (ai_mR M)[k]? = some (pc, .aload i, len, v0, a, b, p, q)) (hl : ls[i]? = some (some (.ref v))) (z : Rk X M (k + 1) ls (.ref v :: st) (h) P) : Rk X M k ls (st) h P :=
  rk_one hr rfl (by simp only [ai_stp, hl]) z
theorem rk_fload_n {pc len a b p q : Nat} {v0 : Value} {i : Fin 4} {v : UInt32}  (hr : (ai_mR M)[k]? = some (pc, .aload_n i, len, v0, a, b, p, q)) (hl : ls[(i : Nat)]? = some (some (.float v))) (z : Rk X M (k + 1) ls (.float v :: st) (h) P) : Rk X M k ls (st) h P :=
  rk_one hr rfl (by simp only [ai_stp, hl]) z
theorem rk_istore_n {pc len a b p q : Nat} {v0 : Value} {i : Fin 4} {v : Int32} {ls1 : ai_L}  (hr : (ai_mR M)[k]? = some (pc, .istore_n i, len, v0, a, b, p, q)) (hi : (i : Nat) < ls.length) (hs : ai_st false (i : Nat) (.int v) 0 ls = ls1) (z : Rk X M (k + 1) ls1 (st) (h) P) : Rk X M k ls (.int v :: st) h P :=
  rk_one hr rfl (by subst hs; simp only [ai_stp]; rw [if_pos hi]) z
theorem rk_istore {pc len a b p q : Nat} {v0 : Value} {i : Nat} {v : Int32} {ls1 : ai_L}  (hr : (ai_mR M)[k]? = some (pc, .istore i, len, v0, a, b, p, q)) (hi : i < ls.length) (hs : ai_st false i (.int v) 0 ls = ls1) (z : Rk X M (k + 1) ls1 (st) (h) P) : Rk X M k ls (.int v :: st) h P :=
  rk_one hr rfl (by subst hs; simp only [ai_stp]; rw [if_pos hi]) z
theorem rk_lstore_n {pc len a b p q : Nat} {v0 : Value} {i : Fin 4} {v : Int64} {ls1 : ai_L}  (hr : (ai_mR M)[k]? = some (pc, .lstore_n i, len, v0, a, b, p, q)) (hi : (i : Nat) + 1 < ls.length) (hs : ai_st true (i : Nat) (.long v) 0 ls = ls1) (z : Rk X M (k + 1) ls1 (st) (h) P) : Rk X M k ls (.long v :: st) h P :=
  rk_one hr rfl (by subst hs; simp only [ai_stp]; rw [if_pos hi]) z
theorem rk_lstore {pc len a b p q : Nat} {v0 : Value} {i : Nat} {v : Int64} {ls1 : ai_L}  (hr : (ai_mR M)[k]? = some (pc, .lstore i, len, v0, a, b, p, q)) (hi : i + 1 < ls.length) (hs : ai_st true i (.long v) 0 ls = ls1) (z : Rk X M (k + 1) ls1 (st) (h) P) : Rk X M k ls (.long v :: st) h P :=
  rk_one hr rfl (by subst hs; simp only [ai_stp]; rw [if_pos hi]) z
theorem rk_astore_n {pc len a b p q : Nat} {v0 : Value} {i : Fin 4} {v : Nat} {ls1 : ai_L}  (hr : (ai_mR M)[k]? = some (pc, .astore_n i, len, v0, a, b, p, q)) (hi : (i : Nat) < ls.length) (hs : ai_st false (i : Nat) (.ref v) 0 ls = ls1) (z : Rk X M (k + 1) ls1 (st) (h) P) : Rk X M k ls (.ref v :: st) h P :=
  rk_one hr rfl (by subst hs; simp only [ai_stp]; rw [if_pos hi]) z
theorem rk_astore {pc len a b p q : Nat} {v0 : Value} {i : Nat} {v : Nat} {ls1 : ai_L}  (hr : (ai_mR M)[k]? = some (pc, .astore i, len, v0, a, b, p, q)) (hi : i < ls.length) (hs : ai_st false i (.ref v) 0 ls = ls1) (z : Rk X M (k + 1) ls1 (st) (h) P) : Rk X M k ls (.ref v :: st) h P :=
  rk_one hr rfl (by subst hs; simp only [ai_stp]; rw [if_pos hi]) z
theorem rk_iinc {pc len a b p q : Nat} {v0 : Value} {i : Nat} {n : Int} {v w : Int32} {ls1 : ai_L}  (hr : (ai_mR M)[k]? = some (pc, .iinc i n, len, v0, a, b, p, q)) (hl : ls[i]? = some (some (.int v))) (hw : v + Int32.ofInt n = w) (hs : ai_st false i (.int w) 0 ls = ls1) (z : Rk X M (k + 1) ls1 (st) (h) P) : Rk X M k ls (st) h P :=
  rk_one hr rfl (by subst hs; subst hw; simp only [ai_stp, hl]) z
theorem rk_iadd {pc len a b p q : Nat} {v0 : Value} {x y v : Int32}  (hr : (ai_mR M)[k]? = some (pc, .iadd, len, v0, a, b, p, q)) (hv : x + y = v) (z : Rk X M (k + 1) ls (.int v :: st) (h) P) : Rk X M k ls (.int y :: .int x :: st) h P :=
  rk_one hr rfl (by subst hv; rfl) z
theorem rk_isub {pc len a b p q : Nat} {v0 : Value} {x y v : Int32}  (hr : (ai_mR M)[k]? = some (pc, .isub, len, v0, a, b, p, q)) (hv : x - y = v) (z : Rk X M (k + 1) ls (.int v :: st) (h) P) : Rk X M k ls (.int y :: .int x :: st) h P :=
  rk_one hr rfl (by subst hv; rfl) z
theorem rk_imul {pc len a b p q : Nat} {v0 : Value} {x y v : Int32}  (hr : (ai_mR M)[k]? = some (pc, .imul, len, v0, a, b, p, q)) (hv : x * y = v) (z : Rk X M (k + 1) ls (.int v :: st) (h) P) : Rk X M k ls (.int y :: .int x :: st) h P :=
  rk_one hr rfl (by subst hv; rfl) z
theorem rk_iand {pc len a b p q : Nat} {v0 : Value} {x y v : Int32}  (hr : (ai_mR M)[k]? = some (pc, .iand, len, v0, a, b, p, q)) (hv : x &&& y = v) (z : Rk X M (k + 1) ls (.int v :: st) (h) P) : Rk X M k ls (.int y :: .int x :: st) h P :=
  rk_one hr rfl (by subst hv; rfl) z
theorem rk_ior {pc len a b p q : Nat} {v0 : Value} {x y v : Int32}  (hr : (ai_mR M)[k]? = some (pc, .ior, len, v0, a, b, p, q)) (hv : x ||| y = v) (z : Rk X M (k + 1) ls (.int v :: st) (h) P) : Rk X M k ls (.int y :: .int x :: st) h P :=
  rk_one hr rfl (by subst hv; rfl) z
theorem rk_ixor {pc len a b p q : Nat} {v0 : Value} {x y v : Int32}  (hr : (ai_mR M)[k]? = some (pc, .ixor, len, v0, a, b, p, q)) (hv : x ^^^ y = v) (z : Rk X M (k + 1) ls (.int v :: st) (h) P) : Rk X M k ls (.int y :: .int x :: st) h P :=
  rk_one hr rfl (by subst hv; rfl) z
theorem rk_ishl {pc len a b p q : Nat} {v0 : Value} {x y v : Int32}  (hr : (ai_mR M)[k]? = some (pc, .ishl, len, v0, a, b, p, q)) (hv : x <<< (y &&& 31) = v) (z : Rk X M (k + 1) ls (.int v :: st) (h) P) : Rk X M k ls (.int y :: .int x :: st) h P :=
  rk_one hr rfl (by subst hv; rfl) z
theorem rk_ishr {pc len a b p q : Nat} {v0 : Value} {x y v : Int32}  (hr : (ai_mR M)[k]? = some (pc, .ishr, len, v0, a, b, p, q)) (hv : x >>> (y &&& 31) = v) (z : Rk X M (k + 1) ls (.int v :: st) (h) P) : Rk X M k ls (.int y :: .int x :: st) h P :=
  rk_one hr rfl (by subst hv; rfl) z
theorem rk_iushr {pc len a b p q : Nat} {v0 : Value} {x y v : Int32}  (hr : (ai_mR M)[k]? = some (pc, .iushr, len, v0, a, b, p, q)) (hv : (x.toUInt32 >>> (y.toUInt32 &&& Int32.toUInt32 31)).toInt32 = v) (z : Rk X M (k + 1) ls (.int v :: st) (h) P) : Rk X M k ls (.int y :: .int x :: st) h P :=
  rk_one hr rfl (by subst hv; rfl) z
theorem rk_idiv {pc len a b p q : Nat} {v0 : Value} {x y v : Int32}  (hr : (ai_mR M)[k]? = some (pc, .idiv, len, v0, a, b, p, q)) (h0 : ¬ y = 0) (hv : x / y = v) (z : Rk X M (k + 1) ls (.int v :: st) (h) P) : Rk X M k ls (.int y :: .int x :: st) h P :=
  rk_one hr rfl (by subst hv; simp only [ai_stp]; rw [if_neg h0]) z
theorem rk_irem {pc len a b p q : Nat} {v0 : Value} {x y v : Int32}  (hr : (ai_mR M)[k]? = some (pc, .irem, len, v0, a, b, p, q)) (h0 : ¬ y = 0) (hv : x - x / y * y = v) (z : Rk X M (k + 1) ls (.int v :: st) (h) P) : Rk X M k ls (.int y :: .int x :: st) h P :=
  rk_one hr rfl (by subst hv; simp only [ai_stp]; rw [if_neg h0]) z
theorem rk_ladd {pc len a b p q : Nat} {v0 : Value} {x y v : Int64}  (hr : (ai_mR M)[k]? = some (pc, .ladd, len, v0, a, b, p, q)) (hv : x + y = v) (z : Rk X M (k + 1) ls (.long v :: st) (h) P) : Rk X M k ls (.long y :: .long x :: st) h P :=
  rk_one hr rfl (by subst hv; rfl) z
theorem rk_lmul {pc len a b p q : Nat} {v0 : Value} {x y v : Int64}  (hr : (ai_mR M)[k]? = some (pc, .lmul, len, v0, a, b, p, q)) (hv : x * y = v) (z : Rk X M (k + 1) ls (.long v :: st) (h) P) : Rk X M k ls (.long y :: .long x :: st) h P :=
  rk_one hr rfl (by subst hv; rfl) z
theorem rk_land {pc len a b p q : Nat} {v0 : Value} {x y v : Int64}  (hr : (ai_mR M)[k]? = some (pc, .land, len, v0, a, b, p, q)) (hv : x &&& y = v) (z : Rk X M (k + 1) ls (.long v :: st) (h) P) : Rk X M k ls (.long y :: .long x :: st) h P :=
  rk_one hr rfl (by subst hv; rfl) z
theorem rk_lor {pc len a b p q : Nat} {v0 : Value} {x y v : Int64}  (hr : (ai_mR M)[k]? = some (pc, .lor, len, v0, a, b, p, q)) (hv : x ||| y = v) (z : Rk X M (k + 1) ls (.long v :: st) (h) P) : Rk X M k ls (.long y :: .long x :: st) h P :=
  rk_one hr rfl (by subst hv; rfl) z
theorem rk_ldiv {pc len a b p q : Nat} {v0 : Value} {x y v : Int64}  (hr : (ai_mR M)[k]? = some (pc, .ldiv, len, v0, a, b, p, q)) (h0 : ¬ y = 0) (hv : x / y = v) (z : Rk X M (k + 1) ls (.long v :: st) (h) P) : Rk X M k ls (.long y :: .long x :: st) h P :=
  rk_one hr rfl (by subst hv; simp only [ai_stp]; rw [if_neg h0]) z
theorem rk_lrem {pc len a b p q : Nat} {v0 : Value} {x y v : Int64}  (hr : (ai_mR M)[k]? = some (pc, .lrem, len, v0, a, b, p, q)) (h0 : ¬ y = 0) (hv : x - x / y * y = v) (z : Rk X M (k + 1) ls (.long v :: st) (h) P) : Rk X M k ls (.long y :: .long x :: st) h P :=
  rk_one hr rfl (by subst hv; simp only [ai_stp]; rw [if_neg h0]) z
theorem rk_lshl {pc len a b p q : Nat} {v0 : Value} {x v : Int64} {y : Int32}  (hr : (ai_mR M)[k]? = some (pc, .lshl, len, v0, a, b, p, q)) (hv : x <<< (y.toInt64 &&& 63) = v) (z : Rk X M (k + 1) ls (.long v :: st) (h) P) : Rk X M k ls (.int y :: .long x :: st) h P :=
  rk_one hr rfl (by subst hv; rfl) z
theorem rk_lushr {pc len a b p q : Nat} {v0 : Value} {x v : Int64} {y : Int32}  (hr : (ai_mR M)[k]? = some (pc, .lushr, len, v0, a, b, p, q)) (hv : (x.toUInt64 >>> (y.toInt64.toUInt64 &&& Int64.toUInt64 63)).toInt64 = v) (z : Rk X M (k + 1) ls (.long v :: st) (h) P) : Rk X M k ls (.int y :: .long x :: st) h P :=
  rk_one hr rfl (by subst hv; rfl) z
theorem rk_lcmp {pc len a b p q : Nat} {v0 : Value} {x y : Int64} {v : Int32}  (hr : (ai_mR M)[k]? = some (pc, .lcmp, len, v0, a, b, p, q)) (hv : lg_cmp x y = v) (z : Rk X M (k + 1) ls (.int v :: st) (h) P) : Rk X M k ls (.long y :: .long x :: st) h P :=
  rk_one hr rfl (by subst hv; rfl) z
theorem rk_i2l {pc len a b p q : Nat} {v0 : Value} {x : Int32} {v : Int64}  (hr : (ai_mR M)[k]? = some (pc, .i2l, len, v0, a, b, p, q)) (hv : x.toInt64 = v) (z : Rk X M (k + 1) ls (.long v :: st) (h) P) : Rk X M k ls (.int x :: st) h P :=
  rk_one hr rfl (by subst hv; rfl) z
theorem rk_l2i {pc len a b p q : Nat} {v0 : Value} {x : Int64} {v : Int32}  (hr : (ai_mR M)[k]? = some (pc, .l2i, len, v0, a, b, p, q)) (hv : x.toInt32 = v) (z : Rk X M (k + 1) ls (.int v :: st) (h) P) : Rk X M k ls (.long x :: st) h P :=
  rk_one hr rfl (by subst hv; rfl) z
theorem rk_i2b {pc len a b p q : Nat} {v0 : Value} {x v : Int32}  (hr : (ai_mR M)[k]? = some (pc, .i2b, len, v0, a, b, p, q)) (hv : x.toInt8.toInt32 = v) (z : Rk X M (k + 1) ls (.int v :: st) (h) P) : Rk X M k ls (.int x :: st) h P :=
  rk_one hr rfl (by subst hv; rfl) z
theorem rk_i2s {pc len a b p q : Nat} {v0 : Value} {x v : Int32}  (hr : (ai_mR M)[k]? = some (pc, .i2s, len, v0, a, b, p, q)) (hv : x.toInt16.toInt32 = v) (z : Rk X M (k + 1) ls (.int v :: st) (h) P) : Rk X M k ls (.int x :: st) h P :=
  rk_one hr rfl (by subst hv; rfl) z
theorem rk_dup_i {pc len a b p q : Nat} {v0 : Value} {x : Int32}  (hr : (ai_mR M)[k]? = some (pc, .dup, len, v0, a, b, p, q)) (z : Rk X M (k + 1) ls (.int x :: .int x :: st) (h) P) : Rk X M k ls (.int x :: st) h P :=
  rk_one hr rfl (rfl) z
theorem rk_dup_a {pc len a b p q : Nat} {v0 : Value} {x : Nat}  (hr : (ai_mR M)[k]? = some (pc, .dup, len, v0, a, b, p, q)) (z : Rk X M (k + 1) ls (.ref x :: .ref x :: st) (h) P) : Rk X M k ls (.ref x :: st) h P :=
  rk_one hr rfl (rfl) z
theorem rk_dup2 {pc len a b p q : Nat} {v0 : Value} {y : Int32} {x : Nat}  (hr : (ai_mR M)[k]? = some (pc, .dup2, len, v0, a, b, p, q)) (z : Rk X M (k + 1) ls (.int y :: .ref x :: .int y :: .ref x :: st) (h) P) : Rk X M k ls (.int y :: .ref x :: st) h P :=
  rk_one hr rfl (rfl) z
theorem rk_pop {pc len a b p q : Nat} {v0 : Value} {x : Int32}  (hr : (ai_mR M)[k]? = some (pc, .pop, len, v0, a, b, p, q)) (z : Rk X M (k + 1) ls (st) (h) P) : Rk X M k ls (.int x :: st) h P :=
  rk_one hr rfl (rfl) z
theorem rk_pop2 {pc len a b p q : Nat} {v0 : Value} {x : Int64}  (hr : (ai_mR M)[k]? = some (pc, .pop2, len, v0, a, b, p, q)) (z : Rk X M (k + 1) ls (st) (h) P) : Rk X M k ls (.long x :: st) h P :=
  rk_one hr rfl (rfl) z
theorem rk_goto {pc len a b p q : Nat} {v0 : Value} {off : Int} (hr : (ai_mR M)[k]? = some (pc, .goto off, len, v0, a, b, p, q)) (ht : ((ai_mR M)[a]?).map (fun r => (r.1 : Int)) = some ((pc : Int) + off)) (z : Rk X M a ls st h P) : Rk X M k ls st h P :=
  rk_one hr rfl (by simp only [ai_stp, rk_tg ht]) z
theorem rk_icmp_eq {pc len a b p q : Nat} {v0 : Value} {off : Int} {x y : Int32} (hr : (ai_mR M)[k]? = some (pc, .if_icmp .eq off, len, v0, a, b, p, q)) (ht : ((ai_mR M)[a]?).map (fun r => (r.1 : Int)) = some ((pc : Int) + off)) (zt : x = y → Rk X M a ls st h P) (zf : ¬ (x = y) → Rk X M (k + 1) ls st h P) : Rk X M k ls (.int y :: .int x :: st) h P := by
  by_cases hc : x = y
  · exact rk_one hr rfl (by simp only [ai_stp, ai_br, rk_tg ht]; rw [if_pos hc]) (zt hc)
  · exact rk_one hr rfl (by simp only [ai_stp, ai_br, rk_tg ht]; rw [if_neg hc]) (zf hc)
theorem rk_icmp_ne {pc len a b p q : Nat} {v0 : Value} {off : Int} {x y : Int32} (hr : (ai_mR M)[k]? = some (pc, .if_icmp .ne off, len, v0, a, b, p, q)) (ht : ((ai_mR M)[a]?).map (fun r => (r.1 : Int)) = some ((pc : Int) + off)) (zt : ¬ x = y → Rk X M a ls st h P) (zf : ¬ (¬ x = y) → Rk X M (k + 1) ls st h P) : Rk X M k ls (.int y :: .int x :: st) h P := by
  by_cases hc : ¬ x = y
  · exact rk_one hr rfl (by simp only [ai_stp, ai_br, rk_tg ht]; rw [if_pos hc]) (zt hc)
  · exact rk_one hr rfl (by simp only [ai_stp, ai_br, rk_tg ht]; rw [if_neg hc]) (zf hc)
theorem rk_icmp_lt {pc len a b p q : Nat} {v0 : Value} {off : Int} {x y : Int32} (hr : (ai_mR M)[k]? = some (pc, .if_icmp .lt off, len, v0, a, b, p, q)) (ht : ((ai_mR M)[a]?).map (fun r => (r.1 : Int)) = some ((pc : Int) + off)) (zt : x < y → Rk X M a ls st h P) (zf : ¬ (x < y) → Rk X M (k + 1) ls st h P) : Rk X M k ls (.int y :: .int x :: st) h P := by
  by_cases hc : x < y
  · exact rk_one hr rfl (by simp only [ai_stp, ai_br, rk_tg ht]; rw [if_pos hc]) (zt hc)
  · exact rk_one hr rfl (by simp only [ai_stp, ai_br, rk_tg ht]; rw [if_neg hc]) (zf hc)
theorem rk_icmp_ge {pc len a b p q : Nat} {v0 : Value} {off : Int} {x y : Int32} (hr : (ai_mR M)[k]? = some (pc, .if_icmp .ge off, len, v0, a, b, p, q)) (ht : ((ai_mR M)[a]?).map (fun r => (r.1 : Int)) = some ((pc : Int) + off)) (zt : y ≤ x → Rk X M a ls st h P) (zf : ¬ (y ≤ x) → Rk X M (k + 1) ls st h P) : Rk X M k ls (.int y :: .int x :: st) h P := by
  by_cases hc : y ≤ x
  · exact rk_one hr rfl (by simp only [ai_stp, ai_br, rk_tg ht]; rw [if_pos hc]) (zt hc)
  · exact rk_one hr rfl (by simp only [ai_stp, ai_br, rk_tg ht]; rw [if_neg hc]) (zf hc)
theorem rk_icmp_gt {pc len a b p q : Nat} {v0 : Value} {off : Int} {x y : Int32} (hr : (ai_mR M)[k]? = some (pc, .if_icmp .gt off, len, v0, a, b, p, q)) (ht : ((ai_mR M)[a]?).map (fun r => (r.1 : Int)) = some ((pc : Int) + off)) (zt : y < x → Rk X M a ls st h P) (zf : ¬ (y < x) → Rk X M (k + 1) ls st h P) : Rk X M k ls (.int y :: .int x :: st) h P := by
  by_cases hc : y < x
  · exact rk_one hr rfl (by simp only [ai_stp, ai_br, rk_tg ht]; rw [if_pos hc]) (zt hc)
  · exact rk_one hr rfl (by simp only [ai_stp, ai_br, rk_tg ht]; rw [if_neg hc]) (zf hc)
theorem rk_icmp_le {pc len a b p q : Nat} {v0 : Value} {off : Int} {x y : Int32} (hr : (ai_mR M)[k]? = some (pc, .if_icmp .le off, len, v0, a, b, p, q)) (ht : ((ai_mR M)[a]?).map (fun r => (r.1 : Int)) = some ((pc : Int) + off)) (zt : x ≤ y → Rk X M a ls st h P) (zf : ¬ (x ≤ y) → Rk X M (k + 1) ls st h P) : Rk X M k ls (.int y :: .int x :: st) h P := by
  by_cases hc : x ≤ y
  · exact rk_one hr rfl (by simp only [ai_stp, ai_br, rk_tg ht]; rw [if_pos hc]) (zt hc)
  · exact rk_one hr rfl (by simp only [ai_stp, ai_br, rk_tg ht]; rw [if_neg hc]) (zf hc)
theorem rk_if_eq {pc len a b p q : Nat} {v0 : Value} {off : Int} {x : Int32} (hr : (ai_mR M)[k]? = some (pc, .ifCond .eq off, len, v0, a, b, p, q)) (ht : ((ai_mR M)[a]?).map (fun r => (r.1 : Int)) = some ((pc : Int) + off)) (zt : x = 0 → Rk X M a ls st h P) (zf : ¬ (x = 0) → Rk X M (k + 1) ls st h P) : Rk X M k ls (.int x :: st) h P := by
  by_cases hc : x = 0
  · exact rk_one hr rfl (by simp only [ai_stp, ai_br, rk_tg ht]; rw [if_pos hc]) (zt hc)
  · exact rk_one hr rfl (by simp only [ai_stp, ai_br, rk_tg ht]; rw [if_neg hc]) (zf hc)
theorem rk_if_ne {pc len a b p q : Nat} {v0 : Value} {off : Int} {x : Int32} (hr : (ai_mR M)[k]? = some (pc, .ifCond .ne off, len, v0, a, b, p, q)) (ht : ((ai_mR M)[a]?).map (fun r => (r.1 : Int)) = some ((pc : Int) + off)) (zt : ¬ x = 0 → Rk X M a ls st h P) (zf : ¬ (¬ x = 0) → Rk X M (k + 1) ls st h P) : Rk X M k ls (.int x :: st) h P := by
  by_cases hc : ¬ x = 0
  · exact rk_one hr rfl (by simp only [ai_stp, ai_br, rk_tg ht]; rw [if_pos hc]) (zt hc)
  · exact rk_one hr rfl (by simp only [ai_stp, ai_br, rk_tg ht]; rw [if_neg hc]) (zf hc)
theorem rk_if_lt {pc len a b p q : Nat} {v0 : Value} {off : Int} {x : Int32} (hr : (ai_mR M)[k]? = some (pc, .ifCond .lt off, len, v0, a, b, p, q)) (ht : ((ai_mR M)[a]?).map (fun r => (r.1 : Int)) = some ((pc : Int) + off)) (zt : x < 0 → Rk X M a ls st h P) (zf : ¬ (x < 0) → Rk X M (k + 1) ls st h P) : Rk X M k ls (.int x :: st) h P := by
  by_cases hc : x < 0
  · exact rk_one hr rfl (by simp only [ai_stp, ai_br, rk_tg ht]; rw [if_pos hc]) (zt hc)
  · exact rk_one hr rfl (by simp only [ai_stp, ai_br, rk_tg ht]; rw [if_neg hc]) (zf hc)
theorem rk_if_ge {pc len a b p q : Nat} {v0 : Value} {off : Int} {x : Int32} (hr : (ai_mR M)[k]? = some (pc, .ifCond .ge off, len, v0, a, b, p, q)) (ht : ((ai_mR M)[a]?).map (fun r => (r.1 : Int)) = some ((pc : Int) + off)) (zt : 0 ≤ x → Rk X M a ls st h P) (zf : ¬ (0 ≤ x) → Rk X M (k + 1) ls st h P) : Rk X M k ls (.int x :: st) h P := by
  by_cases hc : 0 ≤ x
  · exact rk_one hr rfl (by simp only [ai_stp, ai_br, rk_tg ht]; rw [if_pos hc]) (zt hc)
  · exact rk_one hr rfl (by simp only [ai_stp, ai_br, rk_tg ht]; rw [if_neg hc]) (zf hc)
theorem rk_if_gt {pc len a b p q : Nat} {v0 : Value} {off : Int} {x : Int32} (hr : (ai_mR M)[k]? = some (pc, .ifCond .gt off, len, v0, a, b, p, q)) (ht : ((ai_mR M)[a]?).map (fun r => (r.1 : Int)) = some ((pc : Int) + off)) (zt : 0 < x → Rk X M a ls st h P) (zf : ¬ (0 < x) → Rk X M (k + 1) ls st h P) : Rk X M k ls (.int x :: st) h P := by
  by_cases hc : 0 < x
  · exact rk_one hr rfl (by simp only [ai_stp, ai_br, rk_tg ht]; rw [if_pos hc]) (zt hc)
  · exact rk_one hr rfl (by simp only [ai_stp, ai_br, rk_tg ht]; rw [if_neg hc]) (zf hc)
theorem rk_if_le {pc len a b p q : Nat} {v0 : Value} {off : Int} {x : Int32} (hr : (ai_mR M)[k]? = some (pc, .ifCond .le off, len, v0, a, b, p, q)) (ht : ((ai_mR M)[a]?).map (fun r => (r.1 : Int)) = some ((pc : Int) + off)) (zt : x ≤ 0 → Rk X M a ls st h P) (zf : ¬ (x ≤ 0) → Rk X M (k + 1) ls st h P) : Rk X M k ls (.int x :: st) h P := by
  by_cases hc : x ≤ 0
  · exact rk_one hr rfl (by simp only [ai_stp, ai_br, rk_tg ht]; rw [if_pos hc]) (zt hc)
  · exact rk_one hr rfl (by simp only [ai_stp, ai_br, rk_tg ht]; rw [if_neg hc]) (zf hc)
theorem rk_ifnull_r {pc len a b p q : Nat} {v0 : Value} {off : Int} {x : Nat} (hr : (ai_mR M)[k]? = some (pc, .ifnull off, len, v0, a, b, p, q)) (z : Rk X M (k + 1) ls st h P) : Rk X M k ls (.ref x :: st) h P :=
  rk_one hr rfl rfl z
theorem rk_ifnull_n {pc len a b p q : Nat} {v0 : Value} {off : Int} (hr : (ai_mR M)[k]? = some (pc, .ifnull off, len, v0, a, b, p, q)) (ht : ((ai_mR M)[a]?).map (fun r => (r.1 : Int)) = some ((pc : Int) + off)) (z : Rk X M a ls st h P) : Rk X M k ls (.null :: st) h P :=
  rk_one hr rfl (by simp only [ai_stp, rk_tg ht]) z
theorem rk_ifnn_n {pc len a b p q : Nat} {v0 : Value} {off : Int} (hr : (ai_mR M)[k]? = some (pc, .ifnonnull off, len, v0, a, b, p, q)) (z : Rk X M (k + 1) ls st h P) : Rk X M k ls (.null :: st) h P :=
  rk_one hr rfl rfl z
theorem rk_ifnn_r {pc len a b p q : Nat} {v0 : Value} {off : Int} {x : Nat} (hr : (ai_mR M)[k]? = some (pc, .ifnonnull off, len, v0, a, b, p, q)) (ht : ((ai_mR M)[a]?).map (fun r => (r.1 : Int)) = some ((pc : Int) + off)) (z : Rk X M a ls st h P) : Rk X M k ls (.ref x :: st) h P :=
  rk_one hr rfl (by simp only [ai_stp, rk_tg ht]) z
theorem rk_tf {pc j : Nat} {off : Int} (hj : (ai_mR M).dropWhile (fun r => !decide ((pc : Int) + off = (r.1 : Int))) = (ai_mR M).drop j) (ht : ((ai_mR M)[j]?).map (fun r => (r.1 : Int)) = some ((pc : Int) + off)) : ai_tf (ai_mR M) pc off = some ((ai_mR M).drop j) := by
  obtain ⟨r, hr, he⟩ := Option.map_eq_some_iff.mp ht
  rw [ai_tf, hj, rk_drop hr]
  simp only
  rw [if_pos he.symm]
theorem rk_sw_out {pc len a b p q : Nat} {v0 : Value} {d lo hi : Int} {offs : Array Int} {x : Int32} {j : Nat} (hr : (ai_mR M)[k]? = some (pc, .tableswitch d lo hi offs, len, v0, a, b, p, q)) (hx : x.toInt < lo ∨ hi < x.toInt) (hj : (ai_mR M).dropWhile (fun r => !decide ((pc : Int) + d = (r.1 : Int))) = (ai_mR M).drop j) (ht : ((ai_mR M)[j]?).map (fun r => (r.1 : Int)) = some ((pc : Int) + d)) (z : Rk X M j ls st h P) : Rk X M k ls (.int x :: st) h P :=
  rk_one hr rfl (by simp only [ai_stp]; rw [if_pos hx, rk_tf hj ht]) z
theorem rk_sw_in {pc len a b p q : Nat} {v0 : Value} {d lo hi off : Int} {offs : Array Int} {x : Int32} {j : Nat} (hr : (ai_mR M)[k]? = some (pc, .tableswitch d lo hi offs, len, v0, a, b, p, q)) (hx : ¬ (x.toInt < lo ∨ hi < x.toInt)) (ho : offs[(x.toInt - lo).toNat]? = some off) (hj : (ai_mR M).dropWhile (fun r => !decide ((pc : Int) + off = (r.1 : Int))) = (ai_mR M).drop j) (ht : ((ai_mR M)[j]?).map (fun r => (r.1 : Int)) = some ((pc : Int) + off)) (z : Rk X M j ls st h P) : Rk X M k ls (.int x :: st) h P :=
  rk_one hr rfl (by simp only [ai_stp]; rw [if_neg hx]; simp only [ho, rk_tf hj ht]) z
theorem rk_get {pc len c f p q i ad : Nat} {v0 v : Value} {fs : List Value} (hr : (ai_mR M)[k]? = some (pc, .getfield i, len, v0, c, f, p, q)) (hh : h[ad]? = some (.inr (c, fs))) (hf : fs[f]? = some v) (z : Rk X M (k + 1) ls (v :: st) h P) : Rk X M k ls (.ref ad :: st) h P :=
  rk_one hr rfl (by simp only [ai_stp, hh]; rw [if_pos trivial]; simp only [hf]) z
theorem rk_put {pc len c f p q i ad : Nat} {v0 v : Value} {fs fs1 : List Value} {ty : FieldType} (hr : (ai_mR M)[k]? = some (pc, .putfield i, len, v0, c, f, p, q)) (hh : h[ad]? = some (.inr (c, fs))) (hl : f < fs.length) (hty : ai_fty c f = some ty) (hfit : ai_fit ty v = true) (hfin : ai_ffin c f = false ∨ ((ai_mY M).name = "<init>" ∧ c = ai_mC M)) (hs : fs.set f v = fs1) (z : Rk X M (k + 1) ls st (h.set ad (.inr (c, fs1))) P) : Rk X M k ls (v :: .ref ad :: st) h P := by
  subst hs
  refine rk_one hr rfl ?_ z
  simp only [ai_stp, hh]
  rw [if_pos ⟨trivial, hl⟩]
  simp only [hty]
  rw [if_pos ⟨hfit, hfin⟩]
theorem rk_alen {pc len a b p q : Nat} {v0 : Value} {ad t : Nat} {x : vp_A} {w : Int32} (hr : (ai_mR M)[k]? = some (pc, .arraylength, len, v0, a, b, p, q)) (hh : h[ad]? = some (.inl (t, x))) (ht : t < 6) (hw : Int32.ofNat x.1 = w) (z : Rk X M (k + 1) ls (.int w :: st) h P) : Rk X M k ls (.ref ad :: st) h P :=
  rk_one hr rfl (by subst hw; simp only [ai_stp, hh]; rw [if_pos ht]) z
theorem rk_iald {pc len a b p q : Nat} {v0 : Value} {ad n j : Nat} {f : Nat → Int32} {i : Int32} (hr : (ai_mR M)[k]? = some (pc, .iaload, len, v0, a, b, p, q)) (hh : h[ad]? = some (.inl (0, n, .inl f))) (hi : i = nI j) (hj : j < n) (hn : n < 2 ^ 31) (z : Rk X M (k + 1) ls (.int (f j) :: st) h P) : Rk X M k ls (.int i :: .ref ad :: st) h P := by
  subst hi
  have hc : (nI j).toNatClampNeg = j := nI_clamp (by omega)
  refine rk_one hr rfl ?_ z
  simp only [ai_stp, hh]
  rw [if_neg (nI_in hj hn), hc]
theorem rk_lald {pc len a b p q : Nat} {v0 : Value} {ad n j : Nat} {f : Nat → Int64} {i : Int32} (hr : (ai_mR M)[k]? = some (pc, .laload, len, v0, a, b, p, q)) (hh : h[ad]? = some (.inl (1, n, .inr (.inl f)))) (hi : i = nI j) (hj : j < n) (hn : n < 2 ^ 31) (z : Rk X M (k + 1) ls (.long (f j) :: st) h P) : Rk X M k ls (.int i :: .ref ad :: st) h P := by
  subst hi
  have hc : (nI j).toNatClampNeg = j := nI_clamp (by omega)
  refine rk_one hr rfl ?_ z
  simp only [ai_stp, hh]
  rw [if_neg (nI_in hj hn), hc]
theorem rk_zald {pc len a b p q : Nat} {v0 : Value} {ad n j : Nat} {f : Nat → Int32} {i : Int32} (hr : (ai_mR M)[k]? = some (pc, .baload, len, v0, a, b, p, q)) (hh : h[ad]? = some (.inl (2, n, .inl f))) (hi : i = nI j) (hj : j < n) (hn : n < 2 ^ 31) (z : Rk X M (k + 1) ls (.int (f j) :: st) h P) : Rk X M k ls (.int i :: .ref ad :: st) h P := by
  subst hi
  have hc : (nI j).toNatClampNeg = j := nI_clamp (by omega)
  refine rk_one hr rfl ?_ z
  simp only [ai_stp, hh]
  rw [if_neg (nI_in hj hn), hc]
theorem rk_iast {pc len a b p q : Nat} {v0 : Value} {ad n j : Nat} {f : Nat → Int32} {i : Int32} {x : Int32} (hr : (ai_mR M)[k]? = some (pc, .iastore, len, v0, a, b, p, q)) (hh : h[ad]? = some (.inl (0, n, .inl f))) (hi : i = nI j) (hj : j < n) (hn : n < 2 ^ 31) (z : Rk X M (k + 1) ls st (h.set ad (.inl (0, n, .inl (upd f j x)))) P) : Rk X M k ls (.int x :: .int i :: .ref ad :: st) h P := by
  subst hi
  have hc : (nI j).toNatClampNeg = j := nI_clamp (by omega)
  refine rk_one hr rfl ?_ z
  simp only [ai_stp, hh]
  rw [if_neg (nI_in hj hn), hc]
theorem rk_last {pc len a b p q : Nat} {v0 : Value} {ad n j : Nat} {f : Nat → Int64} {i : Int32} {x : Int64} (hr : (ai_mR M)[k]? = some (pc, .lastore, len, v0, a, b, p, q)) (hh : h[ad]? = some (.inl (1, n, .inr (.inl f)))) (hi : i = nI j) (hj : j < n) (hn : n < 2 ^ 31) (z : Rk X M (k + 1) ls st (h.set ad (.inl (1, n, .inr (.inl (vp_updL f j x))))) P) : Rk X M k ls (.long x :: .int i :: .ref ad :: st) h P := by
  subst hi
  have hc : (nI j).toNatClampNeg = j := nI_clamp (by omega)
  refine rk_one hr rfl ?_ z
  simp only [ai_stp, hh]
  rw [if_neg (nI_in hj hn), hc]
theorem rk_zast {pc len a b p q : Nat} {v0 : Value} {ad n j : Nat} {f : Nat → Int32} {i : Int32} {x : Int32} (hr : (ai_mR M)[k]? = some (pc, .bastore, len, v0, a, b, p, q)) (hh : h[ad]? = some (.inl (2, n, .inl f))) (hi : i = nI j) (hj : j < n) (hn : n < 2 ^ 31) (z : Rk X M (k + 1) ls st (h.set ad (.inl (2, n, .inl (upd f j (vp_nar .boolean x))))) P) : Rk X M k ls (.int x :: .int i :: .ref ad :: st) h P := by
  subst hi
  have hc : (nI j).toNatClampNeg = j := nI_clamp (by omega)
  refine rk_one hr rfl ?_ z
  simp only [ai_stp, hh]
  rw [if_neg (nI_in hj hn), hc]
theorem rk_aald {pc len a b p q : Nat} {v0 : Value} {ad n j t : Nat} {f : Nat → Option Nat} {i : Int32} {w : Value} (hr : (ai_mR M)[k]? = some (pc, .aaload, len, v0, a, b, p, q)) (hh : h[ad]? = some (.inl (t, n, .inr (.inr (.inr (.inr f)))))) (ht : 3 ≤ t ∧ t < 6) (hi : i = nI j) (hj : j < n) (hn : n < 2 ^ 31) (hw : va_rf (f j) = w) (z : Rk X M (k + 1) ls (w :: st) h P) : Rk X M k ls (.int i :: .ref ad :: st) h P := by
  subst hi
  subst hw
  have hc : (nI j).toNatClampNeg = j := nI_clamp (by omega)
  refine rk_one hr rfl ?_ z
  simp only [ai_stp, hh]
  rw [if_neg, hc]
  intro w
  rcases w with w | w | w | w
  · exact nI_in hj hn (Or.inl w)
  · exact nI_in hj hn (Or.inr w)
  · omega
  · omega
theorem rk_aast {pc len a b p q : Nat} {v0 : Value} {ad n j t v c : Nat} {f : Nat → Option Nat} {fs : List Value} {i : Int32} {C : String} {qc : vw_C} (hr : (ai_mR M)[k]? = some (pc, .aastore, len, v0, a, b, p, q)) (hh : h[ad]? = some (.inl (t, n, .inr (.inr (.inr (.inr f)))))) (hv : h[v]? = some (.inr (c, fs))) (ht : ai_ty[t]? = some (.object C)) (hc : ai_cl[c]? = some qc) (hC : C = qc.1) (hi : i = nI j) (hj : j < n) (hn : n < 2 ^ 31) (z : Rk X M (k + 1) ls st (h.set ad (.inl (t, n, .inr (.inr (.inr (.inr (va_up f j (some v)))))))) P) : Rk X M k ls (.ref v :: .int i :: .ref ad :: st) h P := by
  subst hi
  have hcl : (nI j).toNatClampNeg = j := nI_clamp (by omega)
  refine rk_one hr rfl ?_ z
  simp only [ai_stp, hh, hv]
  rw [if_neg (nI_in hj hn)]
  simp only [ht, hc]
  rw [if_pos hC, hcl]
theorem rk_slen {pc len a b p q : Nat} {v0 : Value} (hr : (ai_mR M)[k]? = some (pc, .arraylength, len, v0, a, b, p, q)) (h12 : ai_mC M = 12) (z : Rk X M (k + 1) ls (.int (Int32.ofNat X.1) :: st) h P) : Rk X M k ls (.float 99 :: st) h P :=
  rk_one hr rfl (by simp only [ai_stp]; rw [if_pos ⟨trivial, h12⟩]) z
theorem rk_sald {pc len a b p q : Nat} {v0 : Value} {j : Nat} {i : Int32} (hr : (ai_mR M)[k]? = some (pc, .iaload, len, v0, a, b, p, q)) (h12 : ai_mC M = 12) (hi : i = nI j) (hj : j < X.1) (hn : X.1 < 2 ^ 31) (z : Rk X M (k + 1) ls (.int (X.2 j) :: st) h P) : Rk X M k ls (.int i :: .float 99 :: st) h P := by
  subst hi
  have hc : (nI j).toNatClampNeg = j := nI_clamp (by omega)
  refine rk_one hr rfl ?_ z
  simp only [ai_stp]
  rw [if_neg, hc]
  intro w
  rcases w with w | w | w | w
  · exact nI_in hj hn (Or.inl w)
  · exact nI_in hj hn (Or.inr w)
  · exact w rfl
  · exact w h12
theorem rk_ireturn {pc len a b p q : Nat} {v0 : Value} {v : Int32} (hr : (ai_mR M)[k]? = some (pc, .ireturn, len, v0, a, b, p, q)) (ht : ai_rok (ai_mT M) v = true) (z : P (some (.int v), h, 0, 0)) : Rk X M k ls [.int v] h P :=
  ⟨1, _, by rw [rk_drop hr]; unfold ai_run; simp only [ai_kd]; rw [if_pos ht], z⟩
theorem rk_lreturn {pc len a b p q : Nat} {v0 : Value} {v : Int64} (hr : (ai_mR M)[k]? = some (pc, .lreturn, len, v0, a, b, p, q)) (ht : ai_mT M = some .long) (z : P (some (.long v), h, 0, 0)) : Rk X M k ls [.long v] h P :=
  ⟨1, _, by rw [rk_drop hr]; unfold ai_run; simp only [ai_kd]; rw [if_pos ht], z⟩
theorem rk_return {pc len a b p q : Nat} {v0 : Value} (hr : (ai_mR M)[k]? = some (pc, .return_, len, v0, a, b, p, q)) (ht : ai_mT M = none) (z : P (none, h, 0, 0)) : Rk X M k ls [] h P :=
  ⟨1, _, by rw [rk_drop hr]; unfold ai_run; simp only [ai_kd]; rw [if_pos ht], z⟩
theorem rk_map {n : Nat} {M1 : ai_M} {s : ai_S} {c d : Nat} {o1 : ai_O} (hn : ai_run X n M1 s = some o1) : (ai_run X n M1 s).map (ai_add c d) = some (ai_add c d o1) := by rw [hn]; rfl
theorem rk_new {pc len c b p q i : Nat} {v0 : Value} {fs : List Value} (hr : (ai_mR M)[k]? = some (pc, .new i, len, v0, c, b, p, q)) (hf : ai_df[c]? = some fs) (z : Rk X M (k + 1) ls (.ref h.length :: st) (h ++ [.inr (c, fs)]) (fun o => P (ai_add 1 fs.length o))) : Rk X M k ls st h P := by
  obtain ⟨n, o, hn, hP⟩ := z
  refine ⟨n + 1, _, ?_, hP⟩
  rw [rk_drop hr]
  unfold ai_run
  simp only [ai_kd, hf]
  exact rk_map hn
theorem rk_newa {pc len a b p q t N : Nat} {v0 : Value} {ty : ArrayType} {kk : Int32} {f : (Nat → Int32) ⊕ (Nat → Int64) ⊕ (Nat → UInt32) ⊕ (Nat → UInt64) ⊕ (Nat → Option Nat)} (hr : (ai_mR M)[k]? = some (pc, .newarray ty, len, v0, a, b, p, q)) (ht : ai_at ty = t) (hf : ai_arr0 t = some f) (hk : kk = nI N) (hN : N ≤ 65536) (z : Rk X M (k + 1) ls (.ref h.length :: st) (h ++ [.inl (t, N, f)]) (fun o => P (ai_add 1 N o))) : Rk X M k ls (.int kk :: st) h P := by
  subst ht
  subst hk
  have hc : (nI N).toNatClampNeg = N := nI_clamp (by omega)
  obtain ⟨n, o, hn, hP⟩ := z
  refine ⟨n + 1, _, ?_, hP⟩
  rw [rk_drop hr]
  unfold ai_run
  simp only [ai_kd, ai_nt, hf]
  rw [if_neg, hc]
  · exact rk_map hn
  · rw [hc]
    rintro (w | w)
    · exact nI_pos (by omega) w
    · omega
theorem rk_anewa {pc len a b p q N i : Nat} {v0 : Value} {kk : Int32} (hr : (ai_mR M)[k]? = some (pc, .anewarray i, len, v0, a, b, p, q)) (ha : 3 ≤ a) (hk : kk = nI N) (hN : N ≤ 65536) (z : Rk X M (k + 1) ls (.ref h.length :: st) (h ++ [.inl (a, N, .inr (.inr (.inr (.inr (fun _ => none)))))]) (fun o => P (ai_add 1 N o))) : Rk X M k ls (.int kk :: st) h P := by
  subst hk
  have hc : (nI N).toNatClampNeg = N := nI_clamp (by omega)
  obtain ⟨n, o, hn, hP⟩ := z
  refine ⟨n + 1, _, ?_, hP⟩
  rw [rk_drop hr]
  unfold ai_run
  simp only [ai_kd]
  rw [if_neg, hc]
  · exact rk_map hn
  · rw [hc]
    rintro (w | w | w)
    · exact nI_pos (by omega) w
    · omega
    · omega
theorem rk_obj {pc len b p q i ad : Nat} {v0 : Value} (hr : (ai_mR M)[k]? = some (pc, .invokespecial i, len, v0, 4, b, p, q)) (hs : ai_sum st ≤ 8) (z : Rk X M (k + 1) ls st h P) : Rk X M k ls (.ref ad :: st) h P := by
  obtain ⟨n, o, hn, hP⟩ := z
  refine ⟨n + 1, o, ?_, hP⟩
  rw [rk_drop hr]
  unfold ai_run
  simp only [ai_kd]
  rw [if_pos trivial, if_pos hs]
  exact hn
theorem rk_copy {pc len b p q i : Nat} {v0 : Value} {t : List Value} {h1 : ai_H} (hr : (ai_mR M)[k]? = some (pc, .invokestatic i, len, v0, 5, b, p, q)) (hc : ai_cpy st h = some (t, h1)) (hs : ai_sum t ≤ 8) (z : Rk X M (k + 1) ls t h1 P) : Rk X M k ls st h P := by
  obtain ⟨n, o, hn, hP⟩ := z
  refine ⟨n + 1, o, ?_, hP⟩
  rw [rk_drop hr]
  unfold ai_run
  simp only [ai_kd]
  rw [if_neg (by decide), if_pos trivial]
  simp only [hc]
  rw [if_pos hs]
  exact hn
theorem rk_slen2 {pc len b p q i : Nat} {v0 : Value} {kk : UInt32} {t : List Value} (hr : (ai_mR M)[k]? = some (pc, .invokevirtual i, len, v0, 6, b, p, q)) (hk : kk.toNat < 11) (hs : ai_sum t ≤ 8) (z : Rk X M (k + 1) ls (.int (nI (ai_sl.getD kk.toNat 0)) :: t) h P) : Rk X M k ls (.float kk :: t) h P := by
  obtain ⟨n, o, hn, hP⟩ := z
  refine ⟨n + 1, o, ?_, hP⟩
  rw [rk_drop hr]
  unfold ai_run
  simp only [ai_kd]
  rw [if_neg (by decide), if_neg (by decide), if_pos trivial, if_pos ⟨hs, hk⟩]
  exact hn
theorem rk_schr {pc len b p q i : Nat} {v0 : Value} {kk : UInt32} {t : List Value} {x : Int32} {j : Nat} (hr : (ai_mR M)[k]? = some (pc, .invokevirtual i, len, v0, 7, b, p, q)) (hk : kk.toNat < 11) (hs : ai_sum t ≤ 8) (hx : x = nI j) (hj : j < ai_sl.getD kk.toNat 0) (hj2 : ai_sl.getD kk.toNat 0 < 2 ^ 31) (z : Rk X M (k + 1) ls (.int (ai_sc kk.toNat j) :: t) h P) : Rk X M k ls (.int x :: .float kk :: t) h P := by
  subst hx
  have hc : (nI j).toNatClampNeg = j := nI_clamp (by omega)
  obtain ⟨n, o, hn, hP⟩ := z
  refine ⟨n + 1, o, ?_, hP⟩
  rw [rk_drop hr]
  unfold ai_run
  simp only [ai_kd]
  rw [if_neg (by decide), if_neg (by decide), if_neg (by decide), if_pos trivial, if_pos ⟨hs, hk, nI_in hj hj2⟩, hc]
  exact hn
theorem rk_max {pc len b p q i : Nat} {v0 : Value} {t : List Value} {x y w : Int32} (hr : (ai_mR M)[k]? = some (pc, .invokestatic i, len, v0, 8, b, p, q)) (hs : ai_sum t ≤ 8) (hw : (if x < y then y else x) = w) (z : Rk X M (k + 1) ls (.int w :: t) h P) : Rk X M k ls (.int y :: .int x :: t) h P := by
  subst hw
  obtain ⟨n, o, hn, hP⟩ := z
  refine ⟨n + 1, o, ?_, hP⟩
  rw [rk_drop hr]
  unfold ai_run
  simp only [ai_kd]
  rw [if_neg (by decide), if_neg (by decide), if_neg (by decide), if_neg (by decide), if_pos trivial, if_pos hs]
  exact hn
theorem rk_min {pc len b p q i : Nat} {v0 : Value} {t : List Value} {x y w : Int32} (hr : (ai_mR M)[k]? = some (pc, .invokestatic i, len, v0, 9, b, p, q)) (hs : ai_sum t ≤ 8) (hw : (if y < x then y else x) = w) (z : Rk X M (k + 1) ls (.int w :: t) h P) : Rk X M k ls (.int y :: .int x :: t) h P := by
  subst hw
  obtain ⟨n, o, hn, hP⟩ := z
  refine ⟨n + 1, o, ?_, hP⟩
  rw [rk_drop hr]
  unfold ai_run
  simp only [ai_kd]
  rw [if_neg (by decide), if_neg (by decide), if_neg (by decide), if_neg (by decide), if_neg (by decide), if_pos trivial, if_pos hs]
  exact hn
theorem rk_ldcs {pc len a b p q n : Nat} {v : UInt32} (hr : (ai_mR M)[k]? = some (pc, .ldc n, len, .float v, a, b, p, q)) (hv : v.toNat < 11) (z : Rk X M (k + 1) ls (.float v :: st) h P) : Rk X M k ls st h P :=
  rk_one hr rfl (by simp only [ai_stp]; rw [if_pos hv]) z
theorem rk_call {r : ai_R} {M1 : ai_M} {av t : List Value} {P1 : ai_O → Prop} (hr : (ai_mR M)[k]? = some r) (hk : ai_kd r.2.1 = 7) (ha : r.2.2.2.2.1 < 4) (hM : ai_mt[r.2.2.2.2.2.1]? = some M1) (hav : ai_arg h r.2.2.2.2.1 M1 st = some (av, t)) (hfl : (ai_fl av).length ≤ ai_mL M1) (hs : ai_sum t ≤ 8) (hm : Mt X M1 av h P1) (z : ∀ o1 : ai_O, P1 o1 → Rk X M (k + 1) ls (o1.1.toList ++ t) o1.2.1 (fun o => P (ai_add o1.2.2.1 o1.2.2.2 o))) : Rk X M k ls st h P := by
  obtain ⟨n1, o1, hn1, hP1⟩ := hm
  obtain ⟨n, o, hn, hP⟩ := z o1 hP1
  have e1 := ai_mono (k := n1) hn
  have e2 := ai_mono (k := n) hn1
  rw [Nat.add_comm] at e2
  refine ⟨n + n1 + 1, _, ?_, hP⟩
  rw [rk_drop hr]
  unfold ai_run
  simp only [hk]
  rw [if_neg (by omega), if_neg (by omega), if_neg (by omega), if_neg (by omega), if_neg (by omega), if_neg (by omega), if_pos ha]
  simp only [hM, hav]
  rw [if_pos ⟨hfl, hs⟩]
  have e3 : ai_run X (n + n1) M1 (ai_mR M1, ai_loc (ai_mL M1) av, [], h) = some o1 := e2
  simp only [e3]
  exact rk_map e1
theorem ai_add00 (o : ai_O) : ai_add 0 0 o = o := by
  obtain ⟨a, b, c, d⟩ := o
  simp [ai_add]
theorem rk_arg {k : Nat} {M1 : ai_M} {as t fs : List Value} {ad c : Nat} (hk : k ≠ 1) (hh : h[ad]? = some (.inr (c, fs))) (hc : c = ai_mC M1) (hn : as.length = ai_mN M1) : ai_arg h k M1 (as.reverse ++ .ref ad :: t) = some (.ref ad :: as, t) := by
  have h1 : (as.reverse ++ .ref ad :: t).drop (ai_mN M1) = .ref ad :: t := by rw [← hn, ← List.length_reverse (as := as)]; exact List.drop_left
  have h2 : (as.reverse ++ .ref ad :: t).take (ai_mN M1) = as.reverse := by rw [← hn, ← List.length_reverse (as := as)]; exact List.take_left
  simp only [ai_arg, h1, h2, hh, List.reverse_reverse]
  rw [if_neg hk, if_pos hc]
theorem rk_args {M1 : ai_M} {as t : List Value} (hn : as.length = ai_mN M1) : ai_arg h 1 M1 (as.reverse ++ t) = some (as, t) := by
  have h1 : (as.reverse ++ t).drop (ai_mN M1) = t := by rw [← hn, ← List.length_reverse (as := as)]; exact List.drop_left
  have h2 : (as.reverse ++ t).take (ai_mN M1) = as.reverse := by rw [← hn, ← List.length_reverse (as := as)]; exact List.take_left
  simp only [ai_arg, h1, h2, List.reverse_reverse]
  rw [if_pos trivial, if_pos]
  rw [← hn]; simp
/-- what a method that makes no cell leaves: its answer and its heap -/
def Qi (F : Int32 → ai_H → Prop) : ai_O → Prop := fun o => ∃ w h1, o = (some (.int w), h1, 0, 0) ∧ F w h1
def Ql (F : Int64 → ai_H → Prop) : ai_O → Prop := fun o => ∃ w h1, o = (some (.long w), h1, 0, 0) ∧ F w h1
def Qv (F : ai_H → Prop) : ai_O → Prop := fun o => ∃ h1, o = (none, h1, 0, 0) ∧ F h1
/-- an answer alone -/
def Qe (v : Int32) (h : ai_H) : ai_O → Prop := Qi (fun w h1 => w = v ∧ h1 = h)
theorem Qe_mk {v : Int32} {h : ai_H} : Qe v h (some (.int v), h, 0, 0) := ⟨v, h, rfl, rfl, rfl⟩
theorem Qe_of {v w : Int32} {h : ai_H} (e : w = v) : Qe v h (some (.int w), h, 0, 0) := ⟨w, h, rfl, e, rfl⟩

end AIRULES
end
section
/-! PURE RULES: calls by the number of their arguments; a heap that was written; whole numbers -/
section AICALLS
variable {X : ai_X} {M : ai_M} {k : Nat} {ls : ai_L} {st t : List Value} {h : ai_H} {P : ai_O → Prop}
/-- behind a write: what is known of the new heap -/
theorem hp_gen {ad : Nat} {c0 C : ai_C} (f : h[ad]? = some c0) (z : ∀ h1 : ai_H, h1[ad]? = some C → (∀ q : Nat, q ≠ ad → h1[q]? = h[q]?) → h1.length = h.length → Rk X M k ls st h1 P) : Rk X M k ls st (h.set ad C) P :=
  z _ (by rw [List.getElem?_set_self (List.getElem?_eq_some_iff.mp f).1]) (fun q hq => by rw [List.getElem?_set_ne (Ne.symm hq)]) (by rw [List.length_set])
theorem ad00 {k : Nat} {ls : ai_L} {st : List Value} {h : ai_H} (z : Rk X M k ls st h P) : Rk X M k ls st h (fun o => P (ai_add 0 0 o)) := z.mono (fun o hP => by rw [ai_add00]; exact hP)
theorem rk_cv0i {F : Int32 → ai_H → Prop} {pc len b p q i ad c : Nat} {v0 : Value} {M1 : ai_M} {fs : List Value} (hr : (ai_mR M)[k]? = some (pc, .invokevirtual i, len, v0, 0, b, p, q)) (hM : ai_mt[b]? = some M1) (hh : h[ad]? = some (.inr (c, fs))) (hc : c = ai_mC M1) (hn : 0 = ai_mN M1) (hfl : (ai_fl [.ref ad]).length ≤ ai_mL M1) (hs : ai_sum t ≤ 8) (hm : Mt X M1 [.ref ad] h (Qi F)) (z : ∀ w h1, F w h1 → Rk X M (k + 1) ls (.int w :: t) h1 P) : Rk X M k ls (.ref ad :: t) h P := by
  refine rk_call hr rfl (Nat.le_of_ble_eq_true rfl) hM (rk_arg (as := []) (by show (0 : Nat) ≠ 1; decide) hh hc hn) hfl hs hm ?_
  rintro o1 ⟨w, h1, rfl, hF⟩
  exact ad00 (z w h1 hF)
theorem rk_cv0l {F : Int64 → ai_H → Prop} {pc len b p q i ad c : Nat} {v0 : Value} {M1 : ai_M} {fs : List Value} (hr : (ai_mR M)[k]? = some (pc, .invokevirtual i, len, v0, 0, b, p, q)) (hM : ai_mt[b]? = some M1) (hh : h[ad]? = some (.inr (c, fs))) (hc : c = ai_mC M1) (hn : 0 = ai_mN M1) (hfl : (ai_fl [.ref ad]).length ≤ ai_mL M1) (hs : ai_sum t ≤ 8) (hm : Mt X M1 [.ref ad] h (Ql F)) (z : ∀ w h1, F w h1 → Rk X M (k + 1) ls (.long w :: t) h1 P) : Rk X M k ls (.ref ad :: t) h P := by
  refine rk_call hr rfl (Nat.le_of_ble_eq_true rfl) hM (rk_arg (as := []) (by show (0 : Nat) ≠ 1; decide) hh hc hn) hfl hs hm ?_
  rintro o1 ⟨w, h1, rfl, hF⟩
  exact ad00 (z w h1 hF)
theorem rk_cv0v {F : ai_H → Prop} {pc len b p q i ad c : Nat} {v0 : Value} {M1 : ai_M} {fs : List Value} (hr : (ai_mR M)[k]? = some (pc, .invokevirtual i, len, v0, 0, b, p, q)) (hM : ai_mt[b]? = some M1) (hh : h[ad]? = some (.inr (c, fs))) (hc : c = ai_mC M1) (hn : 0 = ai_mN M1) (hfl : (ai_fl [.ref ad]).length ≤ ai_mL M1) (hs : ai_sum t ≤ 8) (hm : Mt X M1 [.ref ad] h (Qv F)) (z : ∀ h1, F h1 → Rk X M (k + 1) ls t h1 P) : Rk X M k ls (.ref ad :: t) h P := by
  refine rk_call hr rfl (Nat.le_of_ble_eq_true rfl) hM (rk_arg (as := []) (by show (0 : Nat) ≠ 1; decide) hh hc hn) hfl hs hm ?_
  rintro o1 ⟨h1, rfl, hF⟩
  exact ad00 (z h1 hF)
theorem rk_cv0e {v : Int32} {pc len b p q i ad c : Nat} {v0 : Value} {M1 : ai_M} {fs : List Value} (hr : (ai_mR M)[k]? = some (pc, .invokevirtual i, len, v0, 0, b, p, q)) (hM : ai_mt[b]? = some M1) (hh : h[ad]? = some (.inr (c, fs))) (hc : c = ai_mC M1) (hn : 0 = ai_mN M1) (hfl : (ai_fl [.ref ad]).length ≤ ai_mL M1) (hs : ai_sum t ≤ 8) (hm : Mt X M1 [.ref ad] h (Qe v h)) (z : Rk X M (k + 1) ls (.int v :: t) h P) : Rk X M k ls (.ref ad :: t) h P :=
  rk_cv0i hr hM hh hc hn hfl hs hm (fun w h1 hF => by obtain ⟨rfl, rfl⟩ := hF; exact z)
theorem rk_cv1i {F : Int32 → ai_H → Prop} {pc len b p q i ad c : Nat} {v0 : Value} {M1 : ai_M} {x0 : Value} {fs : List Value} (hr : (ai_mR M)[k]? = some (pc, .invokevirtual i, len, v0, 0, b, p, q)) (hM : ai_mt[b]? = some M1) (hh : h[ad]? = some (.inr (c, fs))) (hc : c = ai_mC M1) (hn : 1 = ai_mN M1) (hfl : (ai_fl [.ref ad, x0]).length ≤ ai_mL M1) (hs : ai_sum t ≤ 8) (hm : Mt X M1 [.ref ad, x0] h (Qi F)) (z : ∀ w h1, F w h1 → Rk X M (k + 1) ls (.int w :: t) h1 P) : Rk X M k ls (x0 :: .ref ad :: t) h P := by
  refine rk_call hr rfl (Nat.le_of_ble_eq_true rfl) hM (rk_arg (as := [x0]) (by show (0 : Nat) ≠ 1; decide) hh hc hn) hfl hs hm ?_
  rintro o1 ⟨w, h1, rfl, hF⟩
  exact ad00 (z w h1 hF)
theorem rk_cv1l {F : Int64 → ai_H → Prop} {pc len b p q i ad c : Nat} {v0 : Value} {M1 : ai_M} {x0 : Value} {fs : List Value} (hr : (ai_mR M)[k]? = some (pc, .invokevirtual i, len, v0, 0, b, p, q)) (hM : ai_mt[b]? = some M1) (hh : h[ad]? = some (.inr (c, fs))) (hc : c = ai_mC M1) (hn : 1 = ai_mN M1) (hfl : (ai_fl [.ref ad, x0]).length ≤ ai_mL M1) (hs : ai_sum t ≤ 8) (hm : Mt X M1 [.ref ad, x0] h (Ql F)) (z : ∀ w h1, F w h1 → Rk X M (k + 1) ls (.long w :: t) h1 P) : Rk X M k ls (x0 :: .ref ad :: t) h P := by
  refine rk_call hr rfl (Nat.le_of_ble_eq_true rfl) hM (rk_arg (as := [x0]) (by show (0 : Nat) ≠ 1; decide) hh hc hn) hfl hs hm ?_
  rintro o1 ⟨w, h1, rfl, hF⟩
  exact ad00 (z w h1 hF)
theorem rk_cv1v {F : ai_H → Prop} {pc len b p q i ad c : Nat} {v0 : Value} {M1 : ai_M} {x0 : Value} {fs : List Value} (hr : (ai_mR M)[k]? = some (pc, .invokevirtual i, len, v0, 0, b, p, q)) (hM : ai_mt[b]? = some M1) (hh : h[ad]? = some (.inr (c, fs))) (hc : c = ai_mC M1) (hn : 1 = ai_mN M1) (hfl : (ai_fl [.ref ad, x0]).length ≤ ai_mL M1) (hs : ai_sum t ≤ 8) (hm : Mt X M1 [.ref ad, x0] h (Qv F)) (z : ∀ h1, F h1 → Rk X M (k + 1) ls t h1 P) : Rk X M k ls (x0 :: .ref ad :: t) h P := by
  refine rk_call hr rfl (Nat.le_of_ble_eq_true rfl) hM (rk_arg (as := [x0]) (by show (0 : Nat) ≠ 1; decide) hh hc hn) hfl hs hm ?_
  rintro o1 ⟨h1, rfl, hF⟩
  exact ad00 (z h1 hF)
theorem rk_cv1e {v : Int32} {pc len b p q i ad c : Nat} {v0 : Value} {M1 : ai_M} {x0 : Value} {fs : List Value} (hr : (ai_mR M)[k]? = some (pc, .invokevirtual i, len, v0, 0, b, p, q)) (hM : ai_mt[b]? = some M1) (hh : h[ad]? = some (.inr (c, fs))) (hc : c = ai_mC M1) (hn : 1 = ai_mN M1) (hfl : (ai_fl [.ref ad, x0]).length ≤ ai_mL M1) (hs : ai_sum t ≤ 8) (hm : Mt X M1 [.ref ad, x0] h (Qe v h)) (z : Rk X M (k + 1) ls (.int v :: t) h P) : Rk X M k ls (x0 :: .ref ad :: t) h P :=
  rk_cv1i hr hM hh hc hn hfl hs hm (fun w h1 hF => by obtain ⟨rfl, rfl⟩ := hF; exact z)
theorem rk_cv2i {F : Int32 → ai_H → Prop} {pc len b p q i ad c : Nat} {v0 : Value} {M1 : ai_M} {x0 x1 : Value} {fs : List Value} (hr : (ai_mR M)[k]? = some (pc, .invokevirtual i, len, v0, 0, b, p, q)) (hM : ai_mt[b]? = some M1) (hh : h[ad]? = some (.inr (c, fs))) (hc : c = ai_mC M1) (hn : 2 = ai_mN M1) (hfl : (ai_fl [.ref ad, x0, x1]).length ≤ ai_mL M1) (hs : ai_sum t ≤ 8) (hm : Mt X M1 [.ref ad, x0, x1] h (Qi F)) (z : ∀ w h1, F w h1 → Rk X M (k + 1) ls (.int w :: t) h1 P) : Rk X M k ls (x1 :: x0 :: .ref ad :: t) h P := by
  refine rk_call hr rfl (Nat.le_of_ble_eq_true rfl) hM (rk_arg (as := [x0, x1]) (by show (0 : Nat) ≠ 1; decide) hh hc hn) hfl hs hm ?_
  rintro o1 ⟨w, h1, rfl, hF⟩
  exact ad00 (z w h1 hF)
theorem rk_cv2l {F : Int64 → ai_H → Prop} {pc len b p q i ad c : Nat} {v0 : Value} {M1 : ai_M} {x0 x1 : Value} {fs : List Value} (hr : (ai_mR M)[k]? = some (pc, .invokevirtual i, len, v0, 0, b, p, q)) (hM : ai_mt[b]? = some M1) (hh : h[ad]? = some (.inr (c, fs))) (hc : c = ai_mC M1) (hn : 2 = ai_mN M1) (hfl : (ai_fl [.ref ad, x0, x1]).length ≤ ai_mL M1) (hs : ai_sum t ≤ 8) (hm : Mt X M1 [.ref ad, x0, x1] h (Ql F)) (z : ∀ w h1, F w h1 → Rk X M (k + 1) ls (.long w :: t) h1 P) : Rk X M k ls (x1 :: x0 :: .ref ad :: t) h P := by
  refine rk_call hr rfl (Nat.le_of_ble_eq_true rfl) hM (rk_arg (as := [x0, x1]) (by show (0 : Nat) ≠ 1; decide) hh hc hn) hfl hs hm ?_
  rintro o1 ⟨w, h1, rfl, hF⟩
  exact ad00 (z w h1 hF)
theorem rk_cv2v {F : ai_H → Prop} {pc len b p q i ad c : Nat} {v0 : Value} {M1 : ai_M} {x0 x1 : Value} {fs : List Value} (hr : (ai_mR M)[k]? = some (pc, .invokevirtual i, len, v0, 0, b, p, q)) (hM : ai_mt[b]? = some M1) (hh : h[ad]? = some (.inr (c, fs))) (hc : c = ai_mC M1) (hn : 2 = ai_mN M1) (hfl : (ai_fl [.ref ad, x0, x1]).length ≤ ai_mL M1) (hs : ai_sum t ≤ 8) (hm : Mt X M1 [.ref ad, x0, x1] h (Qv F)) (z : ∀ h1, F h1 → Rk X M (k + 1) ls t h1 P) : Rk X M k ls (x1 :: x0 :: .ref ad :: t) h P := by
  refine rk_call hr rfl (Nat.le_of_ble_eq_true rfl) hM (rk_arg (as := [x0, x1]) (by show (0 : Nat) ≠ 1; decide) hh hc hn) hfl hs hm ?_
  rintro o1 ⟨h1, rfl, hF⟩
  exact ad00 (z h1 hF)
theorem rk_cv2e {v : Int32} {pc len b p q i ad c : Nat} {v0 : Value} {M1 : ai_M} {x0 x1 : Value} {fs : List Value} (hr : (ai_mR M)[k]? = some (pc, .invokevirtual i, len, v0, 0, b, p, q)) (hM : ai_mt[b]? = some M1) (hh : h[ad]? = some (.inr (c, fs))) (hc : c = ai_mC M1) (hn : 2 = ai_mN M1) (hfl : (ai_fl [.ref ad, x0, x1]).length ≤ ai_mL M1) (hs : ai_sum t ≤ 8) (hm : Mt X M1 [.ref ad, x0, x1] h (Qe v h)) (z : Rk X M (k + 1) ls (.int v :: t) h P) : Rk X M k ls (x1 :: x0 :: .ref ad :: t) h P :=
  rk_cv2i hr hM hh hc hn hfl hs hm (fun w h1 hF => by obtain ⟨rfl, rfl⟩ := hF; exact z)
theorem rk_cv3i {F : Int32 → ai_H → Prop} {pc len b p q i ad c : Nat} {v0 : Value} {M1 : ai_M} {x0 x1 x2 : Value} {fs : List Value} (hr : (ai_mR M)[k]? = some (pc, .invokevirtual i, len, v0, 0, b, p, q)) (hM : ai_mt[b]? = some M1) (hh : h[ad]? = some (.inr (c, fs))) (hc : c = ai_mC M1) (hn : 3 = ai_mN M1) (hfl : (ai_fl [.ref ad, x0, x1, x2]).length ≤ ai_mL M1) (hs : ai_sum t ≤ 8) (hm : Mt X M1 [.ref ad, x0, x1, x2] h (Qi F)) (z : ∀ w h1, F w h1 → Rk X M (k + 1) ls (.int w :: t) h1 P) : Rk X M k ls (x2 :: x1 :: x0 :: .ref ad :: t) h P := by
  refine rk_call hr rfl (Nat.le_of_ble_eq_true rfl) hM (rk_arg (as := [x0, x1, x2]) (by show (0 : Nat) ≠ 1; decide) hh hc hn) hfl hs hm ?_
  rintro o1 ⟨w, h1, rfl, hF⟩
  exact ad00 (z w h1 hF)
theorem rk_cv3l {F : Int64 → ai_H → Prop} {pc len b p q i ad c : Nat} {v0 : Value} {M1 : ai_M} {x0 x1 x2 : Value} {fs : List Value} (hr : (ai_mR M)[k]? = some (pc, .invokevirtual i, len, v0, 0, b, p, q)) (hM : ai_mt[b]? = some M1) (hh : h[ad]? = some (.inr (c, fs))) (hc : c = ai_mC M1) (hn : 3 = ai_mN M1) (hfl : (ai_fl [.ref ad, x0, x1, x2]).length ≤ ai_mL M1) (hs : ai_sum t ≤ 8) (hm : Mt X M1 [.ref ad, x0, x1, x2] h (Ql F)) (z : ∀ w h1, F w h1 → Rk X M (k + 1) ls (.long w :: t) h1 P) : Rk X M k ls (x2 :: x1 :: x0 :: .ref ad :: t) h P := by
  refine rk_call hr rfl (Nat.le_of_ble_eq_true rfl) hM (rk_arg (as := [x0, x1, x2]) (by show (0 : Nat) ≠ 1; decide) hh hc hn) hfl hs hm ?_
  rintro o1 ⟨w, h1, rfl, hF⟩
  exact ad00 (z w h1 hF)
theorem rk_cv3v {F : ai_H → Prop} {pc len b p q i ad c : Nat} {v0 : Value} {M1 : ai_M} {x0 x1 x2 : Value} {fs : List Value} (hr : (ai_mR M)[k]? = some (pc, .invokevirtual i, len, v0, 0, b, p, q)) (hM : ai_mt[b]? = some M1) (hh : h[ad]? = some (.inr (c, fs))) (hc : c = ai_mC M1) (hn : 3 = ai_mN M1) (hfl : (ai_fl [.ref ad, x0, x1, x2]).length ≤ ai_mL M1) (hs : ai_sum t ≤ 8) (hm : Mt X M1 [.ref ad, x0, x1, x2] h (Qv F)) (z : ∀ h1, F h1 → Rk X M (k + 1) ls t h1 P) : Rk X M k ls (x2 :: x1 :: x0 :: .ref ad :: t) h P := by
  refine rk_call hr rfl (Nat.le_of_ble_eq_true rfl) hM (rk_arg (as := [x0, x1, x2]) (by show (0 : Nat) ≠ 1; decide) hh hc hn) hfl hs hm ?_
  rintro o1 ⟨h1, rfl, hF⟩
  exact ad00 (z h1 hF)
theorem rk_cv3e {v : Int32} {pc len b p q i ad c : Nat} {v0 : Value} {M1 : ai_M} {x0 x1 x2 : Value} {fs : List Value} (hr : (ai_mR M)[k]? = some (pc, .invokevirtual i, len, v0, 0, b, p, q)) (hM : ai_mt[b]? = some M1) (hh : h[ad]? = some (.inr (c, fs))) (hc : c = ai_mC M1) (hn : 3 = ai_mN M1) (hfl : (ai_fl [.ref ad, x0, x1, x2]).length ≤ ai_mL M1) (hs : ai_sum t ≤ 8) (hm : Mt X M1 [.ref ad, x0, x1, x2] h (Qe v h)) (z : Rk X M (k + 1) ls (.int v :: t) h P) : Rk X M k ls (x2 :: x1 :: x0 :: .ref ad :: t) h P :=
  rk_cv3i hr hM hh hc hn hfl hs hm (fun w h1 hF => by obtain ⟨rfl, rfl⟩ := hF; exact z)
theorem rk_cv4i {F : Int32 → ai_H → Prop} {pc len b p q i ad c : Nat} {v0 : Value} {M1 : ai_M} {x0 x1 x2 x3 : Value} {fs : List Value} (hr : (ai_mR M)[k]? = some (pc, .invokevirtual i, len, v0, 0, b, p, q)) (hM : ai_mt[b]? = some M1) (hh : h[ad]? = some (.inr (c, fs))) (hc : c = ai_mC M1) (hn : 4 = ai_mN M1) (hfl : (ai_fl [.ref ad, x0, x1, x2, x3]).length ≤ ai_mL M1) (hs : ai_sum t ≤ 8) (hm : Mt X M1 [.ref ad, x0, x1, x2, x3] h (Qi F)) (z : ∀ w h1, F w h1 → Rk X M (k + 1) ls (.int w :: t) h1 P) : Rk X M k ls (x3 :: x2 :: x1 :: x0 :: .ref ad :: t) h P := by
  refine rk_call hr rfl (Nat.le_of_ble_eq_true rfl) hM (rk_arg (as := [x0, x1, x2, x3]) (by show (0 : Nat) ≠ 1; decide) hh hc hn) hfl hs hm ?_
  rintro o1 ⟨w, h1, rfl, hF⟩
  exact ad00 (z w h1 hF)
theorem rk_cv4l {F : Int64 → ai_H → Prop} {pc len b p q i ad c : Nat} {v0 : Value} {M1 : ai_M} {x0 x1 x2 x3 : Value} {fs : List Value} (hr : (ai_mR M)[k]? = some (pc, .invokevirtual i, len, v0, 0, b, p, q)) (hM : ai_mt[b]? = some M1) (hh : h[ad]? = some (.inr (c, fs))) (hc : c = ai_mC M1) (hn : 4 = ai_mN M1) (hfl : (ai_fl [.ref ad, x0, x1, x2, x3]).length ≤ ai_mL M1) (hs : ai_sum t ≤ 8) (hm : Mt X M1 [.ref ad, x0, x1, x2, x3] h (Ql F)) (z : ∀ w h1, F w h1 → Rk X M (k + 1) ls (.long w :: t) h1 P) : Rk X M k ls (x3 :: x2 :: x1 :: x0 :: .ref ad :: t) h P := by
  refine rk_call hr rfl (Nat.le_of_ble_eq_true rfl) hM (rk_arg (as := [x0, x1, x2, x3]) (by show (0 : Nat) ≠ 1; decide) hh hc hn) hfl hs hm ?_
  rintro o1 ⟨w, h1, rfl, hF⟩
  exact ad00 (z w h1 hF)
theorem rk_cv4v {F : ai_H → Prop} {pc len b p q i ad c : Nat} {v0 : Value} {M1 : ai_M} {x0 x1 x2 x3 : Value} {fs : List Value} (hr : (ai_mR M)[k]? = some (pc, .invokevirtual i, len, v0, 0, b, p, q)) (hM : ai_mt[b]? = some M1) (hh : h[ad]? = some (.inr (c, fs))) (hc : c = ai_mC M1) (hn : 4 = ai_mN M1) (hfl : (ai_fl [.ref ad, x0, x1, x2, x3]).length ≤ ai_mL M1) (hs : ai_sum t ≤ 8) (hm : Mt X M1 [.ref ad, x0, x1, x2, x3] h (Qv F)) (z : ∀ h1, F h1 → Rk X M (k + 1) ls t h1 P) : Rk X M k ls (x3 :: x2 :: x1 :: x0 :: .ref ad :: t) h P := by
  refine rk_call hr rfl (Nat.le_of_ble_eq_true rfl) hM (rk_arg (as := [x0, x1, x2, x3]) (by show (0 : Nat) ≠ 1; decide) hh hc hn) hfl hs hm ?_
  rintro o1 ⟨h1, rfl, hF⟩
  exact ad00 (z h1 hF)
theorem rk_cv4e {v : Int32} {pc len b p q i ad c : Nat} {v0 : Value} {M1 : ai_M} {x0 x1 x2 x3 : Value} {fs : List Value} (hr : (ai_mR M)[k]? = some (pc, .invokevirtual i, len, v0, 0, b, p, q)) (hM : ai_mt[b]? = some M1) (hh : h[ad]? = some (.inr (c, fs))) (hc : c = ai_mC M1) (hn : 4 = ai_mN M1) (hfl : (ai_fl [.ref ad, x0, x1, x2, x3]).length ≤ ai_mL M1) (hs : ai_sum t ≤ 8) (hm : Mt X M1 [.ref ad, x0, x1, x2, x3] h (Qe v h)) (z : Rk X M (k + 1) ls (.int v :: t) h P) : Rk X M k ls (x3 :: x2 :: x1 :: x0 :: .ref ad :: t) h P :=
  rk_cv4i hr hM hh hc hn hfl hs hm (fun w h1 hF => by obtain ⟨rfl, rfl⟩ := hF; exact z)
theorem rk_cv5i {F : Int32 → ai_H → Prop} {pc len b p q i ad c : Nat} {v0 : Value} {M1 : ai_M} {x0 x1 x2 x3 x4 : Value} {fs : List Value} (hr : (ai_mR M)[k]? = some (pc, .invokevirtual i, len, v0, 0, b, p, q)) (hM : ai_mt[b]? = some M1) (hh : h[ad]? = some (.inr (c, fs))) (hc : c = ai_mC M1) (hn : 5 = ai_mN M1) (hfl : (ai_fl [.ref ad, x0, x1, x2, x3, x4]).length ≤ ai_mL M1) (hs : ai_sum t ≤ 8) (hm : Mt X M1 [.ref ad, x0, x1, x2, x3, x4] h (Qi F)) (z : ∀ w h1, F w h1 → Rk X M (k + 1) ls (.int w :: t) h1 P) : Rk X M k ls (x4 :: x3 :: x2 :: x1 :: x0 :: .ref ad :: t) h P := by
  refine rk_call hr rfl (Nat.le_of_ble_eq_true rfl) hM (rk_arg (as := [x0, x1, x2, x3, x4]) (by show (0 : Nat) ≠ 1; decide) hh hc hn) hfl hs hm ?_
  rintro o1 ⟨w, h1, rfl, hF⟩
  exact ad00 (z w h1 hF)
theorem rk_cv5l {F : Int64 → ai_H → Prop} {pc len b p q i ad c : Nat} {v0 : Value} {M1 : ai_M} {x0 x1 x2 x3 x4 : Value} {fs : List Value} (hr : (ai_mR M)[k]? = some (pc, .invokevirtual i, len, v0, 0, b, p, q)) (hM : ai_mt[b]? = some M1) (hh : h[ad]? = some (.inr (c, fs))) (hc : c = ai_mC M1) (hn : 5 = ai_mN M1) (hfl : (ai_fl [.ref ad, x0, x1, x2, x3, x4]).length ≤ ai_mL M1) (hs : ai_sum t ≤ 8) (hm : Mt X M1 [.ref ad, x0, x1, x2, x3, x4] h (Ql F)) (z : ∀ w h1, F w h1 → Rk X M (k + 1) ls (.long w :: t) h1 P) : Rk X M k ls (x4 :: x3 :: x2 :: x1 :: x0 :: .ref ad :: t) h P := by
  refine rk_call hr rfl (Nat.le_of_ble_eq_true rfl) hM (rk_arg (as := [x0, x1, x2, x3, x4]) (by show (0 : Nat) ≠ 1; decide) hh hc hn) hfl hs hm ?_
  rintro o1 ⟨w, h1, rfl, hF⟩
  exact ad00 (z w h1 hF)
theorem rk_cv5v {F : ai_H → Prop} {pc len b p q i ad c : Nat} {v0 : Value} {M1 : ai_M} {x0 x1 x2 x3 x4 : Value} {fs : List Value} (hr : (ai_mR M)[k]? = some (pc, .invokevirtual i, len, v0, 0, b, p, q)) (hM : ai_mt[b]? = some M1) (hh : h[ad]? = some (.inr (c, fs))) (hc : c = ai_mC M1) (hn : 5 = ai_mN M1) (hfl : (ai_fl [.ref ad, x0, x1, x2, x3, x4]).length ≤ ai_mL M1) (hs : ai_sum t ≤ 8) (hm : Mt X M1 [.ref ad, x0, x1, x2, x3, x4] h (Qv F)) (z : ∀ h1, F h1 → Rk X M (k + 1) ls t h1 P) : Rk X M k ls (x4 :: x3 :: x2 :: x1 :: x0 :: .ref ad :: t) h P := by
  refine rk_call hr rfl (Nat.le_of_ble_eq_true rfl) hM (rk_arg (as := [x0, x1, x2, x3, x4]) (by show (0 : Nat) ≠ 1; decide) hh hc hn) hfl hs hm ?_
  rintro o1 ⟨h1, rfl, hF⟩
  exact ad00 (z h1 hF)
theorem rk_cv5e {v : Int32} {pc len b p q i ad c : Nat} {v0 : Value} {M1 : ai_M} {x0 x1 x2 x3 x4 : Value} {fs : List Value} (hr : (ai_mR M)[k]? = some (pc, .invokevirtual i, len, v0, 0, b, p, q)) (hM : ai_mt[b]? = some M1) (hh : h[ad]? = some (.inr (c, fs))) (hc : c = ai_mC M1) (hn : 5 = ai_mN M1) (hfl : (ai_fl [.ref ad, x0, x1, x2, x3, x4]).length ≤ ai_mL M1) (hs : ai_sum t ≤ 8) (hm : Mt X M1 [.ref ad, x0, x1, x2, x3, x4] h (Qe v h)) (z : Rk X M (k + 1) ls (.int v :: t) h P) : Rk X M k ls (x4 :: x3 :: x2 :: x1 :: x0 :: .ref ad :: t) h P :=
  rk_cv5i hr hM hh hc hn hfl hs hm (fun w h1 hF => by obtain ⟨rfl, rfl⟩ := hF; exact z)
theorem rk_cs0i {F : Int32 → ai_H → Prop} {pc len b p q i : Nat} {v0 : Value} {M1 : ai_M} (hr : (ai_mR M)[k]? = some (pc, .invokestatic i, len, v0, 1, b, p, q)) (hM : ai_mt[b]? = some M1) (hn : 0 = ai_mN M1) (hfl : (ai_fl []).length ≤ ai_mL M1) (hs : ai_sum t ≤ 8) (hm : Mt X M1 [] h (Qi F)) (z : ∀ w h1, F w h1 → Rk X M (k + 1) ls (.int w :: t) h1 P) : Rk X M k ls (t) h P := by
  refine rk_call hr rfl (Nat.le_of_ble_eq_true rfl) hM (rk_args (as := []) hn) hfl hs hm ?_
  rintro o1 ⟨w, h1, rfl, hF⟩
  exact ad00 (z w h1 hF)
theorem rk_cs0l {F : Int64 → ai_H → Prop} {pc len b p q i : Nat} {v0 : Value} {M1 : ai_M} (hr : (ai_mR M)[k]? = some (pc, .invokestatic i, len, v0, 1, b, p, q)) (hM : ai_mt[b]? = some M1) (hn : 0 = ai_mN M1) (hfl : (ai_fl []).length ≤ ai_mL M1) (hs : ai_sum t ≤ 8) (hm : Mt X M1 [] h (Ql F)) (z : ∀ w h1, F w h1 → Rk X M (k + 1) ls (.long w :: t) h1 P) : Rk X M k ls (t) h P := by
  refine rk_call hr rfl (Nat.le_of_ble_eq_true rfl) hM (rk_args (as := []) hn) hfl hs hm ?_
  rintro o1 ⟨w, h1, rfl, hF⟩
  exact ad00 (z w h1 hF)
theorem rk_cs0v {F : ai_H → Prop} {pc len b p q i : Nat} {v0 : Value} {M1 : ai_M} (hr : (ai_mR M)[k]? = some (pc, .invokestatic i, len, v0, 1, b, p, q)) (hM : ai_mt[b]? = some M1) (hn : 0 = ai_mN M1) (hfl : (ai_fl []).length ≤ ai_mL M1) (hs : ai_sum t ≤ 8) (hm : Mt X M1 [] h (Qv F)) (z : ∀ h1, F h1 → Rk X M (k + 1) ls t h1 P) : Rk X M k ls (t) h P := by
  refine rk_call hr rfl (Nat.le_of_ble_eq_true rfl) hM (rk_args (as := []) hn) hfl hs hm ?_
  rintro o1 ⟨h1, rfl, hF⟩
  exact ad00 (z h1 hF)
theorem rk_cs0e {v : Int32} {pc len b p q i : Nat} {v0 : Value} {M1 : ai_M} (hr : (ai_mR M)[k]? = some (pc, .invokestatic i, len, v0, 1, b, p, q)) (hM : ai_mt[b]? = some M1) (hn : 0 = ai_mN M1) (hfl : (ai_fl []).length ≤ ai_mL M1) (hs : ai_sum t ≤ 8) (hm : Mt X M1 [] h (Qe v h)) (z : Rk X M (k + 1) ls (.int v :: t) h P) : Rk X M k ls (t) h P :=
  rk_cs0i hr hM hn hfl hs hm (fun w h1 hF => by obtain ⟨rfl, rfl⟩ := hF; exact z)
theorem rk_cs1i {F : Int32 → ai_H → Prop} {pc len b p q i : Nat} {v0 : Value} {M1 : ai_M} {x0 : Value} (hr : (ai_mR M)[k]? = some (pc, .invokestatic i, len, v0, 1, b, p, q)) (hM : ai_mt[b]? = some M1) (hn : 1 = ai_mN M1) (hfl : (ai_fl [x0]).length ≤ ai_mL M1) (hs : ai_sum t ≤ 8) (hm : Mt X M1 [x0] h (Qi F)) (z : ∀ w h1, F w h1 → Rk X M (k + 1) ls (.int w :: t) h1 P) : Rk X M k ls (x0 :: t) h P := by
  refine rk_call hr rfl (Nat.le_of_ble_eq_true rfl) hM (rk_args (as := [x0]) hn) hfl hs hm ?_
  rintro o1 ⟨w, h1, rfl, hF⟩
  exact ad00 (z w h1 hF)
theorem rk_cs1l {F : Int64 → ai_H → Prop} {pc len b p q i : Nat} {v0 : Value} {M1 : ai_M} {x0 : Value} (hr : (ai_mR M)[k]? = some (pc, .invokestatic i, len, v0, 1, b, p, q)) (hM : ai_mt[b]? = some M1) (hn : 1 = ai_mN M1) (hfl : (ai_fl [x0]).length ≤ ai_mL M1) (hs : ai_sum t ≤ 8) (hm : Mt X M1 [x0] h (Ql F)) (z : ∀ w h1, F w h1 → Rk X M (k + 1) ls (.long w :: t) h1 P) : Rk X M k ls (x0 :: t) h P := by
  refine rk_call hr rfl (Nat.le_of_ble_eq_true rfl) hM (rk_args (as := [x0]) hn) hfl hs hm ?_
  rintro o1 ⟨w, h1, rfl, hF⟩
  exact ad00 (z w h1 hF)
theorem rk_cs1v {F : ai_H → Prop} {pc len b p q i : Nat} {v0 : Value} {M1 : ai_M} {x0 : Value} (hr : (ai_mR M)[k]? = some (pc, .invokestatic i, len, v0, 1, b, p, q)) (hM : ai_mt[b]? = some M1) (hn : 1 = ai_mN M1) (hfl : (ai_fl [x0]).length ≤ ai_mL M1) (hs : ai_sum t ≤ 8) (hm : Mt X M1 [x0] h (Qv F)) (z : ∀ h1, F h1 → Rk X M (k + 1) ls t h1 P) : Rk X M k ls (x0 :: t) h P := by
  refine rk_call hr rfl (Nat.le_of_ble_eq_true rfl) hM (rk_args (as := [x0]) hn) hfl hs hm ?_
  rintro o1 ⟨h1, rfl, hF⟩
  exact ad00 (z h1 hF)
theorem rk_cs1e {v : Int32} {pc len b p q i : Nat} {v0 : Value} {M1 : ai_M} {x0 : Value} (hr : (ai_mR M)[k]? = some (pc, .invokestatic i, len, v0, 1, b, p, q)) (hM : ai_mt[b]? = some M1) (hn : 1 = ai_mN M1) (hfl : (ai_fl [x0]).length ≤ ai_mL M1) (hs : ai_sum t ≤ 8) (hm : Mt X M1 [x0] h (Qe v h)) (z : Rk X M (k + 1) ls (.int v :: t) h P) : Rk X M k ls (x0 :: t) h P :=
  rk_cs1i hr hM hn hfl hs hm (fun w h1 hF => by obtain ⟨rfl, rfl⟩ := hF; exact z)
theorem rk_cs2i {F : Int32 → ai_H → Prop} {pc len b p q i : Nat} {v0 : Value} {M1 : ai_M} {x0 x1 : Value} (hr : (ai_mR M)[k]? = some (pc, .invokestatic i, len, v0, 1, b, p, q)) (hM : ai_mt[b]? = some M1) (hn : 2 = ai_mN M1) (hfl : (ai_fl [x0, x1]).length ≤ ai_mL M1) (hs : ai_sum t ≤ 8) (hm : Mt X M1 [x0, x1] h (Qi F)) (z : ∀ w h1, F w h1 → Rk X M (k + 1) ls (.int w :: t) h1 P) : Rk X M k ls (x1 :: x0 :: t) h P := by
  refine rk_call hr rfl (Nat.le_of_ble_eq_true rfl) hM (rk_args (as := [x0, x1]) hn) hfl hs hm ?_
  rintro o1 ⟨w, h1, rfl, hF⟩
  exact ad00 (z w h1 hF)
theorem rk_cs2l {F : Int64 → ai_H → Prop} {pc len b p q i : Nat} {v0 : Value} {M1 : ai_M} {x0 x1 : Value} (hr : (ai_mR M)[k]? = some (pc, .invokestatic i, len, v0, 1, b, p, q)) (hM : ai_mt[b]? = some M1) (hn : 2 = ai_mN M1) (hfl : (ai_fl [x0, x1]).length ≤ ai_mL M1) (hs : ai_sum t ≤ 8) (hm : Mt X M1 [x0, x1] h (Ql F)) (z : ∀ w h1, F w h1 → Rk X M (k + 1) ls (.long w :: t) h1 P) : Rk X M k ls (x1 :: x0 :: t) h P := by
  refine rk_call hr rfl (Nat.le_of_ble_eq_true rfl) hM (rk_args (as := [x0, x1]) hn) hfl hs hm ?_
  rintro o1 ⟨w, h1, rfl, hF⟩
  exact ad00 (z w h1 hF)
theorem rk_cs2v {F : ai_H → Prop} {pc len b p q i : Nat} {v0 : Value} {M1 : ai_M} {x0 x1 : Value} (hr : (ai_mR M)[k]? = some (pc, .invokestatic i, len, v0, 1, b, p, q)) (hM : ai_mt[b]? = some M1) (hn : 2 = ai_mN M1) (hfl : (ai_fl [x0, x1]).length ≤ ai_mL M1) (hs : ai_sum t ≤ 8) (hm : Mt X M1 [x0, x1] h (Qv F)) (z : ∀ h1, F h1 → Rk X M (k + 1) ls t h1 P) : Rk X M k ls (x1 :: x0 :: t) h P := by
  refine rk_call hr rfl (Nat.le_of_ble_eq_true rfl) hM (rk_args (as := [x0, x1]) hn) hfl hs hm ?_
  rintro o1 ⟨h1, rfl, hF⟩
  exact ad00 (z h1 hF)
theorem rk_cs2e {v : Int32} {pc len b p q i : Nat} {v0 : Value} {M1 : ai_M} {x0 x1 : Value} (hr : (ai_mR M)[k]? = some (pc, .invokestatic i, len, v0, 1, b, p, q)) (hM : ai_mt[b]? = some M1) (hn : 2 = ai_mN M1) (hfl : (ai_fl [x0, x1]).length ≤ ai_mL M1) (hs : ai_sum t ≤ 8) (hm : Mt X M1 [x0, x1] h (Qe v h)) (z : Rk X M (k + 1) ls (.int v :: t) h P) : Rk X M k ls (x1 :: x0 :: t) h P :=
  rk_cs2i hr hM hn hfl hs hm (fun w h1 hF => by obtain ⟨rfl, rfl⟩ := hF; exact z)
theorem rk_cs3i {F : Int32 → ai_H → Prop} {pc len b p q i : Nat} {v0 : Value} {M1 : ai_M} {x0 x1 x2 : Value} (hr : (ai_mR M)[k]? = some (pc, .invokestatic i, len, v0, 1, b, p, q)) (hM : ai_mt[b]? = some M1) (hn : 3 = ai_mN M1) (hfl : (ai_fl [x0, x1, x2]).length ≤ ai_mL M1) (hs : ai_sum t ≤ 8) (hm : Mt X M1 [x0, x1, x2] h (Qi F)) (z : ∀ w h1, F w h1 → Rk X M (k + 1) ls (.int w :: t) h1 P) : Rk X M k ls (x2 :: x1 :: x0 :: t) h P := by
  refine rk_call hr rfl (Nat.le_of_ble_eq_true rfl) hM (rk_args (as := [x0, x1, x2]) hn) hfl hs hm ?_
  rintro o1 ⟨w, h1, rfl, hF⟩
  exact ad00 (z w h1 hF)
theorem rk_cs3l {F : Int64 → ai_H → Prop} {pc len b p q i : Nat} {v0 : Value} {M1 : ai_M} {x0 x1 x2 : Value} (hr : (ai_mR M)[k]? = some (pc, .invokestatic i, len, v0, 1, b, p, q)) (hM : ai_mt[b]? = some M1) (hn : 3 = ai_mN M1) (hfl : (ai_fl [x0, x1, x2]).length ≤ ai_mL M1) (hs : ai_sum t ≤ 8) (hm : Mt X M1 [x0, x1, x2] h (Ql F)) (z : ∀ w h1, F w h1 → Rk X M (k + 1) ls (.long w :: t) h1 P) : Rk X M k ls (x2 :: x1 :: x0 :: t) h P := by
  refine rk_call hr rfl (Nat.le_of_ble_eq_true rfl) hM (rk_args (as := [x0, x1, x2]) hn) hfl hs hm ?_
  rintro o1 ⟨w, h1, rfl, hF⟩
  exact ad00 (z w h1 hF)
theorem rk_cs3v {F : ai_H → Prop} {pc len b p q i : Nat} {v0 : Value} {M1 : ai_M} {x0 x1 x2 : Value} (hr : (ai_mR M)[k]? = some (pc, .invokestatic i, len, v0, 1, b, p, q)) (hM : ai_mt[b]? = some M1) (hn : 3 = ai_mN M1) (hfl : (ai_fl [x0, x1, x2]).length ≤ ai_mL M1) (hs : ai_sum t ≤ 8) (hm : Mt X M1 [x0, x1, x2] h (Qv F)) (z : ∀ h1, F h1 → Rk X M (k + 1) ls t h1 P) : Rk X M k ls (x2 :: x1 :: x0 :: t) h P := by
  refine rk_call hr rfl (Nat.le_of_ble_eq_true rfl) hM (rk_args (as := [x0, x1, x2]) hn) hfl hs hm ?_
  rintro o1 ⟨h1, rfl, hF⟩
  exact ad00 (z h1 hF)
theorem rk_cs3e {v : Int32} {pc len b p q i : Nat} {v0 : Value} {M1 : ai_M} {x0 x1 x2 : Value} (hr : (ai_mR M)[k]? = some (pc, .invokestatic i, len, v0, 1, b, p, q)) (hM : ai_mt[b]? = some M1) (hn : 3 = ai_mN M1) (hfl : (ai_fl [x0, x1, x2]).length ≤ ai_mL M1) (hs : ai_sum t ≤ 8) (hm : Mt X M1 [x0, x1, x2] h (Qe v h)) (z : Rk X M (k + 1) ls (.int v :: t) h P) : Rk X M k ls (x2 :: x1 :: x0 :: t) h P :=
  rk_cs3i hr hM hn hfl hs hm (fun w h1 hF => by obtain ⟨rfl, rfl⟩ := hF; exact z)
theorem rk_cs4i {F : Int32 → ai_H → Prop} {pc len b p q i : Nat} {v0 : Value} {M1 : ai_M} {x0 x1 x2 x3 : Value} (hr : (ai_mR M)[k]? = some (pc, .invokestatic i, len, v0, 1, b, p, q)) (hM : ai_mt[b]? = some M1) (hn : 4 = ai_mN M1) (hfl : (ai_fl [x0, x1, x2, x3]).length ≤ ai_mL M1) (hs : ai_sum t ≤ 8) (hm : Mt X M1 [x0, x1, x2, x3] h (Qi F)) (z : ∀ w h1, F w h1 → Rk X M (k + 1) ls (.int w :: t) h1 P) : Rk X M k ls (x3 :: x2 :: x1 :: x0 :: t) h P := by
  refine rk_call hr rfl (Nat.le_of_ble_eq_true rfl) hM (rk_args (as := [x0, x1, x2, x3]) hn) hfl hs hm ?_
  rintro o1 ⟨w, h1, rfl, hF⟩
  exact ad00 (z w h1 hF)
theorem rk_cs4l {F : Int64 → ai_H → Prop} {pc len b p q i : Nat} {v0 : Value} {M1 : ai_M} {x0 x1 x2 x3 : Value} (hr : (ai_mR M)[k]? = some (pc, .invokestatic i, len, v0, 1, b, p, q)) (hM : ai_mt[b]? = some M1) (hn : 4 = ai_mN M1) (hfl : (ai_fl [x0, x1, x2, x3]).length ≤ ai_mL M1) (hs : ai_sum t ≤ 8) (hm : Mt X M1 [x0, x1, x2, x3] h (Ql F)) (z : ∀ w h1, F w h1 → Rk X M (k + 1) ls (.long w :: t) h1 P) : Rk X M k ls (x3 :: x2 :: x1 :: x0 :: t) h P := by
  refine rk_call hr rfl (Nat.le_of_ble_eq_true rfl) hM (rk_args (as := [x0, x1, x2, x3]) hn) hfl hs hm ?_
  rintro o1 ⟨w, h1, rfl, hF⟩
  exact ad00 (z w h1 hF)
theorem rk_cs4v {F : ai_H → Prop} {pc len b p q i : Nat} {v0 : Value} {M1 : ai_M} {x0 x1 x2 x3 : Value} (hr : (ai_mR M)[k]? = some (pc, .invokestatic i, len, v0, 1, b, p, q)) (hM : ai_mt[b]? = some M1) (hn : 4 = ai_mN M1) (hfl : (ai_fl [x0, x1, x2, x3]).length ≤ ai_mL M1) (hs : ai_sum t ≤ 8) (hm : Mt X M1 [x0, x1, x2, x3] h (Qv F)) (z : ∀ h1, F h1 → Rk X M (k + 1) ls t h1 P) : Rk X M k ls (x3 :: x2 :: x1 :: x0 :: t) h P := by
  refine rk_call hr rfl (Nat.le_of_ble_eq_true rfl) hM (rk_args (as := [x0, x1, x2, x3]) hn) hfl hs hm ?_
  rintro o1 ⟨h1, rfl, hF⟩
  exact ad00 (z h1 hF)
theorem rk_cs4e {v : Int32} {pc len b p q i : Nat} {v0 : Value} {M1 : ai_M} {x0 x1 x2 x3 : Value} (hr : (ai_mR M)[k]? = some (pc, .invokestatic i, len, v0, 1, b, p, q)) (hM : ai_mt[b]? = some M1) (hn : 4 = ai_mN M1) (hfl : (ai_fl [x0, x1, x2, x3]).length ≤ ai_mL M1) (hs : ai_sum t ≤ 8) (hm : Mt X M1 [x0, x1, x2, x3] h (Qe v h)) (z : Rk X M (k + 1) ls (.int v :: t) h P) : Rk X M k ls (x3 :: x2 :: x1 :: x0 :: t) h P :=
  rk_cs4i hr hM hn hfl hs hm (fun w h1 hF => by obtain ⟨rfl, rfl⟩ := hF; exact z)
theorem rk_cs5i {F : Int32 → ai_H → Prop} {pc len b p q i : Nat} {v0 : Value} {M1 : ai_M} {x0 x1 x2 x3 x4 : Value} (hr : (ai_mR M)[k]? = some (pc, .invokestatic i, len, v0, 1, b, p, q)) (hM : ai_mt[b]? = some M1) (hn : 5 = ai_mN M1) (hfl : (ai_fl [x0, x1, x2, x3, x4]).length ≤ ai_mL M1) (hs : ai_sum t ≤ 8) (hm : Mt X M1 [x0, x1, x2, x3, x4] h (Qi F)) (z : ∀ w h1, F w h1 → Rk X M (k + 1) ls (.int w :: t) h1 P) : Rk X M k ls (x4 :: x3 :: x2 :: x1 :: x0 :: t) h P := by
  refine rk_call hr rfl (Nat.le_of_ble_eq_true rfl) hM (rk_args (as := [x0, x1, x2, x3, x4]) hn) hfl hs hm ?_
  rintro o1 ⟨w, h1, rfl, hF⟩
  exact ad00 (z w h1 hF)
theorem rk_cs5l {F : Int64 → ai_H → Prop} {pc len b p q i : Nat} {v0 : Value} {M1 : ai_M} {x0 x1 x2 x3 x4 : Value} (hr : (ai_mR M)[k]? = some (pc, .invokestatic i, len, v0, 1, b, p, q)) (hM : ai_mt[b]? = some M1) (hn : 5 = ai_mN M1) (hfl : (ai_fl [x0, x1, x2, x3, x4]).length ≤ ai_mL M1) (hs : ai_sum t ≤ 8) (hm : Mt X M1 [x0, x1, x2, x3, x4] h (Ql F)) (z : ∀ w h1, F w h1 → Rk X M (k + 1) ls (.long w :: t) h1 P) : Rk X M k ls (x4 :: x3 :: x2 :: x1 :: x0 :: t) h P := by
  refine rk_call hr rfl (Nat.le_of_ble_eq_true rfl) hM (rk_args (as := [x0, x1, x2, x3, x4]) hn) hfl hs hm ?_
  rintro o1 ⟨w, h1, rfl, hF⟩
  exact ad00 (z w h1 hF)
theorem rk_cs5v {F : ai_H → Prop} {pc len b p q i : Nat} {v0 : Value} {M1 : ai_M} {x0 x1 x2 x3 x4 : Value} (hr : (ai_mR M)[k]? = some (pc, .invokestatic i, len, v0, 1, b, p, q)) (hM : ai_mt[b]? = some M1) (hn : 5 = ai_mN M1) (hfl : (ai_fl [x0, x1, x2, x3, x4]).length ≤ ai_mL M1) (hs : ai_sum t ≤ 8) (hm : Mt X M1 [x0, x1, x2, x3, x4] h (Qv F)) (z : ∀ h1, F h1 → Rk X M (k + 1) ls t h1 P) : Rk X M k ls (x4 :: x3 :: x2 :: x1 :: x0 :: t) h P := by
  refine rk_call hr rfl (Nat.le_of_ble_eq_true rfl) hM (rk_args (as := [x0, x1, x2, x3, x4]) hn) hfl hs hm ?_
  rintro o1 ⟨h1, rfl, hF⟩
  exact ad00 (z h1 hF)
theorem rk_cs5e {v : Int32} {pc len b p q i : Nat} {v0 : Value} {M1 : ai_M} {x0 x1 x2 x3 x4 : Value} (hr : (ai_mR M)[k]? = some (pc, .invokestatic i, len, v0, 1, b, p, q)) (hM : ai_mt[b]? = some M1) (hn : 5 = ai_mN M1) (hfl : (ai_fl [x0, x1, x2, x3, x4]).length ≤ ai_mL M1) (hs : ai_sum t ≤ 8) (hm : Mt X M1 [x0, x1, x2, x3, x4] h (Qe v h)) (z : Rk X M (k + 1) ls (.int v :: t) h P) : Rk X M k ls (x4 :: x3 :: x2 :: x1 :: x0 :: t) h P :=
  rk_cs5i hr hM hn hfl hs hm (fun w h1 hF => by obtain ⟨rfl, rfl⟩ := hF; exact z)
end AICALLS
/-! numbers -/
def bI (p : Prop) [Decidable p] : Int32 := if p then 1 else 0
theorem bI_t {p : Prop} [Decidable p] (h : p) : bI p = 1 := if_pos h
theorem bI_f {p : Prop} [Decidable p] (h : ¬ p) : bI p = 0 := if_neg h
theorem bI_0 {p : Prop} [Decidable p] : bI p = 0 ↔ ¬ p := by
  by_cases h : p
  · rw [bI_t h]; exact ⟨fun e => absurd e (by decide), fun e => absurd h e⟩
  · rw [bI_f h]; exact ⟨fun _ => h, fun _ => rfl⟩
theorem bI_rok {p : Prop} [Decidable p] : ai_rok (some .boolean) (bI p) = true := by
  by_cases h : p
  · rw [bI_t h]; rfl
  · rw [bI_f h]; rfl
theorem n0_eq {a : Nat} (h : a < 2 ^ 31) : nI a = 0 ↔ a = 0 := by rw [← nI_0, nI_eq h (by decide)]
theorem n0_lt {a : Nat} (h : a < 2 ^ 31) : nI a < 0 ↔ False := ⟨fun z => nI_pos h z, fun z => z.elim⟩
theorem n0_ge {a : Nat} (h : a < 2 ^ 31) : 0 ≤ nI a ↔ True := ⟨fun _ => trivial, fun _ => nI_pos' h⟩
theorem n0_le {a : Nat} (h : a < 2 ^ 31) : nI a ≤ 0 ↔ a = 0 := by rw [← nI_0, nI_leI h (by decide)]; omega
theorem n0_gt {a : Nat} (h : a < 2 ^ 31) : 0 < nI a ↔ 0 < a := by rw [← nI_0, nI_ltI (by decide) h]
theorem nm_eq {a : Nat} (h : a < 2 ^ 31) : ¬ nI a = -1 := fun z => nI_pos h (by rw [z]; decide)
theorem n_dec {a : Nat} (h : 0 < a) : nI a + Int32.ofInt (-1) = nI (a - 1) := by
  obtain ⟨b, rfl⟩ : ∃ b, a = b + 1 := ⟨a - 1, by omega⟩
  exact pk_m1 b
theorem n_inc (a : Nat) : nI a + Int32.ofInt 1 = nI (a + 1) := nI_1 a
end
section
/-! the types of the fields -/
theorem ft_0_0 : ai_fty 0 0 = some (.object "OneBell$House") := by decide +kernel
theorem ft_0_1 : ai_fty 0 1 = some (.array (.long)) := by decide +kernel
theorem ft_0_2 : ai_fty 0 2 = some (.array (.long)) := by decide +kernel
theorem ft_1_0 : ai_fty 1 0 = some (.object "OneBell$House") := by decide +kernel
theorem ft_1_1 : ai_fty 1 1 = some (.object "OneBell$Search") := by decide +kernel
theorem ft_1_2 : ai_fty 1 2 = some (.array (.int)) := by decide +kernel
theorem ft_1_3 : ai_fty 1 3 = some (.array (.int)) := by decide +kernel
theorem ft_1_4 : ai_fty 1 4 = some (.int) := by decide +kernel
theorem ft_2_0 : ai_fty 2 0 = some (.int) := by decide +kernel
theorem ft_2_1 : ai_fty 2 1 = some (.int) := by decide +kernel
theorem ft_2_2 : ai_fty 2 2 = some (.int) := by decide +kernel
theorem ft_2_3 : ai_fty 2 3 = some (.int) := by decide +kernel
theorem ft_2_4 : ai_fty 2 4 = some (.int) := by decide +kernel
theorem ft_2_5 : ai_fty 2 5 = some (.int) := by decide +kernel
theorem ft_2_6 : ai_fty 2 6 = some (.int) := by decide +kernel
theorem ft_2_7 : ai_fty 2 7 = some (.array (.int)) := by decide +kernel
theorem ft_2_8 : ai_fty 2 8 = some (.array (.int)) := by decide +kernel
theorem ft_2_9 : ai_fty 2 9 = some (.array (.int)) := by decide +kernel
theorem ft_2_10 : ai_fty 2 10 = some (.array (.int)) := by decide +kernel
theorem ft_2_11 : ai_fty 2 11 = some (.array (.int)) := by decide +kernel
theorem ft_3_0 : ai_fty 3 0 = some (.int) := by decide +kernel
theorem ft_3_1 : ai_fty 3 1 = some (.int) := by decide +kernel
theorem ft_3_2 : ai_fty 3 2 = some (.array (.long)) := by decide +kernel
theorem ft_4_0 : ai_fty 4 0 = some (.array (.int)) := by decide +kernel
theorem ft_4_1 : ai_fty 4 1 = some (.array (.int)) := by decide +kernel
theorem ft_4_2 : ai_fty 4 2 = some (.array (.int)) := by decide +kernel
theorem ft_4_3 : ai_fty 4 3 = some (.array (.int)) := by decide +kernel
theorem ft_4_4 : ai_fty 4 4 = some (.array (.long)) := by decide +kernel
theorem ft_5_0 : ai_fty 5 0 = some (.int) := by decide +kernel
theorem ft_5_1 : ai_fty 5 1 = some (.int) := by decide +kernel
theorem ft_5_2 : ai_fty 5 2 = some (.array (.int)) := by decide +kernel
theorem ft_5_3 : ai_fty 5 3 = some (.int) := by decide +kernel
theorem ft_5_4 : ai_fty 5 4 = some (.int) := by decide +kernel
theorem ft_5_5 : ai_fty 5 5 = some (.int) := by decide +kernel
theorem ft_5_6 : ai_fty 5 6 = some (.int) := by decide +kernel
theorem ft_6_0 : ai_fty 6 0 = some (.int) := by decide +kernel
theorem ft_6_1 : ai_fty 6 1 = some (.array (.int)) := by decide +kernel
theorem ft_7_0 : ai_fty 7 0 = some (.int) := by decide +kernel
theorem ft_7_1 : ai_fty 7 1 = some (.int) := by decide +kernel
theorem ft_7_2 : ai_fty 7 2 = some (.array (.int)) := by decide +kernel
theorem ft_7_3 : ai_fty 7 3 = some (.array (.int)) := by decide +kernel
theorem ft_7_4 : ai_fty 7 4 = some (.array (.int)) := by decide +kernel
theorem ft_7_5 : ai_fty 7 5 = some (.int) := by decide +kernel
theorem ft_7_6 : ai_fty 7 6 = some (.int) := by decide +kernel
theorem ft_8_0 : ai_fty 8 0 = some (.object "OneBell$House") := by decide +kernel
theorem ft_8_1 : ai_fty 8 1 = some (.object "OneBell$Search") := by decide +kernel
theorem ft_8_2 : ai_fty 8 2 = some (.array (.int)) := by decide +kernel
theorem ft_8_3 : ai_fty 8 3 = some (.array (.int)) := by decide +kernel
theorem ft_8_4 : ai_fty 8 4 = some (.int) := by decide +kernel
theorem ft_8_5 : ai_fty 8 5 = some (.int) := by decide +kernel
theorem ft_8_6 : ai_fty 8 6 = some (.array (.int)) := by decide +kernel
theorem ft_8_7 : ai_fty 8 7 = some (.array (.int)) := by decide +kernel
theorem ft_9_0 : ai_fty 9 0 = some (.object "OneBell$House") := by decide +kernel
theorem ft_9_1 : ai_fty 9 1 = some (.array (.int)) := by decide +kernel
theorem ft_9_2 : ai_fty 9 2 = some (.array (.int)) := by decide +kernel
theorem ft_9_3 : ai_fty 9 3 = some (.array (.int)) := by decide +kernel
theorem ft_9_4 : ai_fty 9 4 = some (.array (.int)) := by decide +kernel
theorem ft_10_0 : ai_fty 10 0 = some (.array (.int)) := by decide +kernel
theorem ft_10_1 : ai_fty 10 1 = some (.int) := by decide +kernel
theorem ft_10_2 : ai_fty 10 2 = some (.object "OneBell$Reader") := by decide +kernel
theorem ft_10_3 : ai_fty 10 3 = some (.object "OneBell$House") := by decide +kernel
theorem ft_10_4 : ai_fty 10 4 = some (.object "OneBell$House") := by decide +kernel
theorem ft_10_5 : ai_fty 10 5 = some (.object "OneBell$Route") := by decide +kernel
theorem ft_10_6 : ai_fty 10 6 = some (.object "OneBell$Route") := by decide +kernel
theorem ft_10_7 : ai_fty 10 7 = some (.array (.object "OneBell$NumberRow")) := by decide +kernel
theorem ft_10_8 : ai_fty 10 8 = some (.array (.object "OneBell$House")) := by decide +kernel
theorem ft_10_9 : ai_fty 10 9 = some (.array (.object "OneBell$Route")) := by decide +kernel
theorem ft_10_10 : ai_fty 10 10 = some (.object "OneBell$Search") := by decide +kernel
theorem ft_10_11 : ai_fty 10 11 = some (.object "OneBell$Search") := by decide +kernel
theorem ft_10_12 : ai_fty 10 12 = some (.object "OneBell$Sets") := by decide +kernel
theorem ft_10_13 : ai_fty 10 13 = some (.object "OneBell$Pairs") := by decide +kernel
theorem ft_10_14 : ai_fty 10 14 = some (.object "OneBell$Company") := by decide +kernel
theorem ft_10_15 : ai_fty 10 15 = some (.object "OneBell$Sight") := by decide +kernel
theorem ft_10_16 : ai_fty 10 16 = some (.object "OneBell$Chances") := by decide +kernel
theorem ft_11_0 : ai_fty 11 0 = some (.int) := by decide +kernel
theorem ft_11_1 : ai_fty 11 1 = some (.array (.int)) := by decide +kernel
theorem ft_11_2 : ai_fty 11 2 = some (.array (.boolean)) := by decide +kernel
theorem ft_11_3 : ai_fty 11 3 = some (.array (.int)) := by decide +kernel
theorem ft_11_4 : ai_fty 11 4 = some (.array (.int)) := by decide +kernel
theorem ft_11_5 : ai_fty 11 5 = some (.int) := by decide +kernel
theorem ft_11_6 : ai_fty 11 6 = some (.int) := by decide +kernel
theorem ft_11_7 : ai_fty 11 7 = some (.int) := by decide +kernel
theorem ft_11_8 : ai_fty 11 8 = some (.int) := by decide +kernel
theorem ft_11_9 : ai_fty 11 9 = some (.int) := by decide +kernel
theorem ft_11_10 : ai_fty 11 10 = some (.int) := by decide +kernel
theorem ft_11_11 : ai_fty 11 11 = some (.int) := by decide +kernel
theorem ft_11_12 : ai_fty 11 12 = some (.int) := by decide +kernel
theorem ft_11_13 : ai_fty 11 13 = some (.int) := by decide +kernel
theorem ft_11_14 : ai_fty 11 14 = some (.int) := by decide +kernel
theorem ft_11_15 : ai_fty 11 15 = some (.array (.int)) := by decide +kernel
theorem ft_11_16 : ai_fty 11 16 = some (.array (.int)) := by decide +kernel
theorem ft_11_17 : ai_fty 11 17 = some (.array (.int)) := by decide +kernel
theorem ft_11_18 : ai_fty 11 18 = some (.array (.int)) := by decide +kernel
theorem ft_11_19 : ai_fty 11 19 = some (.array (.int)) := by decide +kernel
theorem ft_11_20 : ai_fty 11 20 = some (.array (.int)) := by decide +kernel
theorem ft_11_21 : ai_fty 11 21 = some (.int) := by decide +kernel
theorem ft_11_22 : ai_fty 11 22 = some (.int) := by decide +kernel
theorem ft_11_23 : ai_fty 11 23 = some (.array (.int)) := by decide +kernel
theorem ft_11_24 : ai_fty 11 24 = some (.array (.boolean)) := by decide +kernel
theorem ft_11_25 : ai_fty 11 25 = some (.array (.long)) := by decide +kernel
theorem ft_11_26 : ai_fty 11 26 = some (.array (.long)) := by decide +kernel
theorem ft_11_27 : ai_fty 11 27 = some (.array (.int)) := by decide +kernel
theorem ft_11_28 : ai_fty 11 28 = some (.array (.int)) := by decide +kernel
theorem ft_11_29 : ai_fty 11 29 = some (.array (.int)) := by decide +kernel
theorem ft_11_30 : ai_fty 11 30 = some (.array (.int)) := by decide +kernel
theorem ft_11_31 : ai_fty 11 31 = some (.array (.long)) := by decide +kernel
theorem ft_11_32 : ai_fty 11 32 = some (.array (.boolean)) := by decide +kernel
theorem ft_11_33 : ai_fty 11 33 = some (.array (.long)) := by decide +kernel
theorem ft_11_34 : ai_fty 11 34 = some (.array (.long)) := by decide +kernel
theorem ft_11_35 : ai_fty 11 35 = some (.array (.int)) := by decide +kernel
theorem ft_11_36 : ai_fty 11 36 = some (.array (.int)) := by decide +kernel
theorem ft_11_37 : ai_fty 11 37 = some (.array (.int)) := by decide +kernel
theorem ft_11_38 : ai_fty 11 38 = some (.array (.int)) := by decide +kernel
theorem ft_11_39 : ai_fty 11 39 = some (.array (.long)) := by decide +kernel
def hpA : ai_H := [.inr (10, [.ref 1, .int 0, .ref 2, .ref 3, .ref 9, .ref 15, .ref 17, .ref 19, .ref 20, .ref 21, .ref 22, .ref 23, .ref 24, .ref 27, .ref 33, .ref 36, .ref 41]),
  .inl (0, 600, .inl (fun _ => 0)),
  .inr (5, [.int 0, .int (-1), .null, .int 0, .int 0, .int 0, .int 0]),
  .inr (2, [.int 0, .int 0, .int 0, .int 0, .int 0, .int 0, .int 0, .ref 4, .ref 5, .ref 6, .ref 7, .ref 8]),
  .inl (0, 84, .inl (fun _ => 0)),
  .inl (0, 84, .inl (fun _ => 0)),
  .inl (0, 84, .inl (fun _ => 0)),
  .inl (0, 14, .inl (fun _ => 0)),
  .inl (0, 8, .inl (fun _ => 0)),
  .inr (2, [.int 0, .int 0, .int 0, .int 0, .int 0, .int 0, .int 0, .ref 10, .ref 11, .ref 12, .ref 13, .ref 14]),
  .inl (0, 84, .inl (fun _ => 0)),
  .inl (0, 84, .inl (fun _ => 0)),
  .inl (0, 84, .inl (fun _ => 0)),
  .inl (0, 14, .inl (fun _ => 0)),
  .inl (0, 8, .inl (fun _ => 0)),
  .inr (6, [.int (-1), .ref 16]),
  .inl (0, 500, .inl (fun _ => 0)),
  .inr (6, [.int (-1), .ref 18]),
  .inl (0, 500, .inl (fun _ => 0)),
  .inl (3, 4, .inr (.inr (.inr (.inr (va_up (va_up (va_up (va_up (fun _ => none) 0 (some 44)) 1 (some 46)) 2 (some 48)) 3 (some 50)))))),
  .inl (4, 2, .inr (.inr (.inr (.inr (fun _ => none))))),
  .inl (5, 2, .inr (.inr (.inr (.inr (fun _ => none))))),
  .inr (7, [.int 16384, .int 16383, .null, .null, .null, .int 0, .int 0]),
  .inr (7, [.int 30001, .int 65535, .null, .null, .null, .int 0, .int 0]),
  .inr (8, [.ref 3, .ref 22, .ref 25, .ref 26, .int 0, .int 0, .null, .null]),
  .inl (0, 1536, .inl (fun _ => 0)),
  .inl (0, 10, .inl (fun _ => 0)),
  .inr (4, [.ref 28, .ref 29, .ref 30, .ref 31, .ref 32]),
  .inl (0, 196, .inl (fun _ => 0)),
  .inl (0, 14, .inl (fun _ => 0)),
  .inl (0, 196, .inl (fun _ => 0)),
  .inl (0, 196, .inl (fun _ => 0)),
  .inl (1, 196, .inr (.inl (fun _ => 0))),
  .inr (1, [.ref 3, .ref 22, .ref 34, .ref 35, .int 0]),
  .inl (0, 8, .inl (fun _ => 0)),
  .inl (0, 3, .inl (fun _ => 0)),
  .inr (9, [.ref 3, .ref 37, .ref 38, .ref 39, .ref 40]),
  .inl (0, 84, .inl (fun _ => 0)),
  .inl (0, 84, .inl (fun _ => 0)),
  .inl (0, 10, .inl (fun _ => 0)),
  .inl (0, 14, .inl (fun _ => 0)),
  .inr (0, [.ref 3, .ref 42, .ref 43]),
  .inl (1, 14, .inr (.inl (fun _ => 0))),
  .inl (1, 14, .inr (.inl (fun _ => 0))),
  .inr (3, [.int (-1), .int 0, .ref 45]),
  .inl (1, 40, .inr (.inl (fun _ => 0))),
  .inr (3, [.int (-1), .int 0, .ref 47]),
  .inl (1, 40, .inr (.inl (fun _ => 0))),
  .inr (3, [.int (-1), .int 0, .ref 49]),
  .inl (1, 40, .inr (.inl (fun _ => 0))),
  .inr (3, [.int (-1), .int 0, .ref 51]),
  .inl (1, 40, .inr (.inl (fun _ => 0)))]
def hpB : ai_H := [.inr (11, [.int 0, .ref 53, .ref 54, .ref 55, .ref 56, .int 0, .int 0, .int 0, .int 0, .int 0, .int 0, .int 0, .int 0, .int 0, .int (-1), .ref 57, .ref 58, .ref 59, .ref 60, .ref 61, .ref 62, .int 0, .int 0, .ref 63, .ref 64, .ref 65, .ref 66, .ref 67, .ref 68, .ref 69, .ref 70, .ref 71, .ref 72, .ref 73, .ref 74, .ref 75, .ref 76, .ref 77, .ref 78, .ref 79]),
  .inl (0, 2346, .inl (upd (fun _ => 0) 281 (-1))),
  .inl (2, 2, .inl (fun _ => 0)),
  .inl (0, 600, .inl (fun _ => 0)),
  .inl (0, 281, .inl (fun _ => 0)),
  .inl (0, 30002, .inl (fun _ => 0)),
  .inl (0, 30002, .inl (fun _ => 0)),
  .inl (0, 30002, .inl (fun _ => 0)),
  .inl (0, 30002, .inl (fun _ => 0)),
  .inl (0, 65536, .inl (fun _ => 0)),
  .inl (0, 65536, .inl (fun _ => 0)),
  .inl (0, 700, .inl (fun _ => 0)),
  .inl (2, 196, .inl (fun _ => 0)),
  .inl (1, 16384, .inr (.inl (fun _ => 0))),
  .inl (1, 16384, .inr (.inl (fun _ => 0))),
  .inl (0, 14, .inl (fun _ => 0)),
  .inl (0, 14, .inl (fun _ => 0)),
  .inl (0, 14, .inl (fun _ => 0)),
  .inl (0, 16384, .inl (fun _ => 0)),
  .inl (1, 8036, .inr (.inl (fun _ => 0))),
  .inl (2, 8036, .inl (fun _ => 0)),
  .inl (1, 14, .inr (.inl (fun _ => 0))),
  .inl (1, 14, .inr (.inl (fun _ => 0))),
  .inl (0, 4, .inl (fun _ => 0)),
  .inl (0, 8, .inl (fun _ => 0)),
  .inl (0, 4, .inl (upd (upd (upd (upd (fun _ => 0) 0 (-1)) 1 (-1)) 2 (-1)) 3 (-1))),
  .inl (0, 4, .inl (fun _ => 0)),
  .inl (1, 160, .inr (.inl (fun _ => 0)))]
set_option maxRecDepth 100000 in
set_option maxHeartbeats 4000000 in
theorem hp_cls (X : ai_X) : ai_run X 300 am_128 (ar_128, ai_loc 2 [.ref 0], [], [.inr (10, ad_10)]) = some (none, hpA, 51, 4978) := by rfl
set_option maxRecDepth 100000 in
set_option maxHeartbeats 4000000 in
theorem hp_mdl (X : ai_X) : ai_run X 300 am_182 (ar_182, ai_loc 1 [.ref 52], [], hpA ++ [.inr (11, ad_11)]) = some (none, hpA ++ hpB, 27, 320679) := by rfl
end
