section
-- ===== PART A: goes FIRST, ahead of the names: the tables' words, and 'selects' of the private methods out of them =====
/-- a private method of a class that the tables say can be made, by its rows of tables_1 -/
def lw_okq (q : MethodName × Nat) : Prop := (q.1.cls ≠ "java/lang/invoke/MethodHandle" ∧ q.1.cls ≠ "java/lang/invoke/VarHandle") ∧ Cond.instantiable q.1.cls q.2 ∈ tables_1 ∧ Cond.privateMethod q.1 ∈ tables_1 ∧ Cond.instanceMethod q.1 ∈ tables_1
theorem lw_p0 : lw_okq (⟨"RepairScan$Writer", "putText", "(Ljava/lang/String;)V"⟩, 2) := ⟨⟨by decide +kernel, by decide +kernel⟩, List.mem_of_getElem? (i := 351) (by decide +kernel), List.mem_of_getElem? (i := 403) (by decide +kernel), List.mem_of_getElem? (i := 404) (by decide +kernel)⟩
theorem lw_p1 : lw_okq (⟨"RepairScan$Writer", "put", "(I)V"⟩, 2) := ⟨⟨by decide +kernel, by decide +kernel⟩, List.mem_of_getElem? (i := 351) (by decide +kernel), List.mem_of_getElem? (i := 455) (by decide +kernel), List.mem_of_getElem? (i := 456) (by decide +kernel)⟩
theorem lw_p2 : lw_okq (⟨"RepairScan$Writer", "writeObject", "(LRepairScan$Scan;LRepairScan$Found;I)V"⟩, 2) := ⟨⟨by decide +kernel, by decide +kernel⟩, List.mem_of_getElem? (i := 351) (by decide +kernel), List.mem_of_getElem? (i := 463) (by decide +kernel), List.mem_of_getElem? (i := 464) (by decide +kernel)⟩
theorem lw_p3 : lw_okq (⟨"RepairScan$Writer", "putNumber", "(I)V"⟩, 2) := ⟨⟨by decide +kernel, by decide +kernel⟩, List.mem_of_getElem? (i := 351) (by decide +kernel), List.mem_of_getElem? (i := 467) (by decide +kernel), List.mem_of_getElem? (i := 468) (by decide +kernel)⟩
theorem lw_p4 : lw_okq (⟨"RepairScan$Writer", "writeStream", "(LRepairScan$Scan;LRepairScan$Found;)V"⟩, 2) := ⟨⟨by decide +kernel, by decide +kernel⟩, List.mem_of_getElem? (i := 351) (by decide +kernel), List.mem_of_getElem? (i := 472) (by decide +kernel), List.mem_of_getElem? (i := 473) (by decide +kernel)⟩
theorem lw_p5 : lw_okq (⟨"RepairScan$Writer", "copyMended", "(LRepairScan$Scan;LRepairScan$Dictionary;IIZ)V"⟩, 2) := ⟨⟨by decide +kernel, by decide +kernel⟩, List.mem_of_getElem? (i := 351) (by decide +kernel), List.mem_of_getElem? (i := 478) (by decide +kernel), List.mem_of_getElem? (i := 479) (by decide +kernel)⟩
theorem lw_p6 : lw_okq (⟨"RepairScan$Writer", "writePlain", "(LRepairScan$Scan;LRepairScan$Found;)V"⟩, 2) := ⟨⟨by decide +kernel, by decide +kernel⟩, List.mem_of_getElem? (i := 351) (by decide +kernel), List.mem_of_getElem? (i := 504) (by decide +kernel), List.mem_of_getElem? (i := 505) (by decide +kernel)⟩
theorem lw_p7 : lw_okq (⟨"RepairScan$Scan", "takeBytes", "([BI)V"⟩, 17) := ⟨⟨by decide +kernel, by decide +kernel⟩, List.mem_of_getElem? (i := 60) (by decide +kernel), List.mem_of_getElem? (i := 515) (by decide +kernel), List.mem_of_getElem? (i := 516) (by decide +kernel)⟩
theorem lw_p8 : lw_okq (⟨"RepairScan$Tokens", "setPlace", "(IIII)V"⟩, 6) := ⟨⟨by decide +kernel, by decide +kernel⟩, List.mem_of_getElem? (i := 33) (by decide +kernel), List.mem_of_getElem? (i := 532) (by decide +kernel), List.mem_of_getElem? (i := 533) (by decide +kernel)⟩
theorem lw_p9 : lw_okq (⟨"RepairScan$Tokens", "tokenEnd", "(II)I"⟩, 6) := ⟨⟨by decide +kernel, by decide +kernel⟩, List.mem_of_getElem? (i := 33) (by decide +kernel), List.mem_of_getElem? (i := 540) (by decide +kernel), List.mem_of_getElem? (i := 541) (by decide +kernel)⟩
theorem lw_p10 : lw_okq (⟨"RepairScan$Tokens", "numberOf", "(I)I"⟩, 6) := ⟨⟨by decide +kernel, by decide +kernel⟩, List.mem_of_getElem? (i := 33) (by decide +kernel), List.mem_of_getElem? (i := 555) (by decide +kernel), List.mem_of_getElem? (i := 556) (by decide +kernel)⟩
theorem lw_p11 : lw_okq (⟨"RepairScan$Tokens", "kindOfNumber", "(I)I"⟩, 6) := ⟨⟨by decide +kernel, by decide +kernel⟩, List.mem_of_getElem? (i := 33) (by decide +kernel), List.mem_of_getElem? (i := 559) (by decide +kernel), List.mem_of_getElem? (i := 560) (by decide +kernel)⟩
theorem lw_p12 : lw_okq (⟨"RepairScan$Tokens", "kindOf", "(II)I"⟩, 6) := ⟨⟨by decide +kernel, by decide +kernel⟩, List.mem_of_getElem? (i := 33) (by decide +kernel), List.mem_of_getElem? (i := 583) (by decide +kernel), List.mem_of_getElem? (i := 584) (by decide +kernel)⟩
theorem lw_p13 : lw_okq (⟨"RepairScan$Scan", "mend", "(II)V"⟩, 17) := ⟨⟨by decide +kernel, by decide +kernel⟩, List.mem_of_getElem? (i := 60) (by decide +kernel), List.mem_of_getElem? (i := 597) (by decide +kernel), List.mem_of_getElem? (i := 598) (by decide +kernel)⟩
theorem lw_p14 : lw_okq (⟨"RepairScan$Scan", "takeObject", "(I)I"⟩, 17) := ⟨⟨by decide +kernel, by decide +kernel⟩, List.mem_of_getElem? (i := 60) (by decide +kernel), List.mem_of_getElem? (i := 610) (by decide +kernel), List.mem_of_getElem? (i := 611) (by decide +kernel)⟩
theorem lw_p15 : lw_okq (⟨"RepairScan$DictionaryReader", "endsAt", "(I)Z"⟩, 5) := ⟨⟨by decide +kernel, by decide +kernel⟩, List.mem_of_getElem? (i := 88) (by decide +kernel), List.mem_of_getElem? (i := 633) (by decide +kernel), List.mem_of_getElem? (i := 634) (by decide +kernel)⟩
def lw_privs_1 : List (MethodName × Nat) := [(⟨"RepairScan$Writer", "putText", "(Ljava/lang/String;)V"⟩, 2), (⟨"RepairScan$Writer", "put", "(I)V"⟩, 2), (⟨"RepairScan$Writer", "writeObject", "(LRepairScan$Scan;LRepairScan$Found;I)V"⟩, 2), (⟨"RepairScan$Writer", "putNumber", "(I)V"⟩, 2), (⟨"RepairScan$Writer", "writeStream", "(LRepairScan$Scan;LRepairScan$Found;)V"⟩, 2), (⟨"RepairScan$Writer", "copyMended", "(LRepairScan$Scan;LRepairScan$Dictionary;IIZ)V"⟩, 2), (⟨"RepairScan$Writer", "writePlain", "(LRepairScan$Scan;LRepairScan$Found;)V"⟩, 2), (⟨"RepairScan$Scan", "takeBytes", "([BI)V"⟩, 17), (⟨"RepairScan$Tokens", "setPlace", "(IIII)V"⟩, 6), (⟨"RepairScan$Tokens", "tokenEnd", "(II)I"⟩, 6), (⟨"RepairScan$Tokens", "numberOf", "(I)I"⟩, 6), (⟨"RepairScan$Tokens", "kindOfNumber", "(I)I"⟩, 6), (⟨"RepairScan$Tokens", "kindOf", "(II)I"⟩, 6), (⟨"RepairScan$Scan", "mend", "(II)V"⟩, 17), (⟨"RepairScan$Scan", "takeObject", "(I)I"⟩, 17), (⟨"RepairScan$DictionaryReader", "endsAt", "(I)Z"⟩, 5)]
theorem lw_r1 : ∀ q ∈ lw_privs_1, lw_okq q := List.forall_mem_cons.mpr ⟨lw_p0, List.forall_mem_cons.mpr ⟨lw_p1, List.forall_mem_cons.mpr ⟨lw_p2, List.forall_mem_cons.mpr ⟨lw_p3, List.forall_mem_cons.mpr ⟨lw_p4, List.forall_mem_cons.mpr ⟨lw_p5, List.forall_mem_cons.mpr ⟨lw_p6, List.forall_mem_cons.mpr ⟨lw_p7, List.forall_mem_cons.mpr ⟨lw_p8, List.forall_mem_cons.mpr ⟨lw_p9, List.forall_mem_cons.mpr ⟨lw_p10, List.forall_mem_cons.mpr ⟨lw_p11, List.forall_mem_cons.mpr ⟨lw_p12, List.forall_mem_cons.mpr ⟨lw_p13, List.forall_mem_cons.mpr ⟨lw_p14, List.forall_mem_cons.mpr ⟨lw_p15, fun _ h => absurd h List.not_mem_nil⟩⟩⟩⟩⟩⟩⟩⟩⟩⟩⟩⟩⟩⟩⟩⟩
theorem lw_p16 : lw_okq (⟨"RepairScan$DictionaryReader", "takeValue", "(I)I"⟩, 5) := ⟨⟨by decide +kernel, by decide +kernel⟩, List.mem_of_getElem? (i := 88) (by decide +kernel), List.mem_of_getElem? (i := 641) (by decide +kernel), List.mem_of_getElem? (i := 642) (by decide +kernel)⟩
theorem lw_p17 : lw_okq (⟨"RepairScan$DictionaryReader", "keepPair", "(IIII)V"⟩, 5) := ⟨⟨by decide +kernel, by decide +kernel⟩, List.mem_of_getElem? (i := 88) (by decide +kernel), List.mem_of_getElem? (i := 649) (by decide +kernel), List.mem_of_getElem? (i := 650) (by decide +kernel)⟩
theorem lw_p18 : lw_okq (⟨"RepairScan$Scan", "takeStream", "(I)I"⟩, 17) := ⟨⟨by decide +kernel, by decide +kernel⟩, List.mem_of_getElem? (i := 60) (by decide +kernel), List.mem_of_getElem? (i := 670) (by decide +kernel), List.mem_of_getElem? (i := 671) (by decide +kernel)⟩
theorem lw_p19 : lw_okq (⟨"RepairScan$Scan", "endingByLength", "(I)I"⟩, 17) := ⟨⟨by decide +kernel, by decide +kernel⟩, List.mem_of_getElem? (i := 60) (by decide +kernel), List.mem_of_getElem? (i := 674) (by decide +kernel), List.mem_of_getElem? (i := 675) (by decide +kernel)⟩
theorem lw_p20 : lw_okq (⟨"RepairScan$Scan", "endingByWord", "(I)I"⟩, 17) := ⟨⟨by decide +kernel, by decide +kernel⟩, List.mem_of_getElem? (i := 60) (by decide +kernel), List.mem_of_getElem? (i := 679) (by decide +kernel), List.mem_of_getElem? (i := 680) (by decide +kernel)⟩
theorem lw_p21 : lw_okq (⟨"RepairScan$Scan", "endObject", "(II)V"⟩, 17) := ⟨⟨by decide +kernel, by decide +kernel⟩, List.mem_of_getElem? (i := 60) (by decide +kernel), List.mem_of_getElem? (i := 690) (by decide +kernel), List.mem_of_getElem? (i := 691) (by decide +kernel)⟩
theorem lw_p22 : lw_okq (⟨"RepairScan$Scan", "keepCurrent", "(I)V"⟩, 17) := ⟨⟨by decide +kernel, by decide +kernel⟩, List.mem_of_getElem? (i := 60) (by decide +kernel), List.mem_of_getElem? (i := 694) (by decide +kernel), List.mem_of_getElem? (i := 695) (by decide +kernel)⟩
theorem lw_p23 : lw_okq (⟨"RepairScan$Scan", "takeTrailer", "(I)V"⟩, 17) := ⟨⟨by decide +kernel, by decide +kernel⟩, List.mem_of_getElem? (i := 60) (by decide +kernel), List.mem_of_getElem? (i := 698) (by decide +kernel), List.mem_of_getElem? (i := 699) (by decide +kernel)⟩
theorem lw_p24 : lw_okq (⟨"RepairScan$Scan", "tellReferencesToNothing", "()V"⟩, 17) := ⟨⟨by decide +kernel, by decide +kernel⟩, List.mem_of_getElem? (i := 60) (by decide +kernel), List.mem_of_getElem? (i := 702) (by decide +kernel), List.mem_of_getElem? (i := 703) (by decide +kernel)⟩
theorem lw_p25 : lw_okq (⟨"RepairScan$Scan", "chooseCatalogue", "()V"⟩, 17) := ⟨⟨by decide +kernel, by decide +kernel⟩, List.mem_of_getElem? (i := 60) (by decide +kernel), List.mem_of_getElem? (i := 708) (by decide +kernel), List.mem_of_getElem? (i := 709) (by decide +kernel)⟩
theorem lw_p26 : lw_okq (⟨"RepairScan$Scan", "lastCatalogue", "(Z)I"⟩, 17) := ⟨⟨by decide +kernel, by decide +kernel⟩, List.mem_of_getElem? (i := 60) (by decide +kernel), List.mem_of_getElem? (i := 716) (by decide +kernel), List.mem_of_getElem? (i := 717) (by decide +kernel)⟩
theorem lw_p27 : lw_okq (⟨"RepairScan$Scan", "choosePages", "()V"⟩, 17) := ⟨⟨by decide +kernel, by decide +kernel⟩, List.mem_of_getElem? (i := 60) (by decide +kernel), List.mem_of_getElem? (i := 720) (by decide +kernel), List.mem_of_getElem? (i := 721) (by decide +kernel)⟩
theorem lw_p28 : lw_okq (⟨"RepairScan$PageList", "visit", "(LRepairScan$Scan;I)V"⟩, 6) := ⟨⟨by decide +kernel, by decide +kernel⟩, List.mem_of_getElem? (i := 258) (by decide +kernel), List.mem_of_getElem? (i := 733) (by decide +kernel), List.mem_of_getElem? (i := 734) (by decide +kernel)⟩
theorem lw_p29 : lw_okq (⟨"RepairScan$PageList", "append", "(I)V"⟩, 6) := ⟨⟨by decide +kernel, by decide +kernel⟩, List.mem_of_getElem? (i := 258) (by decide +kernel), List.mem_of_getElem? (i := 738) (by decide +kernel), List.mem_of_getElem? (i := 739) (by decide +kernel)⟩
theorem lw_p30 : lw_okq (⟨"java/lang/Throwable", "fillInStackTrace", "(I)Ljava/lang/Throwable;"⟩, 6) := ⟨⟨by decide +kernel, by decide +kernel⟩, List.mem_of_getElem? (i := 794) (by decide +kernel), List.mem_of_getElem? (i := 792) (by decide +kernel), List.mem_of_getElem? (i := 793) (by decide +kernel)⟩
theorem lw_p31 : lw_okq (⟨"RepairScanModel", "scanAll", "()V"⟩, 56) := ⟨⟨by decide +kernel, by decide +kernel⟩, List.mem_of_getElem? (i := 942) (by decide +kernel), List.mem_of_getElem? (i := 1129) (by decide +kernel), List.mem_of_getElem? (i := 1130) (by decide +kernel)⟩
def lw_privs_2 : List (MethodName × Nat) := [(⟨"RepairScan$DictionaryReader", "takeValue", "(I)I"⟩, 5), (⟨"RepairScan$DictionaryReader", "keepPair", "(IIII)V"⟩, 5), (⟨"RepairScan$Scan", "takeStream", "(I)I"⟩, 17), (⟨"RepairScan$Scan", "endingByLength", "(I)I"⟩, 17), (⟨"RepairScan$Scan", "endingByWord", "(I)I"⟩, 17), (⟨"RepairScan$Scan", "endObject", "(II)V"⟩, 17), (⟨"RepairScan$Scan", "keepCurrent", "(I)V"⟩, 17), (⟨"RepairScan$Scan", "takeTrailer", "(I)V"⟩, 17), (⟨"RepairScan$Scan", "tellReferencesToNothing", "()V"⟩, 17), (⟨"RepairScan$Scan", "chooseCatalogue", "()V"⟩, 17), (⟨"RepairScan$Scan", "lastCatalogue", "(Z)I"⟩, 17), (⟨"RepairScan$Scan", "choosePages", "()V"⟩, 17), (⟨"RepairScan$PageList", "visit", "(LRepairScan$Scan;I)V"⟩, 6), (⟨"RepairScan$PageList", "append", "(I)V"⟩, 6), (⟨"java/lang/Throwable", "fillInStackTrace", "(I)Ljava/lang/Throwable;"⟩, 6), (⟨"RepairScanModel", "scanAll", "()V"⟩, 56)]
theorem lw_r2 : ∀ q ∈ lw_privs_2, lw_okq q := List.forall_mem_cons.mpr ⟨lw_p16, List.forall_mem_cons.mpr ⟨lw_p17, List.forall_mem_cons.mpr ⟨lw_p18, List.forall_mem_cons.mpr ⟨lw_p19, List.forall_mem_cons.mpr ⟨lw_p20, List.forall_mem_cons.mpr ⟨lw_p21, List.forall_mem_cons.mpr ⟨lw_p22, List.forall_mem_cons.mpr ⟨lw_p23, List.forall_mem_cons.mpr ⟨lw_p24, List.forall_mem_cons.mpr ⟨lw_p25, List.forall_mem_cons.mpr ⟨lw_p26, List.forall_mem_cons.mpr ⟨lw_p27, List.forall_mem_cons.mpr ⟨lw_p28, List.forall_mem_cons.mpr ⟨lw_p29, List.forall_mem_cons.mpr ⟨lw_p30, List.forall_mem_cons.mpr ⟨lw_p31, fun _ h => absurd h List.not_mem_nil⟩⟩⟩⟩⟩⟩⟩⟩⟩⟩⟩⟩⟩⟩⟩⟩
theorem lw_p32 : lw_okq (⟨"RepairScanModel", "place", "(I)I"⟩, 56) := ⟨⟨by decide +kernel, by decide +kernel⟩, List.mem_of_getElem? (i := 942) (by decide +kernel), List.mem_of_getElem? (i := 1133) (by decide +kernel), List.mem_of_getElem? (i := 1134) (by decide +kernel)⟩
theorem lw_p33 : lw_okq (⟨"RepairScanModel", "stands", "(IJI)Z"⟩, 56) := ⟨⟨by decide +kernel, by decide +kernel⟩, List.mem_of_getElem? (i := 942) (by decide +kernel), List.mem_of_getElem? (i := 1138) (by decide +kernel), List.mem_of_getElem? (i := 1139) (by decide +kernel)⟩
theorem lw_p34 : lw_okq (⟨"RepairScanModel", "byteAt", "(I)I"⟩, 56) := ⟨⟨by decide +kernel, by decide +kernel⟩, List.mem_of_getElem? (i := 942) (by decide +kernel), List.mem_of_getElem? (i := 1142) (by decide +kernel), List.mem_of_getElem? (i := 1143) (by decide +kernel)⟩
theorem lw_p35 : lw_okq (⟨"RepairScanModel", "mend", "(II)V"⟩, 56) := ⟨⟨by decide +kernel, by decide +kernel⟩, List.mem_of_getElem? (i := 942) (by decide +kernel), List.mem_of_getElem? (i := 1147) (by decide +kernel), List.mem_of_getElem? (i := 1148) (by decide +kernel)⟩
theorem lw_p36 : lw_okq (⟨"RepairScanModel", "go", "()V"⟩, 56) := ⟨⟨by decide +kernel, by decide +kernel⟩, List.mem_of_getElem? (i := 942) (by decide +kernel), List.mem_of_getElem? (i := 1151) (by decide +kernel), List.mem_of_getElem? (i := 1152) (by decide +kernel)⟩
theorem lw_p37 : lw_okq (⟨"RepairScanModel", "next", "()Z"⟩, 56) := ⟨⟨by decide +kernel, by decide +kernel⟩, List.mem_of_getElem? (i := 942) (by decide +kernel), List.mem_of_getElem? (i := 1155) (by decide +kernel), List.mem_of_getElem? (i := 1156) (by decide +kernel)⟩
theorem lw_p38 : lw_okq (⟨"RepairScanModel", "passBlanks", "()V"⟩, 56) := ⟨⟨by decide +kernel, by decide +kernel⟩, List.mem_of_getElem? (i := 942) (by decide +kernel), List.mem_of_getElem? (i := 1159) (by decide +kernel), List.mem_of_getElem? (i := 1160) (by decide +kernel)⟩
theorem lw_p39 : lw_okq (⟨"RepairScanModel", "numberOf", "(II)I"⟩, 56) := ⟨⟨by decide +kernel, by decide +kernel⟩, List.mem_of_getElem? (i := 942) (by decide +kernel), List.mem_of_getElem? (i := 1166) (by decide +kernel), List.mem_of_getElem? (i := 1167) (by decide +kernel)⟩
theorem lw_p40 : lw_okq (⟨"RepairScanModel", "is", "(IIJI)Z"⟩, 56) := ⟨⟨by decide +kernel, by decide +kernel⟩, List.mem_of_getElem? (i := 942) (by decide +kernel), List.mem_of_getElem? (i := 1171) (by decide +kernel), List.mem_of_getElem? (i := 1172) (by decide +kernel)⟩
theorem lw_p41 : lw_okq (⟨"RepairScanModel", "closeMissing", "(I)V"⟩, 56) := ⟨⟨by decide +kernel, by decide +kernel⟩, List.mem_of_getElem? (i := 942) (by decide +kernel), List.mem_of_getElem? (i := 1175) (by decide +kernel), List.mem_of_getElem? (i := 1176) (by decide +kernel)⟩
theorem lw_p42 : lw_okq (⟨"RepairScanModel", "close", "(IZ)V"⟩, 56) := ⟨⟨by decide +kernel, by decide +kernel⟩, List.mem_of_getElem? (i := 942) (by decide +kernel), List.mem_of_getElem? (i := 1179) (by decide +kernel), List.mem_of_getElem? (i := 1180) (by decide +kernel)⟩
theorem lw_p43 : lw_okq (⟨"RepairScanModel", "readTrailer", "()V"⟩, 56) := ⟨⟨by decide +kernel, by decide +kernel⟩, List.mem_of_getElem? (i := 942) (by decide +kernel), List.mem_of_getElem? (i := 1185) (by decide +kernel), List.mem_of_getElem? (i := 1186) (by decide +kernel)⟩
theorem lw_p44 : lw_okq (⟨"RepairScanModel", "read", "(IIJI)V"⟩, 56) := ⟨⟨by decide +kernel, by decide +kernel⟩, List.mem_of_getElem? (i := 942) (by decide +kernel), List.mem_of_getElem? (i := 1190) (by decide +kernel), List.mem_of_getElem? (i := 1191) (by decide +kernel)⟩
theorem lw_p45 : lw_okq (⟨"RepairScanModel", "readPair", "(JI)V"⟩, 56) := ⟨⟨by decide +kernel, by decide +kernel⟩, List.mem_of_getElem? (i := 942) (by decide +kernel), List.mem_of_getElem? (i := 1196) (by decide +kernel), List.mem_of_getElem? (i := 1197) (by decide +kernel)⟩
theorem lw_p46 : lw_okq (⟨"RepairScanModel", "readRow", "(Z)V"⟩, 56) := ⟨⟨by decide +kernel, by decide +kernel⟩, List.mem_of_getElem? (i := 942) (by decide +kernel), List.mem_of_getElem? (i := 1202) (by decide +kernel), List.mem_of_getElem? (i := 1203) (by decide +kernel)⟩
theorem lw_p47 : lw_okq (⟨"RepairScanModel", "passReference", "(II)Z"⟩, 56) := ⟨⟨by decide +kernel, by decide +kernel⟩, List.mem_of_getElem? (i := 942) (by decide +kernel), List.mem_of_getElem? (i := 1207) (by decide +kernel), List.mem_of_getElem? (i := 1208) (by decide +kernel)⟩
def lw_privs_3 : List (MethodName × Nat) := [(⟨"RepairScanModel", "place", "(I)I"⟩, 56), (⟨"RepairScanModel", "stands", "(IJI)Z"⟩, 56), (⟨"RepairScanModel", "byteAt", "(I)I"⟩, 56), (⟨"RepairScanModel", "mend", "(II)V"⟩, 56), (⟨"RepairScanModel", "go", "()V"⟩, 56), (⟨"RepairScanModel", "next", "()Z"⟩, 56), (⟨"RepairScanModel", "passBlanks", "()V"⟩, 56), (⟨"RepairScanModel", "numberOf", "(II)I"⟩, 56), (⟨"RepairScanModel", "is", "(IIJI)Z"⟩, 56), (⟨"RepairScanModel", "closeMissing", "(I)V"⟩, 56), (⟨"RepairScanModel", "close", "(IZ)V"⟩, 56), (⟨"RepairScanModel", "readTrailer", "()V"⟩, 56), (⟨"RepairScanModel", "read", "(IIJI)V"⟩, 56), (⟨"RepairScanModel", "readPair", "(JI)V"⟩, 56), (⟨"RepairScanModel", "readRow", "(Z)V"⟩, 56), (⟨"RepairScanModel", "passReference", "(II)Z"⟩, 56)]
theorem lw_r3 : ∀ q ∈ lw_privs_3, lw_okq q := List.forall_mem_cons.mpr ⟨lw_p32, List.forall_mem_cons.mpr ⟨lw_p33, List.forall_mem_cons.mpr ⟨lw_p34, List.forall_mem_cons.mpr ⟨lw_p35, List.forall_mem_cons.mpr ⟨lw_p36, List.forall_mem_cons.mpr ⟨lw_p37, List.forall_mem_cons.mpr ⟨lw_p38, List.forall_mem_cons.mpr ⟨lw_p39, List.forall_mem_cons.mpr ⟨lw_p40, List.forall_mem_cons.mpr ⟨lw_p41, List.forall_mem_cons.mpr ⟨lw_p42, List.forall_mem_cons.mpr ⟨lw_p43, List.forall_mem_cons.mpr ⟨lw_p44, List.forall_mem_cons.mpr ⟨lw_p45, List.forall_mem_cons.mpr ⟨lw_p46, List.forall_mem_cons.mpr ⟨lw_p47, fun _ h => absurd h List.not_mem_nil⟩⟩⟩⟩⟩⟩⟩⟩⟩⟩⟩⟩⟩⟩⟩⟩
theorem lw_p48 : lw_okq (⟨"RepairScanModel", "keepReference", "(II)V"⟩, 56) := ⟨⟨by decide +kernel, by decide +kernel⟩, List.mem_of_getElem? (i := 942) (by decide +kernel), List.mem_of_getElem? (i := 1212) (by decide +kernel), List.mem_of_getElem? (i := 1213) (by decide +kernel)⟩
theorem lw_p49 : lw_okq (⟨"RepairScanModel", "keyReference", "()I"⟩, 56) := ⟨⟨by decide +kernel, by decide +kernel⟩, List.mem_of_getElem? (i := 942) (by decide +kernel), List.mem_of_getElem? (i := 1216) (by decide +kernel), List.mem_of_getElem? (i := 1217) (by decide +kernel)⟩
theorem lw_p50 : lw_okq (⟨"RepairScanModel", "readStream", "(III)V"⟩, 56) := ⟨⟨by decide +kernel, by decide +kernel⟩, List.mem_of_getElem? (i := 942) (by decide +kernel), List.mem_of_getElem? (i := 1222) (by decide +kernel), List.mem_of_getElem? (i := 1223) (by decide +kernel)⟩
theorem lw_p51 : lw_okq (⟨"RepairScanModel", "standsEnd", "(I)Z"⟩, 56) := ⟨⟨by decide +kernel, by decide +kernel⟩, List.mem_of_getElem? (i := 942) (by decide +kernel), List.mem_of_getElem? (i := 1226) (by decide +kernel), List.mem_of_getElem? (i := 1227) (by decide +kernel)⟩
theorem lw_p52 : lw_okq (⟨"RepairScanModel", "lookAtReferences", "()V"⟩, 56) := ⟨⟨by decide +kernel, by decide +kernel⟩, List.mem_of_getElem? (i := 942) (by decide +kernel), List.mem_of_getElem? (i := 1231) (by decide +kernel), List.mem_of_getElem? (i := 1232) (by decide +kernel)⟩
theorem lw_p53 : lw_okq (⟨"RepairScanModel", "isObject", "(I)Z"⟩, 56) := ⟨⟨by decide +kernel, by decide +kernel⟩, List.mem_of_getElem? (i := 942) (by decide +kernel), List.mem_of_getElem? (i := 1235) (by decide +kernel), List.mem_of_getElem? (i := 1236) (by decide +kernel)⟩
theorem lw_p54 : lw_okq (⟨"RepairScanModel", "readOf", "(IJI)V"⟩, 56) := ⟨⟨by decide +kernel, by decide +kernel⟩, List.mem_of_getElem? (i := 942) (by decide +kernel), List.mem_of_getElem? (i := 1239) (by decide +kernel), List.mem_of_getElem? (i := 1240) (by decide +kernel)⟩
theorem lw_p55 : lw_okq (⟨"RepairScanModel", "kindOf", "(I)I"⟩, 56) := ⟨⟨by decide +kernel, by decide +kernel⟩, List.mem_of_getElem? (i := 942) (by decide +kernel), List.mem_of_getElem? (i := 1243) (by decide +kernel), List.mem_of_getElem? (i := 1244) (by decide +kernel)⟩
theorem lw_p56 : lw_okq (⟨"RepairScanModel", "guess", "()I"⟩, 56) := ⟨⟨by decide +kernel, by decide +kernel⟩, List.mem_of_getElem? (i := 942) (by decide +kernel), List.mem_of_getElem? (i := 1251) (by decide +kernel), List.mem_of_getElem? (i := 1252) (by decide +kernel)⟩
theorem lw_p57 : lw_okq (⟨"RepairScanModel", "pagesOf", "(I)I"⟩, 56) := ⟨⟨by decide +kernel, by decide +kernel⟩, List.mem_of_getElem? (i := 942) (by decide +kernel), List.mem_of_getElem? (i := 1255) (by decide +kernel), List.mem_of_getElem? (i := 1256) (by decide +kernel)⟩
theorem lw_p58 : lw_okq (⟨"RepairScanModel", "walk", "(I)V"⟩, 56) := ⟨⟨by decide +kernel, by decide +kernel⟩, List.mem_of_getElem? (i := 942) (by decide +kernel), List.mem_of_getElem? (i := 1259) (by decide +kernel), List.mem_of_getElem? (i := 1260) (by decide +kernel)⟩
theorem lw_p59 : lw_okq (⟨"RepairScanModel", "addPage", "(I)V"⟩, 56) := ⟨⟨by decide +kernel, by decide +kernel⟩, List.mem_of_getElem? (i := 942) (by decide +kernel), List.mem_of_getElem? (i := 1263) (by decide +kernel), List.mem_of_getElem? (i := 1264) (by decide +kernel)⟩
theorem lw_p60 : lw_okq (⟨"RepairScanModel", "isFound", "(I)Z"⟩, 56) := ⟨⟨by decide +kernel, by decide +kernel⟩, List.mem_of_getElem? (i := 942) (by decide +kernel), List.mem_of_getElem? (i := 1272) (by decide +kernel), List.mem_of_getElem? (i := 1273) (by decide +kernel)⟩
theorem lw_p61 : lw_okq (⟨"RepairScanModel", "say", "(J)V"⟩, 56) := ⟨⟨by decide +kernel, by decide +kernel⟩, List.mem_of_getElem? (i := 942) (by decide +kernel), List.mem_of_getElem? (i := 1317) (by decide +kernel), List.mem_of_getElem? (i := 1318) (by decide +kernel)⟩
theorem lw_p62 : lw_okq (⟨"RepairScanModel", "put", "(I)V"⟩, 56) := ⟨⟨by decide +kernel, by decide +kernel⟩, List.mem_of_getElem? (i := 942) (by decide +kernel), List.mem_of_getElem? (i := 1322) (by decide +kernel), List.mem_of_getElem? (i := 1323) (by decide +kernel)⟩
theorem lw_p63 : lw_okq (⟨"RepairScanModel", "putObject", "(I)V"⟩, 56) := ⟨⟨by decide +kernel, by decide +kernel⟩, List.mem_of_getElem? (i := 942) (by decide +kernel), List.mem_of_getElem? (i := 1326) (by decide +kernel), List.mem_of_getElem? (i := 1327) (by decide +kernel)⟩
def lw_privs_4 : List (MethodName × Nat) := [(⟨"RepairScanModel", "keepReference", "(II)V"⟩, 56), (⟨"RepairScanModel", "keyReference", "()I"⟩, 56), (⟨"RepairScanModel", "readStream", "(III)V"⟩, 56), (⟨"RepairScanModel", "standsEnd", "(I)Z"⟩, 56), (⟨"RepairScanModel", "lookAtReferences", "()V"⟩, 56), (⟨"RepairScanModel", "isObject", "(I)Z"⟩, 56), (⟨"RepairScanModel", "readOf", "(IJI)V"⟩, 56), (⟨"RepairScanModel", "kindOf", "(I)I"⟩, 56), (⟨"RepairScanModel", "guess", "()I"⟩, 56), (⟨"RepairScanModel", "pagesOf", "(I)I"⟩, 56), (⟨"RepairScanModel", "walk", "(I)V"⟩, 56), (⟨"RepairScanModel", "addPage", "(I)V"⟩, 56), (⟨"RepairScanModel", "isFound", "(I)Z"⟩, 56), (⟨"RepairScanModel", "say", "(J)V"⟩, 56), (⟨"RepairScanModel", "put", "(I)V"⟩, 56), (⟨"RepairScanModel", "putObject", "(I)V"⟩, 56)]
theorem lw_r4 : ∀ q ∈ lw_privs_4, lw_okq q := List.forall_mem_cons.mpr ⟨lw_p48, List.forall_mem_cons.mpr ⟨lw_p49, List.forall_mem_cons.mpr ⟨lw_p50, List.forall_mem_cons.mpr ⟨lw_p51, List.forall_mem_cons.mpr ⟨lw_p52, List.forall_mem_cons.mpr ⟨lw_p53, List.forall_mem_cons.mpr ⟨lw_p54, List.forall_mem_cons.mpr ⟨lw_p55, List.forall_mem_cons.mpr ⟨lw_p56, List.forall_mem_cons.mpr ⟨lw_p57, List.forall_mem_cons.mpr ⟨lw_p58, List.forall_mem_cons.mpr ⟨lw_p59, List.forall_mem_cons.mpr ⟨lw_p60, List.forall_mem_cons.mpr ⟨lw_p61, List.forall_mem_cons.mpr ⟨lw_p62, List.forall_mem_cons.mpr ⟨lw_p63, fun _ h => absurd h List.not_mem_nil⟩⟩⟩⟩⟩⟩⟩⟩⟩⟩⟩⟩⟩⟩⟩⟩
theorem lw_p64 : lw_okq (⟨"RepairScanModel", "putNumber", "(I)V"⟩, 56) := ⟨⟨by decide +kernel, by decide +kernel⟩, List.mem_of_getElem? (i := 942) (by decide +kernel), List.mem_of_getElem? (i := 1330) (by decide +kernel), List.mem_of_getElem? (i := 1331) (by decide +kernel)⟩
theorem lw_p65 : lw_okq (⟨"RepairScanModel", "copy", "(IIZ)V"⟩, 56) := ⟨⟨by decide +kernel, by decide +kernel⟩, List.mem_of_getElem? (i := 942) (by decide +kernel), List.mem_of_getElem? (i := 1335) (by decide +kernel), List.mem_of_getElem? (i := 1336) (by decide +kernel)⟩
def lw_privs_5 : List (MethodName × Nat) := [(⟨"RepairScanModel", "putNumber", "(I)V"⟩, 56), (⟨"RepairScanModel", "copy", "(IIZ)V"⟩, 56)]
theorem lw_r5 : ∀ q ∈ lw_privs_5, lw_okq q := List.forall_mem_cons.mpr ⟨lw_p64, List.forall_mem_cons.mpr ⟨lw_p65, fun _ h => absurd h List.not_mem_nil⟩⟩
def lw_privs : List (MethodName × Nat) := lw_privs_1 ++ (lw_privs_2 ++ (lw_privs_3 ++ (lw_privs_4 ++ (lw_privs_5))))
def lw_tbl : List Cond := k2_sels lw_privs ++ tables_1
theorem lw_privs_ok : ∀ q ∈ lw_privs, lw_okq q := by
  show ∀ q ∈ lw_privs_1 ++ (lw_privs_2 ++ (lw_privs_3 ++ (lw_privs_4 ++ (lw_privs_5)))), lw_okq q
  exact List.forall_mem_append.mpr ⟨lw_r1, List.forall_mem_append.mpr ⟨lw_r2, List.forall_mem_append.mpr ⟨lw_r3, List.forall_mem_append.mpr ⟨lw_r4, lw_r5⟩⟩⟩⟩
end
section
/-! ===== BEGIN words of one list among another's, by their places ===== -/
theorem goodIn_r {big : List Cond} (ws : List Cond) (ps : List Nat) (hp : ws = ps.filterMap (fun i => big[i]?)) (h : ws.all goodWord = true) : GoodIn big ws := by
  intro w hw
  have h1 := List.all_eq_true.mp h w hw
  rw [hp] at hw
  obtain ⟨i, -, hi⟩ := List.mem_filterMap.mp hw
  have hm : w ∈ big := by first | exact List.mem_of_getElem? hi | exact List.getElem?_mem hi
  exact ⟨hm, good_of_word h1⟩
theorem goodIn_app {big a b : List Cond} (ha : GoodIn big a) (hb : GoodIn big b) : GoodIn big (a ++ b) := fun w h => (List.mem_append.mp h).elim (ha w) (hb w)
theorem goodIn_ca {big a b : List Cond} {c : Cond} (ha : GoodIn big (c :: a)) (hb : GoodIn big b) : GoodIn big (c :: (a ++ b)) := fun w h => (List.mem_cons.mp h).elim (fun e => ha w (List.mem_cons.mpr (Or.inl e))) (fun h => (List.mem_append.mp h).elim (fun h => ha w (List.mem_cons.mpr (Or.inr h))) (hb w))
theorem goodIn_sub {big ws : List Cond} (hm : ∀ w ∈ ws, w ∈ big) (h : ws.all goodWord = true) : GoodIn big ws := fun w hw => ⟨hm w hw, good_of_word (List.all_eq_true.mp h w hw)⟩
/-! ===== END ===== -/

/-! ===== BEGIN exceptions that leave a method, and their catching by the caller (launches without stack traces) ===== -/
section VXA
/-! The laws vx_back, vx_callV, vx_callS, vx_callSW, vx_throw0, vx_throwS follow proofs of the library, with one case more: JvmDerived/Free/Laws.lean (Back.of_free), Shelf42/LK1.lean (callV, callS), Shelf/KitTraced.lean (throwNew0V, throwNewS). -/
/-- where a method has thrown q: the class by its name, the cell, what was written, the world -/
def vx_T (XC : String → State → State → Prop) (st : State) (q : Addr) (t : State) (mc ms : Nat) (free : Addr → Prop) : Prop :=
  ∃ (E : String) (ce : Cell) (L : List Loc), XC E st t ∧ t.heap[q]? = some ce ∧ ce.vm = .none ∧ st.vm.findClass E = some ce.cls ∧ st.WarmedH t.vm ∧ st.sameButNew ({ t with vm := st.vm } : State) L mc ms ∧ ∀ z ∈ L, free z.base
def vx_Q (Qc : Array Value → State → Outcome → State → Prop) (XC : String → State → State → Prop) (mc ms : Nat) (free : Addr → Prop) : Array Value → State → Outcome → State → Prop := fun a st o t =>
  (Qc a st o t ∧ ∃ L, FrameEnd st o t L mc ms ∧ ∀ q ∈ L, free q.base) ∨ ∃ q, o = .threw q ∧ vx_T XC st q t mc ms free
/-- a callee that returns or throws -/
def vx_Met (l : Launch) (y : MethodName) (ws : List Cond) (rm : Room) (Pc : Array Value → State → Prop) (Qc : Array Value → State → Outcome → State → Prop) (XC : String → State → State → Prop) (mc ms : Nat) (free : Addr → Prop) : Prop :=
  MetFree l y (headSpec ws rm) Pc (fun _ _ _ _ _ => True) (vx_Q Qc XC mc ms free)
def vx_Post (XC : String → State → State → Prop) (mc ms : Nat) (free : Addr → Prop) : Pt → Array Value → Addr → Pt → Prop := fun A a q B =>
  ∃ (g : JFrame) (mk : MethodId) (t : State) (L : List Loc) (E : String) (ce : Cell), B.U.heap = t.heap ∧ B.U.vm = t.vm ∧ XC E (A.U.calling g mk a) t ∧ t.heap[q]? = some ce ∧ ce.vm = .none ∧ A.U.vm.findClass E = some ce.cls ∧ B.locs = A.locs ++ L ∧ (∀ z ∈ L, free z.base) ∧ B.cells = A.cells + mc ∧ B.slots = A.slots + ms
def vx_Back (l : Launch) (R : Room) (p : Program) (e : Env) (below : List Frame) (s : State) (sargs : Array Value) (y : MethodName) (len W9 : Nat)
    (Pre : Pt → Array Value → Prop) (Post : Pt → Array Value → Option Value → Pt → Prop) (PostX : Pt → Array Value → Addr → Pt → Prop) : Prop :=
  ∀ (m : MethodId) (meth : Method) (c : Code) (A : Pt) (g : JFrame) (ig : Instr) (mk : MethodId) (a : Array Value),
    Stand p l e R s m sargs below meth c A.U A.locs A.cells A.slots → g.method = m → g.locals.size = c.maxLocals → decode c.code g.pc = .ok (ig, len) →
    2 * g.monitorRoom + (g.stack.map fun v => v.category).sum ≤ W9 → A.U.methodNamed? y = some mk → Pre A a →
    (∃ (v : Option Value) (B : Pt), Stand p l e R s m sargs below meth c B.U B.locs B.cells B.slots ∧ Post A a v B ∧
      Steps p.tables e below (doInvoke e (A.U.setTop g) [] mk a).1 (B.U.setTop { g with pc := g.pc + len, stack := v.toList ++ g.stack })) ∨
    (∃ (q : Addr) (B : Pt), Stand p l e R s m sargs below meth c B.U B.locs B.cells B.slots ∧ PostX A a q B ∧
      Steps p.tables e below (doInvoke e (A.U.setTop g) [] mk a).1 ((B.U.setTop g).pushFrame (.throwing q)))
section Payer
variable {l : Launch} {R : Room} {p : Program} {e : Env} {below : List Frame} {s : State} {sargs : Array Value} {y : MethodName} {len W9 : Nat}
theorem vx_back {ws : List Cond} {rm : Room} {Pc : Array Value → State → Prop} {Qc : Array Value → State → Outcome → State → Prop} {XC : String → State → State → Prop} {mc ms : Nat} {free : Addr → Prop} {bytes : ByteArray} {maxL : Nat} {ret : Option FieldType}
    (hM : vx_Met l y ws rm Pc Qc XC mc ms free) (hblind : FrameBlind Pc) (hrc : rm.cells = mc) (hrs : rm.slots = ms)
    (hframes : rm.frames + 1 ≤ R.frames) (hlocals : W9 + (maxL + 11) + rm.locals ≤ R.locals)
    (hws : ∀ w ∈ ws, ∀ a' U, s.WarmedH U.vm → w.before a' U = true) (hcode : Cond.code y bytes maxL ret ∈ ws) (hinit : ∀ a' U, s.WarmedH U.vm → (Cond.initialized y.cls).before a' U = true) :
    vx_Back l R p e below s sargs y len W9 (PreOf R mc ms Pc) (PostOf Qc mc ms free) (vx_Post XC mc ms free) := by
  intro m meth c A g ig mk a X hg hsize hdg hW hn hp
  have h1 : (headSpec ws rm).pre.before a A.U = true := atoms_intro fun w hw => hws w hw _ _ X.warmed
  have h2 : (Cond.code y bytes maxL ret).before a A.U = true := hws _ hcode _ _ X.warmed
  have h3 : (Cond.initialized y.cls).before a A.U = true := hinit _ _ X.warmed
  have h4 : A.cells + (headSpec ws rm).room.cells ≤ R.cells := by rw [show (headSpec ws rm).room.cells = mc from hrc]; exact hp.1
  have h5 : A.slots + (headSpec ws rm).room.slots ≤ R.slots := by rw [show (headSpec ws rm).room.slots = ms from hrs]; exact hp.2.1
  have hPc : Pc a (A.U.calling g mk a) := hblind _ _ _ _ hp.2.2
  obtain ⟨U, Ls, c0, s0⟩ := A
  dsimp only [Pt.U, Pt.locs, Pt.cells, Pt.slots] at h1 h2 h3 h4 h5 X hn hPc ⊢
  obtain ⟨methY, cY, hmY, hcY, -, hlY, -, -, -, -⟩ := Cond.code_spec hn h2
  obtain ⟨kY, hkY, -⟩ := className_of_methodNamed hn
  have hinitY : kY.init = .initialized := Cond.initialized_spec (findClass_of_methodNamed hn) hkY h3
  have h : At U g.method c below := by rw [hg]; exact X.here
  have hlocals9 : W9 + (maxL + 11) + (headSpec ws rm).room.locals ≤ R.locals := hlocals
  have happ : (headSpec ws rm).appliesLoose y e.platform (U.calling g mk a) = true :=
    Spec.appliesLoose_calling (g := g) h hdg hn hkY hinitY
      (X.room_calling (g := g) (R' := (headSpec ws rm).room) hsize hmY hcY hframes (by rw [hlY]; omega) h4 h5) h1
  obtain ⟨mid, hmid⟩ := h.above
  have hfr : (U.setTop g).frames = (.java g :: mid) ++ below := by rw [State.frames_setTop' g h.top, hmid]; rfl
  obtain ⟨o, s₂, hsteps, -, hend, hq⟩ := Steps.callFree hM p X.admits X.cas X.clock (acts := []) hfr happ hPc trivial
  have hq' : vx_Q Qc XC mc ms free a (U.calling g mk a) o s₂ := hq
  rw [State.frames_setTop' g h.top] at hend
  obtain ⟨g₀, hg0⟩ := Option.isSome_iff_exists.mp h.top
  obtain ⟨r, hr⟩ := State.topJava?_eq_some.mp hg0
  have hr' : (({ U with heap := s₂.heap, slotsUsed := s₂.slotsUsed } : State).setVm s₂.vm).frames = .java g₀ :: r := hr
  rcases hq' with ⟨hqc, L, hfe, hL⟩ | ⟨q, rfl, E, ce, L, hx, hce, hcv, hcl, hW₂, hsm, hL⟩
  · obtain ⟨⟨v, rfl⟩, hW₂, e2, q2, q3, q4, q5, q6⟩ := id hfe
    have e3 : s₂ = ({ (U.calling g mk a).setFrames s₂.frames with heap := s₂.heap, slotsUsed := s₂.slotsUsed } : State).setVm s₂.vm := by
      have : s₂ = ({ s₂ with vm := (U.calling g mk a).vm } : State).setVm s₂.vm := rfl
      rw [e2] at this
      exact this
    obtain ⟨c₂, i₂, len₂, hc₂, hd₂, hf₂⟩ := hend
    have hW' : U.WarmedH s₂.vm := hW₂
    have hcc : c₂ = c := by
      have h1 : s₂.code? g.method = U.code? g.method := by
        rw [State.code?_eq, State.code?_eq, hW'.alike.method?]
      exact Option.some.inj (hc₂.symm.trans (h1.trans h.code))
    subst hcc
    have hlen : len₂ = len := by rw [hdg] at hd₂; cases hd₂; rfl
    subst hlen
    have hs₂ : s₂ = (({ U with heap := s₂.heap, slotsUsed := s₂.slotsUsed } : State).setVm s₂.vm).setTop { g with pc := g.pc + len₂, stack := v.toList ++ g.stack } := by
      refine e3.trans ?_
      rw [hf₂, State.calling_eq h.top, State.setFrames_setFrames, State.setTop_of_frames _ hr', hr]
      rfl
    have hsame : U.sameButNew ({ U with heap := s₂.heap, slotsUsed := s₂.slotsUsed } : State) L mc ms := by
      refine ⟨?_, q2, q3, q4, q5, q6⟩
      obtain ⟨t, ht, -⟩ := State.frames_cons hr
      show ({ U with heap := s₂.heap, slotsUsed := s₂.slotsUsed } : State) = { U.setFrames U.frames with heap := s₂.heap, slotsUsed := s₂.slotsUsed }
      rw [State.setFrames_self ht]
    subst hg
    refine Or.inl ⟨v, ⟨(({ U with heap := s₂.heap, slotsUsed := s₂.slotsUsed } : State).setVm s₂.vm), Ls ++ L, c0 + mc, s0 + ms⟩,
      ⟨X.admits, X.cas, X.clock, X.frames, X.room, X.hears, X.method, X.code, (X.here.setHeapUsed s₂.heap s₂.slotsUsed).setVm hW'.alike, X.tail, State.WarmedH.trans X.warmed hW', X.limits, X.bytes, X.same.trans (hsame.setVm s.vm)⟩,
      ⟨g, mk, s₂, L, rfl, rfl, hqc, rfl, hL, rfl, rfl⟩, ?_⟩
    show Steps p.tables e below _ ((({ U with heap := s₂.heap, slotsUsed := s₂.slotsUsed } : State).setVm s₂.vm).setTop { g with pc := g.pc + len₂, stack := v.toList ++ g.stack })
    rw [← hs₂]
    exact hsteps
  · obtain ⟨e2, q2, q3, q4, q5, q6⟩ := id hsm
    have e3 : s₂ = ({ (U.calling g mk a).setFrames s₂.frames with heap := s₂.heap, slotsUsed := s₂.slotsUsed } : State).setVm s₂.vm := by
      have : s₂ = ({ s₂ with vm := (U.calling g mk a).vm } : State).setVm s₂.vm := rfl
      rw [e2] at this
      exact this
    have hf₂ : s₂.frames = .throwing q :: .java g :: U.frames.tail := hend
    have hW' : U.WarmedH s₂.vm := hW₂
    have hs₂ : s₂ = ((({ U with heap := s₂.heap, slotsUsed := s₂.slotsUsed } : State).setVm s₂.vm).setTop g).pushFrame (.throwing q) := by
      refine e3.trans ?_
      rw [hf₂, State.calling_eq h.top, State.setFrames_setFrames, State.pushFrame, State.frames_setTop _ hr', State.setTop_of_frames _ hr', State.setFrames_setFrames, hr]
      rfl
    have hsame : U.sameButNew ({ U with heap := s₂.heap, slotsUsed := s₂.slotsUsed } : State) L mc ms := by
      refine ⟨?_, q2, q3, q4, q5, q6⟩
      obtain ⟨t, ht, -⟩ := State.frames_cons hr
      show ({ U with heap := s₂.heap, slotsUsed := s₂.slotsUsed } : State) = { U.setFrames U.frames with heap := s₂.heap, slotsUsed := s₂.slotsUsed }
      rw [State.setFrames_self ht]
    subst hg
    refine Or.inr ⟨q, ⟨(({ U with heap := s₂.heap, slotsUsed := s₂.slotsUsed } : State).setVm s₂.vm), Ls ++ L, c0 + mc, s0 + ms⟩,
      ⟨X.admits, X.cas, X.clock, X.frames, X.room, X.hears, X.method, X.code, (X.here.setHeapUsed s₂.heap s₂.slotsUsed).setVm hW'.alike, X.tail, State.WarmedH.trans X.warmed hW', X.limits, X.bytes, X.same.trans (hsame.setVm s.vm)⟩,
      ⟨g, mk, s₂, L, E, ce, rfl, rfl, hx, hce, hcv, hcl, rfl, hL, rfl, rfl⟩, ?_⟩
    show Steps p.tables e below _ (((({ U with heap := s₂.heap, slotsUsed := s₂.slotsUsed } : State).setVm s₂.vm).setTop g).pushFrame (.throwing q))
    rw [← hs₂]
    exact hsteps
end Payer
section Calls
variable {p : Program} {l : Launch} {e : Env} {R : Room} {s : State} {m : MethodId} {args : Array Value} {below : List Frame} {meth : Method} {c : Code} {T : State} {locs : List Loc} {cells slots : Nat}
theorem vx_callV (X : Stand p l e R s m args below meth c T locs cells slots) (hexec : p.tables.exec = Jvm.exec) {own C : String} {index : Nat} {y : MethodName} {bytes : ByteArray} {maxL : Nat} {ret : Option FieldType}
    (hown : s.vm.findClass own = some m.cls) (hlink : (Cond.methodLink own index y).before args s = true) (hinst : (Cond.instanceMethod y).before args s = true) (hsel : (Cond.selects C y y).before args s = true)
    (hcode : (Cond.code y bytes maxL ret).before args s = true) (hy : y.cls ≠ "java/lang/invoke/MethodHandle" ∧ y.cls ≠ "java/lang/invoke/VarHandle")
    {W9 : Nat} {Pre : Pt → Array Value → Prop} {Post : Pt → Array Value → Option Value → Pt → Prop} {PostX : Pt → Array Value → Addr → Pt → Prop} (hK : vx_Back l R p e below s args y 3 W9 Pre Post PostX)
    {b : Addr} {cellB : Cell} (hcell : T.heap[b]? = some cellB) (hobj : cellB.vm.isStatics = false) (hcls : s.vm.findClass C = some cellB.cls)
    {g : JFrame} (hg : g.method = m) (hsize : g.locals.size = c.maxLocals) {argsL rest : List Value} (hlen : ∀ sig, parseMethodDescriptor y.desc = some sig → argsL.length = sig.parameters.length)
    (hstack : g.stack = argsL.reverse ++ .ref b :: rest) (hW : 2 * g.monitorRoom + (rest.map fun v => v.category).sum ≤ W9) (hdg : decode c.code g.pc = .ok (.invokevirtual index, 3))
    (hpre : ∀ vm₁, s.WarmedH vm₁ → Pre ⟨T.setVm vm₁, locs, cells, slots⟩ (Value.ref b :: argsL).toArray) :
    (∃ (v : Option Value) (vm₁ : Vm) (B : Pt), s.WarmedH vm₁ ∧ Stand p l e R s m args below meth c B.U B.locs B.cells B.slots ∧ Post ⟨T.setVm vm₁, locs, cells, slots⟩ (Value.ref b :: argsL).toArray v B ∧
      ∀ target, Steps p.tables e below (B.U.setTop { g with pc := g.pc + 3, stack := v.toList ++ rest }) target → Steps p.tables e below (T.setTop g) target) ∨
    (∃ (q : Addr) (vm₁ : Vm) (B : Pt), s.WarmedH vm₁ ∧ Stand p l e R s m args below meth c B.U B.locs B.cells B.slots ∧ PostX ⟨T.setVm vm₁, locs, cells, slots⟩ (Value.ref b :: argsL).toArray q B ∧
      Steps p.tables e below (T.setTop g) ((B.U.setTop { g with stack := rest }).pushFrame (.throwing q))) := by
  obtain ⟨mk, methM, hnamed, hmethM, hstM, habM⟩ := Cond.instanceMethod_spec hinst
  obtain ⟨methM', cM, hmethM', -, -, -, -, -, -, hsigM⟩ := Cond.code_spec hnamed hcode
  cases hmethM.symm.trans hmethM'
  obtain ⟨c2, r2, m2, q1, q2, q3, q4, kP, hkP, hkPi⟩ := Cond.selects_spec hsel
  cases hcls.symm.trans q1
  cases (State.methodFound?_of_named hnamed hy).symm.trans q2
  cases hnamed.symm.trans q3
  have hselP : selectMethod e.platform s.vm cellB.cls mk = .method mk := by rw [Launch.admits_selectMethod X.admits]; exact q4
  obtain ⟨vm₁, X₁, hstep₁⟩ := X.invokevirtual hexec hown hlink hnamed hmethM hstM hkP hkPi hy (a := b) (cell := cellB) hcell
    (fun z h => by rw [h] at hobj; cases hobj) hselP hmethM habM hkP hkPi (g := g) hg (argsL := argsL) (rest := rest) (hlen _ hsigM) hstack hdg
  rcases hK m meth c ⟨T.setVm vm₁, locs, cells, slots⟩ { g with stack := rest } (.invokevirtual index) mk (Value.ref b :: argsL).toArray X₁ hg hsize hdg hW (X₁.named hnamed) (hpre vm₁ X₁.warmed) with ⟨v, B, X', hpost, hsteps⟩ | ⟨q, B, X', hpost, hsteps⟩
  · exact Or.inl ⟨v, vm₁, B, X₁.warmed, X', hpost, fun target h => hstep₁ _ fun acts => by rw [doInvoke_state]; exact hsteps.trans h⟩
  · exact Or.inr ⟨q, vm₁, B, X₁.warmed, X', hpost, hstep₁ _ fun acts => by rw [doInvoke_state]; exact hsteps⟩
theorem vx_callS (X : Stand p l e R s m args below meth c T locs cells slots) (hexec : p.tables.exec = Jvm.exec) {own : String} {index : Nat} {y : MethodName} {bytes : ByteArray} {maxL : Nat} {ret : Option FieldType}
    (hown : s.vm.findClass own = some m.cls) (hlink : (Cond.methodLink own index y).before args s = true) (hstat : (Cond.static y).before args s = true) (hinit : (Cond.initialized y.cls).before args s = true)
    (hcode : (Cond.code y bytes maxL ret).before args s = true) (hy : y.cls ≠ "java/lang/invoke/MethodHandle" ∧ y.cls ≠ "java/lang/invoke/VarHandle")
    {W9 : Nat} {Pre : Pt → Array Value → Prop} {Post : Pt → Array Value → Option Value → Pt → Prop} {PostX : Pt → Array Value → Addr → Pt → Prop} (hK : vx_Back l R p e below s args y 3 W9 Pre Post PostX)
    {g : JFrame} (hg : g.method = m) (hsize : g.locals.size = c.maxLocals) {argsL rest : List Value} (hlen : ∀ sig, parseMethodDescriptor y.desc = some sig → argsL.length = sig.parameters.length)
    (hstack : g.stack = argsL.reverse ++ rest) (hW : 2 * g.monitorRoom + (rest.map fun v => v.category).sum ≤ W9) (hdg : decode c.code g.pc = .ok (.invokestatic index, 3))
    (hpre : ∀ vm₁, s.WarmedH vm₁ → Pre ⟨T.setVm vm₁, locs, cells, slots⟩ argsL.toArray) :
    (∃ (v : Option Value) (vm₁ : Vm) (B : Pt), s.WarmedH vm₁ ∧ Stand p l e R s m args below meth c B.U B.locs B.cells B.slots ∧ Post ⟨T.setVm vm₁, locs, cells, slots⟩ argsL.toArray v B ∧
      ∀ target, Steps p.tables e below (B.U.setTop { g with pc := g.pc + 3, stack := v.toList ++ rest }) target → Steps p.tables e below (T.setTop g) target) ∨
    (∃ (q : Addr) (vm₁ : Vm) (B : Pt), s.WarmedH vm₁ ∧ Stand p l e R s m args below meth c B.U B.locs B.cells B.slots ∧ PostX ⟨T.setVm vm₁, locs, cells, slots⟩ argsL.toArray q B ∧
      Steps p.tables e below (T.setTop g) ((B.U.setTop { g with stack := rest }).pushFrame (.throwing q))) := by
  obtain ⟨mk, hnamed⟩ := Cond.code_named hcode
  obtain ⟨methM, cM, hmethM, -, -, -, -, -, -, hsigM⟩ := Cond.code_spec hnamed hcode
  have hstatic : methM.isStatic = true := Cond.static_spec hnamed hmethM hstat
  obtain ⟨kP, hkP, -⟩ := className_of_methodNamed hnamed
  have hinitP : kP.init = .initialized := Cond.initialized_spec (findClass_of_methodNamed hnamed) hkP hinit
  obtain ⟨vm₁, X₁, hstep₁⟩ := X.invokestatic hexec hown hlink hnamed hmethM hstatic hkP hinitP hy (g := g) hg (argsL := argsL) (rest := rest) (hlen _ hsigM) hstack hdg
  rcases hK m meth c ⟨T.setVm vm₁, locs, cells, slots⟩ { g with stack := rest } (.invokestatic index) mk argsL.toArray X₁ hg hsize hdg hW (X₁.named hnamed) (hpre vm₁ X₁.warmed) with ⟨v, B, X', hpost, hsteps⟩ | ⟨q, B, X', hpost, hsteps⟩
  · exact Or.inl ⟨v, vm₁, B, X₁.warmed, X', hpost, fun target h => hstep₁ _ fun acts => by rw [doInvoke_state]; exact hsteps.trans h⟩
  · exact Or.inr ⟨q, vm₁, B, X₁.warmed, X', hpost, hstep₁ _ fun acts => by rw [doInvoke_state]; exact hsteps⟩
end Calls
theorem vx_cls {s : State} {T : State} {vm₁ : Vm} {E : String} {k : ClassId} (hW : s.WarmedH vm₁) (h : (T.setVm vm₁).vm.findClass E = some k) : s.vm.findClass E = some k := by
  have h1 : vm₁.findClass E = some k := h
  rw [hW.alike.findClass] at h1
  exact h1
/-- the method's frame g, with q thrown over it -/
def vx_W (p : Program) (l : Launch) (e : Env) (R : Room) (s : State) (m : MethodId) (args : Array Value) (below : List Frame) (meth : Method) (c : Code) (H : Heap) (locs : List Loc) (cells slots : Nat) (Q : State → Prop) (g : JFrame) (q : Addr) : Prop :=
  ∀ T : State, T.heap = H → Stand p l e R s m args below meth c T locs cells slots → ∃ t, Steps p.tables e below ((T.setTop g).pushFrame (.throwing q)) t ∧ Q t
def vx_Run (p : Program) (l : Launch) (e : Env) (R : Room) (s : State) (m : MethodId) (args : Array Value) (below : List Frame) (meth : Method) (c : Code) (H : Heap) (locs : List Loc) (cells slots mc ms : Nat) (g : JFrame) (rest : List Value) (Qa : State → Outcome → State → Prop) (XC : String → State → State → Prop) (free : Addr → Prop) : Prop :=
  ∀ T : State, T.heap = H → Stand p l e R s m args below meth c T locs cells slots →
    (∃ (v : Option Value) (st₀ t T' : State) (L : List Loc), st₀.heap = H ∧ Stand p l e R s m args below meth c T' (locs ++ L) (cells + mc) (slots + ms) ∧ (∀ q ∈ L, free q.base) ∧ T'.heap = t.heap ∧ T'.vm = t.vm ∧ Qa st₀ (.returned v) t ∧
      Goes p e below T g T' { g with pc := g.pc + 3, stack := v.toList ++ rest }) ∨
    (∃ (q : Addr) (st₀ t T' : State) (L : List Loc) (E : String) (ce : Cell), st₀.heap = H ∧ Stand p l e R s m args below meth c T' (locs ++ L) (cells + mc) (slots + ms) ∧ (∀ z ∈ L, free z.base) ∧ T'.heap = t.heap ∧ T'.vm = t.vm ∧ XC E st₀ t ∧ t.heap[q]? = some ce ∧ ce.vm = .none ∧ s.vm.findClass E = some ce.cls ∧
      Steps p.tables e below (T.setTop g) ((T'.setTop { g with stack := rest }).pushFrame (.throwing q)))
def vx_X {S : Type} (px : S → Prop) (B : String → S → State → Prop) (A : Nat → Prop) : String → State → State → Prop := fun E st t => ∃ u : S, px u ∧ B E u t ∧ va_F A st t
section Runs
variable {p : Program} {l : Launch} {e : Env} {R : Room} {s : State} {m : MethodId} {args : Array Value} {below : List Frame} {meth : Method} {c : Code} {H : Heap} {locs : List Loc} {cells slots : Nat}
variable {y : MethodName} {bytes cc : ByteArray} {maxL nL mc ms n index : Nat} {ret : Option FieldType} {ws : List Cond} {rm : Room} {Pc : Array Value → State → Prop} {Qc : Array Value → State → Outcome → State → Prop} {XC : String → State → State → Prop} {free : Addr → Prop} {Ts : List Cond} {own C : String} {b : Addr} {As rest : List Value} {g : JFrame}
theorem vx_callBack (cb : CallB R s args own index y bytes maxL ret ws rm mc ms n) (hM : vx_Met l y ws rm Pc Qc XC mc ms free) (hbl : FrameBlind Pc) : vx_Back l R p e below s args y 3 8 (PreOf R mc ms Pc) (PostOf Qc mc ms free) (vx_Post XC mc ms free) := by
  obtain ⟨hrc, hrs, hfr, hlo, hws, hcw, -, hini, -⟩ := cb
  exact vx_back (bytes := bytes) (maxL := maxL) (ret := ret) hM hbl hrc hrs hfr hlo hws hcw (fun a' U hW => word_at hW (Or.inl (by first | rfl | simp [Cond.onTables, Cond.keeps, Cond.steady])) hini)
theorem vx_runV (S : CallFix p m c cc nL s args Ts own) (hM : vx_Met l y ws rm Pc Qc XC mc ms free) (cw : CallW R s args own C index y bytes maxL ret ws rm mc ms n) (hp : PreV s H C b Pc As)
    (hg : g.method = m) (hn : As.length = n) (hsize : g.locals.size = nL) (hstack : g.stack = As.reverse ++ .ref b :: rest) (hW : 2 * g.monitorRoom + (rest.map fun v => v.category).sum ≤ 8) (hdg : decode cc g.pc = .ok (.invokevirtual index, 3)) (hf : cells + mc ≤ R.cells ∧ slots + ms ≤ R.slots) :
    vx_Run p l e R s m args below meth c H locs cells slots mc ms g rest (Qc (Value.ref b :: As).toArray) XC free := by
  have hK : vx_Back l R p e below s args y 3 8 (PreOf R mc ms Pc) (PostOf Qc mc ms free) (vx_Post XC mc ms free) := vx_callBack cw.1 hM hp.1
  obtain ⟨⟨-, -, -, -, -, -, hcode, -, hy, hlen, hl⟩, hin, hse⟩ := cw
  obtain ⟨hx, hb, hml, ho, -⟩ := S
  obtain ⟨-, ⟨cellB, hcB, hoB, hclB⟩, hPc⟩ := hp
  intro T hT X
  rcases vx_callV X hx (C := C) (bytes := bytes) (maxL := maxL) (ret := ret) ho hl hin hse hcode hy hK (by rw [hT]; exact hcB) hoB hclB hg (hsize.trans hml.symm) (argsL := As) (rest := rest) (fun sig h => hn.trans (hlen sig h)) hstack hW (by rw [hb]; exact hdg)
    (fun vm₁ hW₁ => ⟨hf.1, hf.2, hPc (T.setVm vm₁) hT hW₁⟩) with ⟨v, vm₁, ⟨U', l2, c2, s2⟩, hW₁, X', ⟨g', mk, t, L, e1, e2, hq, h1, hL, h2, h3⟩, st⟩ | ⟨q, vm₁, ⟨U', l2, c2, s2⟩, hW₁, X', ⟨g', mk, t, L, E, ce, e1, e2, hq, hce, hcv, hcl, h1, hL, h2, h3⟩, st⟩
  · dsimp only [Pt.U, Pt.locs, Pt.cells, Pt.slots] at X' e1 e2 h1 h2 h3 st
    subst h1; subst h2; subst h3
    exact Or.inl ⟨v, (T.setVm vm₁).calling g' mk (Value.ref b :: As).toArray, t, U', L, hT, X', hL, e1, e2, hq, st⟩
  · dsimp only [Pt.U, Pt.locs, Pt.cells, Pt.slots] at X' e1 e2 h1 h2 h3 st hcl
    subst h1; subst h2; subst h3
    exact Or.inr ⟨q, (T.setVm vm₁).calling g' mk (Value.ref b :: As).toArray, t, U', L, E, ce, hT, X', hL, e1, e2, hq, hce, hcv, vx_cls hW₁ hcl, st⟩
theorem vx_runS (S : CallFix p m c cc nL s args Ts own) (hM : vx_Met l y ws rm Pc Qc XC mc ms free) (cw : CallB R s args own index y bytes maxL ret ws rm mc ms n ∧ (Cond.static y).before args s = true) (hp : PreS s H Pc As)
    (hg : g.method = m) (hn : As.length = n) (hsize : g.locals.size = nL) (hstack : g.stack = As.reverse ++ rest) (hW : 2 * g.monitorRoom + (rest.map fun v => v.category).sum ≤ 8) (hdg : decode cc g.pc = .ok (.invokestatic index, 3)) (hf : cells + mc ≤ R.cells ∧ slots + ms ≤ R.slots) :
    vx_Run p l e R s m args below meth c H locs cells slots mc ms g rest (Qc As.toArray) XC free := by
  have hK : vx_Back l R p e below s args y 3 8 (PreOf R mc ms Pc) (PostOf Qc mc ms free) (vx_Post XC mc ms free) := vx_callBack cw.1 hM hp.1
  obtain ⟨⟨-, -, -, -, -, -, hcode, hini, hy, hlen, hl⟩, hstt⟩ := cw
  obtain ⟨hx, hb, hml, ho, -⟩ := S
  intro T hT X
  rcases vx_callS X hx (bytes := bytes) (maxL := maxL) (ret := ret) ho hl hstt hini hcode hy hK hg (hsize.trans hml.symm) (argsL := As) (rest := rest) (fun sig h => hn.trans (hlen sig h)) hstack hW (by rw [hb]; exact hdg)
    (fun vm₁ hW₁ => ⟨hf.1, hf.2, hp.2 (T.setVm vm₁) hT hW₁⟩) with ⟨v, vm₁, ⟨U', l2, c2, s2⟩, hW₁, X', ⟨g', mk, t, L, e1, e2, hq, h1, hL, h2, h3⟩, st⟩ | ⟨q, vm₁, ⟨U', l2, c2, s2⟩, hW₁, X', ⟨g', mk, t, L, E, ce, e1, e2, hq, hce, hcv, hcl, h1, hL, h2, h3⟩, st⟩
  · dsimp only [Pt.U, Pt.locs, Pt.cells, Pt.slots] at X' e1 e2 h1 h2 h3 st
    subst h1; subst h2; subst h3
    exact Or.inl ⟨v, (T.setVm vm₁).calling g' mk As.toArray, t, U', L, hT, X', hL, e1, e2, hq, st⟩
  · dsimp only [Pt.U, Pt.locs, Pt.cells, Pt.slots] at X' e1 e2 h1 h2 h3 st hcl
    subst h1; subst h2; subst h3
    exact Or.inr ⟨q, (T.setVm vm₁).calling g' mk As.toArray, t, U', L, E, ce, hT, X', hL, e1, e2, hq, hce, hcv, vx_cls hW₁ hcl, st⟩
end Runs
section Rows
variable {p : Program} {l : Launch} {e : Env} {R : Room} {s : State} {m : MethodId} {args : Array Value} {below : List Frame} {meth : Method} {c : Code} {H : Heap} {locs : List Loc} {cells slots : Nat} {Q : State → Prop}
variable {mc ms : Nat} {free : Addr → Prop} {A0 A1 : Nat → Prop} {H0 : Heap} {a : Array Value} {pc : Nat} {ls : Array Slot} {st0 rest : List Value}
theorem vx_keep {st₀ t T' : State} {L : List Loc} (h0 : st₀.heap = H) (e1 : T'.heap = t.heap) (hS : va_S A0 H0 H locs) (hA : ∀ q, q < H.size → A1 q → A0 q) (hf : ∀ q, free q → A0 q) (hL : ∀ q ∈ L, free q.base) (hF : va_F A1 st₀ t) :
    H.size ≤ T'.heap.size ∧ (∀ q : Nat, q < H.size → ¬ A1 q → T'.heap[q]? = H[q]?) ∧ va_S A0 H0 T'.heap (locs ++ L) := by
  obtain ⟨hz, hk⟩ := hF
  rw [h0] at hz hk
  exact ⟨by rw [e1]; exact hz, fun q h1 h2 => by rw [e1]; exact hk q h1 h2,
    ⟨Nat.le_trans hS.1 (by rw [e1]; exact hz), fun q h1 h2 => by rw [e1, hk q (Nat.lt_of_lt_of_le h1 hS.1) (fun z => h2 (hA q (Nat.lt_of_lt_of_le h1 hS.1) z))]; exact hS.2.1 q h1 h2, fun q hq => by
      rcases List.mem_append.mp hq with h | h
      · exact hS.2.2 q h
      · exact hf _ (hL q h)⟩⟩
theorem vx_calli {S SX : Type} {post : Int32 → S → Prop} {px : SX → Prop} {B : S → State → Prop} {BX : String → SX → State → Prop} {AX : Nat → Prop} (hr : vx_Run p l e R s m args below meth c H locs cells slots mc ms (F0 m pc ls st0) rest (va_Qi post B A1 a) (vx_X px BX AX) free) (hS : va_S A0 H0 H locs) (hA : ∀ q, q < H.size → A1 q → A0 q) (hf : ∀ q, free q → A0 q) (hAX : ∀ q, q < H.size → AX q → A0 q)
    (kx : ∀ (E : String) (ce : Cell) (q9 : Addr) (u : SX) (t : State) (H1 : Heap) (locs1 : List Loc), t.heap = H1 → s.vm.Alike t.vm → px u → BX E u t → H.size ≤ H1.size → (∀ q : Nat, q < H.size → ¬ AX q → H1[q]? = H[q]?) → va_S A0 H0 H1 locs1 → H1[q9]? = some ce → ce.vm = .none → s.vm.findClass E = some ce.cls → vx_W p l e R s m args below meth c H1 locs1 (cells + mc) (slots + ms) Q (F0 m pc ls rest) q9)
    (kk : ∀ (r : Int32) (u : S) (t : State) (H1 : Heap) (locs1 : List Loc), t.heap = H1 → s.vm.Alike t.vm → post r u → B u t → H.size ≤ H1.size → (∀ q : Nat, q < H.size → ¬ A1 q → H1[q]? = H[q]?) → va_S A0 H0 H1 locs1 → W p l e R s m args below meth c H1 locs1 (cells + mc) (slots + ms) Q (F0 m (pc + 3) ls (.int r :: rest))) : W p l e R s m args below meth c H locs cells slots Q (F0 m pc ls st0) := by
  intro T hT X
  rcases hr T hT X with ⟨v, st₀, t, T', L, h0, X', hL, e1, e2, ⟨⟨r, u, hv, hp, hb⟩, hF⟩, st⟩ | ⟨q, st₀, t, T', L, E, ce, h0, X', hL, e1, e2, ⟨u, hp, hb, hF⟩, hce, hcv, hcl, st⟩
  · cases hv
    obtain ⟨k1, k2, k3⟩ := vx_keep h0 e1 hS hA hf hL hF
    obtain ⟨t2, a1, b1⟩ := kk r u t T'.heap (locs ++ L) e1.symm (by rw [← e2]; exact X'.warmed.alike) hp hb k1 k2 k3 T' rfl X'
    exact ⟨t2, st t2 a1, b1⟩
  · obtain ⟨k1, k2, k3⟩ := vx_keep h0 e1 hS hAX hf hL hF
    obtain ⟨t2, a1, b1⟩ := kx E ce q u t T'.heap (locs ++ L) e1.symm (by rw [← e2]; exact X'.warmed.alike) hp hb k1 k2 k3 (by rw [e1]; exact hce) hcv hcl T' rfl X'
    exact ⟨t2, st.trans a1, b1⟩
theorem vx_calll {S SX : Type} {post : Int64 → S → Prop} {px : SX → Prop} {B : S → State → Prop} {BX : String → SX → State → Prop} {AX : Nat → Prop} (hr : vx_Run p l e R s m args below meth c H locs cells slots mc ms (F0 m pc ls st0) rest (va_Ql post B A1 a) (vx_X px BX AX) free) (hS : va_S A0 H0 H locs) (hA : ∀ q, q < H.size → A1 q → A0 q) (hf : ∀ q, free q → A0 q) (hAX : ∀ q, q < H.size → AX q → A0 q)
    (kx : ∀ (E : String) (ce : Cell) (q9 : Addr) (u : SX) (t : State) (H1 : Heap) (locs1 : List Loc), t.heap = H1 → s.vm.Alike t.vm → px u → BX E u t → H.size ≤ H1.size → (∀ q : Nat, q < H.size → ¬ AX q → H1[q]? = H[q]?) → va_S A0 H0 H1 locs1 → H1[q9]? = some ce → ce.vm = .none → s.vm.findClass E = some ce.cls → vx_W p l e R s m args below meth c H1 locs1 (cells + mc) (slots + ms) Q (F0 m pc ls rest) q9)
    (kk : ∀ (r : Int64) (u : S) (t : State) (H1 : Heap) (locs1 : List Loc), t.heap = H1 → s.vm.Alike t.vm → post r u → B u t → H.size ≤ H1.size → (∀ q : Nat, q < H.size → ¬ A1 q → H1[q]? = H[q]?) → va_S A0 H0 H1 locs1 → W p l e R s m args below meth c H1 locs1 (cells + mc) (slots + ms) Q (F0 m (pc + 3) ls (.long r :: rest))) : W p l e R s m args below meth c H locs cells slots Q (F0 m pc ls st0) := by
  intro T hT X
  rcases hr T hT X with ⟨v, st₀, t, T', L, h0, X', hL, e1, e2, ⟨⟨r, u, hv, hp, hb⟩, hF⟩, st⟩ | ⟨q, st₀, t, T', L, E, ce, h0, X', hL, e1, e2, ⟨u, hp, hb, hF⟩, hce, hcv, hcl, st⟩
  · cases hv
    obtain ⟨k1, k2, k3⟩ := vx_keep h0 e1 hS hA hf hL hF
    obtain ⟨t2, a1, b1⟩ := kk r u t T'.heap (locs ++ L) e1.symm (by rw [← e2]; exact X'.warmed.alike) hp hb k1 k2 k3 T' rfl X'
    exact ⟨t2, st t2 a1, b1⟩
  · obtain ⟨k1, k2, k3⟩ := vx_keep h0 e1 hS hAX hf hL hF
    obtain ⟨t2, a1, b1⟩ := kx E ce q u t T'.heap (locs ++ L) e1.symm (by rw [← e2]; exact X'.warmed.alike) hp hb k1 k2 k3 (by rw [e1]; exact hce) hcv hcl T' rfl X'
    exact ⟨t2, st.trans a1, b1⟩
theorem vx_callf {S SX : Type} {post : UInt32 → S → Prop} {px : SX → Prop} {B : S → State → Prop} {BX : String → SX → State → Prop} {AX : Nat → Prop} (hr : vx_Run p l e R s m args below meth c H locs cells slots mc ms (F0 m pc ls st0) rest (va_Qf post B A1 a) (vx_X px BX AX) free) (hS : va_S A0 H0 H locs) (hA : ∀ q, q < H.size → A1 q → A0 q) (hf : ∀ q, free q → A0 q) (hAX : ∀ q, q < H.size → AX q → A0 q)
    (kx : ∀ (E : String) (ce : Cell) (q9 : Addr) (u : SX) (t : State) (H1 : Heap) (locs1 : List Loc), t.heap = H1 → s.vm.Alike t.vm → px u → BX E u t → H.size ≤ H1.size → (∀ q : Nat, q < H.size → ¬ AX q → H1[q]? = H[q]?) → va_S A0 H0 H1 locs1 → H1[q9]? = some ce → ce.vm = .none → s.vm.findClass E = some ce.cls → vx_W p l e R s m args below meth c H1 locs1 (cells + mc) (slots + ms) Q (F0 m pc ls rest) q9)
    (kk : ∀ (r : UInt32) (u : S) (t : State) (H1 : Heap) (locs1 : List Loc), t.heap = H1 → s.vm.Alike t.vm → post r u → B u t → H.size ≤ H1.size → (∀ q : Nat, q < H.size → ¬ A1 q → H1[q]? = H[q]?) → va_S A0 H0 H1 locs1 → W p l e R s m args below meth c H1 locs1 (cells + mc) (slots + ms) Q (F0 m (pc + 3) ls (.float r :: rest))) : W p l e R s m args below meth c H locs cells slots Q (F0 m pc ls st0) := by
  intro T hT X
  rcases hr T hT X with ⟨v, st₀, t, T', L, h0, X', hL, e1, e2, ⟨⟨r, u, hv, hp, hb⟩, hF⟩, st⟩ | ⟨q, st₀, t, T', L, E, ce, h0, X', hL, e1, e2, ⟨u, hp, hb, hF⟩, hce, hcv, hcl, st⟩
  · cases hv
    obtain ⟨k1, k2, k3⟩ := vx_keep h0 e1 hS hA hf hL hF
    obtain ⟨t2, a1, b1⟩ := kk r u t T'.heap (locs ++ L) e1.symm (by rw [← e2]; exact X'.warmed.alike) hp hb k1 k2 k3 T' rfl X'
    exact ⟨t2, st t2 a1, b1⟩
  · obtain ⟨k1, k2, k3⟩ := vx_keep h0 e1 hS hAX hf hL hF
    obtain ⟨t2, a1, b1⟩ := kx E ce q u t T'.heap (locs ++ L) e1.symm (by rw [← e2]; exact X'.warmed.alike) hp hb k1 k2 k3 (by rw [e1]; exact hce) hcv hcl T' rfl X'
    exact ⟨t2, st.trans a1, b1⟩
theorem vx_calld {S SX : Type} {post : UInt64 → S → Prop} {px : SX → Prop} {B : S → State → Prop} {BX : String → SX → State → Prop} {AX : Nat → Prop} (hr : vx_Run p l e R s m args below meth c H locs cells slots mc ms (F0 m pc ls st0) rest (va_Qd post B A1 a) (vx_X px BX AX) free) (hS : va_S A0 H0 H locs) (hA : ∀ q, q < H.size → A1 q → A0 q) (hf : ∀ q, free q → A0 q) (hAX : ∀ q, q < H.size → AX q → A0 q)
    (kx : ∀ (E : String) (ce : Cell) (q9 : Addr) (u : SX) (t : State) (H1 : Heap) (locs1 : List Loc), t.heap = H1 → s.vm.Alike t.vm → px u → BX E u t → H.size ≤ H1.size → (∀ q : Nat, q < H.size → ¬ AX q → H1[q]? = H[q]?) → va_S A0 H0 H1 locs1 → H1[q9]? = some ce → ce.vm = .none → s.vm.findClass E = some ce.cls → vx_W p l e R s m args below meth c H1 locs1 (cells + mc) (slots + ms) Q (F0 m pc ls rest) q9)
    (kk : ∀ (r : UInt64) (u : S) (t : State) (H1 : Heap) (locs1 : List Loc), t.heap = H1 → s.vm.Alike t.vm → post r u → B u t → H.size ≤ H1.size → (∀ q : Nat, q < H.size → ¬ A1 q → H1[q]? = H[q]?) → va_S A0 H0 H1 locs1 → W p l e R s m args below meth c H1 locs1 (cells + mc) (slots + ms) Q (F0 m (pc + 3) ls (.double r :: rest))) : W p l e R s m args below meth c H locs cells slots Q (F0 m pc ls st0) := by
  intro T hT X
  rcases hr T hT X with ⟨v, st₀, t, T', L, h0, X', hL, e1, e2, ⟨⟨r, u, hv, hp, hb⟩, hF⟩, st⟩ | ⟨q, st₀, t, T', L, E, ce, h0, X', hL, e1, e2, ⟨u, hp, hb, hF⟩, hce, hcv, hcl, st⟩
  · cases hv
    obtain ⟨k1, k2, k3⟩ := vx_keep h0 e1 hS hA hf hL hF
    obtain ⟨t2, a1, b1⟩ := kk r u t T'.heap (locs ++ L) e1.symm (by rw [← e2]; exact X'.warmed.alike) hp hb k1 k2 k3 T' rfl X'
    exact ⟨t2, st t2 a1, b1⟩
  · obtain ⟨k1, k2, k3⟩ := vx_keep h0 e1 hS hAX hf hL hF
    obtain ⟨t2, a1, b1⟩ := kx E ce q u t T'.heap (locs ++ L) e1.symm (by rw [← e2]; exact X'.warmed.alike) hp hb k1 k2 k3 (by rw [e1]; exact hce) hcv hcl T' rfl X'
    exact ⟨t2, st.trans a1, b1⟩
theorem vx_callv {S SX : Type} {post : S → Prop} {px : SX → Prop} {B : S → State → Prop} {BX : String → SX → State → Prop} {AX : Nat → Prop} (hr : vx_Run p l e R s m args below meth c H locs cells slots mc ms (F0 m pc ls st0) rest (va_Qv post B A1 a) (vx_X px BX AX) free) (hS : va_S A0 H0 H locs) (hA : ∀ q, q < H.size → A1 q → A0 q) (hf : ∀ q, free q → A0 q) (hAX : ∀ q, q < H.size → AX q → A0 q)
    (kx : ∀ (E : String) (ce : Cell) (q9 : Addr) (u : SX) (t : State) (H1 : Heap) (locs1 : List Loc), t.heap = H1 → s.vm.Alike t.vm → px u → BX E u t → H.size ≤ H1.size → (∀ q : Nat, q < H.size → ¬ AX q → H1[q]? = H[q]?) → va_S A0 H0 H1 locs1 → H1[q9]? = some ce → ce.vm = .none → s.vm.findClass E = some ce.cls → vx_W p l e R s m args below meth c H1 locs1 (cells + mc) (slots + ms) Q (F0 m pc ls rest) q9)
    (kk : ∀ (u : S) (t : State) (H1 : Heap) (locs1 : List Loc), t.heap = H1 → s.vm.Alike t.vm → post u → B u t → H.size ≤ H1.size → (∀ q : Nat, q < H.size → ¬ A1 q → H1[q]? = H[q]?) → va_S A0 H0 H1 locs1 → W p l e R s m args below meth c H1 locs1 (cells + mc) (slots + ms) Q (F0 m (pc + 3) ls (rest))) : W p l e R s m args below meth c H locs cells slots Q (F0 m pc ls st0) := by
  intro T hT X
  rcases hr T hT X with ⟨v, st₀, t, T', L, h0, X', hL, e1, e2, ⟨⟨u, hv, hp, hb⟩, hF⟩, st⟩ | ⟨q, st₀, t, T', L, E, ce, h0, X', hL, e1, e2, ⟨u, hp, hb, hF⟩, hce, hcv, hcl, st⟩
  · cases hv
    obtain ⟨k1, k2, k3⟩ := vx_keep h0 e1 hS hA hf hL hF
    obtain ⟨t2, a1, b1⟩ := kk u t T'.heap (locs ++ L) e1.symm (by rw [← e2]; exact X'.warmed.alike) hp hb k1 k2 k3 T' rfl X'
    exact ⟨t2, st t2 a1, b1⟩
  · obtain ⟨k1, k2, k3⟩ := vx_keep h0 e1 hS hAX hf hL hF
    obtain ⟨t2, a1, b1⟩ := kx E ce q u t T'.heap (locs ++ L) e1.symm (by rw [← e2]; exact X'.warmed.alike) hp hb k1 k2 k3 (by rw [e1]; exact hce) hcv hcl T' rfl X'
    exact ⟨t2, st.trans a1, b1⟩
end Rows
section Ends
variable {p : Program} {l : Launch} {e : Env} {R : Room} {s : State} {m : MethodId} {args : Array Value} {below : List Frame} {meth : Method} {c : Code} {H : Heap} {locs : List Loc} {cells slots : Nat} {Q : State → Prop}
variable {mc ms : Nat} {free : Addr → Prop} {A0 A1 : Nat → Prop} {H0 : Heap} {a : Array Value} {ls : Array Slot} {st0 rest : List Value}
variable {Qc : Array Value → State → Outcome → State → Prop} {XC : String → State → State → Prop}
/-- what a body that may throw owes at its end -/
def vx_MQ (below : List Frame) (Qc : Array Value → State → Outcome → State → Prop) (XC : String → State → State → Prop) (a : Array Value) (s : State) (mc ms : Nat) (free : Addr → Prop) : State → Prop := fun t =>
  ∃ o, t.status = .running ∧ Ended t below o ∧ vx_Q Qc XC mc ms free a s o t
theorem vx_ret {g : JFrame} {mc ms : Nat} (k : W p l e R s m args below meth c H locs cells slots (MQ below Qc args s mc ms free) g) : W p l e R s m args below meth c H locs cells slots (vx_MQ below Qc XC args s mc ms free) g := by
  intro T hT X
  obtain ⟨t, a1, o, b1, b2, b3, b4⟩ := k T hT X
  exact ⟨t, a1, o, b1, b2, Or.inl ⟨b3, b4⟩⟩
/-- not caught here: it goes on to the caller -/
theorem vx_widen {g : JFrame} {q : Addr} {k n : Nat} (h1 : cells ≤ k) (h2 : slots ≤ n) (kk : vx_W p l e R s m args below meth c H locs k n Q g q) : vx_W p l e R s m args below meth c H locs cells slots Q g q := fun T hT X => kk T hT (stand_widen X h1 h2)
theorem vx_out {pc : Nat} {E : String} {ce : Cell} {q : Addr} {mc ms : Nat} (hout : ∀ x ∈ c.exceptionTable.toList, covers x pc = false) (hlocks : meth.locks = false) (hcell : H[q]? = some ce) (hv : ce.vm = .none) (hcl : s.vm.findClass E = some ce.cls)
    (hx : ∀ t : State, t.heap = H → s.vm.Alike t.vm → XC E s t) (hf : ∀ z ∈ locs, free z.base) (hc : cells ≤ mc) (hs : slots ≤ ms) :
    vx_W p l e R s m args below meth c H locs cells slots (vx_MQ below Qc XC args s mc ms free) (F0 m pc ls rest) q := by
  intro T hT X
  obtain ⟨st1, hrun, hend, hW, hsm⟩ := X.leaveThrown q (g := F0 m pc ls rest) rfl rfl rfl hout hlocks
  have hcell9 : (T.setFrames (.throwing q :: below)).heap[q]? = some ce := by
    show T.heap[q]? = some ce
    rw [hT]; exact hcell
  exact ⟨_, st1, .threw q, hrun, hend, Or.inr ⟨q, rfl, E, ce, locs, hx _ hT hW.alike, hcell9, hv, hcl, hW, hsm.mono hc hs, hf⟩⟩
theorem vx_frame {U : State} {k n : Nat} (h : s.sameButNew ({ U with vm := s.vm } : State) locs k n) : s.heap.size ≤ U.heap.size ∧ ∀ q : Nat, q < s.heap.size → (∀ z ∈ locs, z.base ≠ q) → U.heap[q]? = s.heap[q]? := by
  obtain ⟨-, h2, -, -, -, h6⟩ := h
  refine ⟨h2, fun q hq hz => ?_⟩
  obtain ⟨c9, e1, e2, e3, e4⟩ := h6 q _ (Array.getElem?_eq_getElem hq)
  have hs : c9.slots = (s.heap[q]).slots := Array.ext_getElem? fun i => e4 i fun hm => hz _ hm rfl
  have h9 : c9 = s.heap[q] := by
    rw [hs] at e2
    exact e2
  have e5 : U.heap[q]? = some c9 := e1
  rw [e5, h9, Array.getElem?_eq_getElem hq]
/-- the words of a throw but the four that speak of the heap -/
def vx_no (w : Cond) : Bool := decide (w ≠ .isRef (.static Bundle.tN "UNASSIGNED_STACK" Bundle.steD)) && decide (w ≠ .isRef (.static Bundle.tN "SUPPRESSED_SENTINEL" Bundle.listD)) && decide (w ≠ .laysStatic Bundle.tN "UNASSIGNED_STACK" Bundle.steD) && decide (w ≠ .laysStatic Bundle.tN "SUPPRESSED_SENTINEL" Bundle.listD)
def vx_at0 (own : String) (ic : Nat) (X : String) (names : List String) : List Cond := (Bundle.ownAtoms0 own ic X names).filter vx_no
def vx_atS (own : String) (ic : Nat) (X : String) (names : List String) : List Cond := (Bundle.ownAtoms own ic X names).filter vx_no
/-- a word that the tables alone decide, or a good one -/
def vx_ot (w : Cond) : Bool := w.onTables || goodWord w
theorem vx_ot_at {args a' : Array Value} {s U : State} {w : Cond} (hW : s.WarmedH U.vm) (hvm : s.vm = U.vm) (hg : vx_ot w = true) (h : w.before args s = true) : w.before a' U = true := by
  simp only [vx_ot, Bool.or_eq_true] at hg
  rcases hg with hg | hg
  · exact va_tabs hg hvm h
  · exact word_at hW (good_of_word hg) h
/-- a list's words: the good ones out of the method's own list, the others by premises of their own -/
theorem vx_hat {args : Array Value} {s : State} {L B : List Cond} (h1 : ∀ w ∈ L.filter goodWord, w.before args s = true) (h2 : ∀ w ∈ L.filter (fun w => !goodWord w), w ∈ B) (h3 : ∀ w ∈ B, w.before args s = true) : ∀ w ∈ L, w.before args s = true := by
  intro w hw
  by_cases g : goodWord w = true
  · exact h1 w (List.mem_filter.mpr ⟨hw, g⟩)
  · refine h3 w (h2 w (List.mem_filter.mpr ⟨hw, ?_⟩))
    show (!goodWord w) = true
    cases hgw : goodWord w
    · rfl
    · exact absurd hgw g
theorem vx_c {args : Array Value} {s : State} {w : Cond} {B : List Cond} (h : w.before args s = true) (t : ∀ w ∈ B, w.before args s = true) : ∀ w' ∈ w :: B, w'.before args s = true := fun w' h' => (List.mem_cons.mp h').elim (fun e => by rw [e]; exact h) (t w')
theorem vx_n {args : Array Value} {s : State} : ∀ w ∈ ([] : List Cond), w.before args s = true := fun _ h => nomatch h
theorem vx_own {args : Array Value} {s : State} {L : List Cond} (h1 : ∀ w ∈ L.filter vx_no, w.before args s = true)
    (hU : (Cond.isRef (.static Bundle.tN "UNASSIGNED_STACK" Bundle.steD)).before args s = true) (hN : (Cond.isRef (.static Bundle.tN "SUPPRESSED_SENTINEL" Bundle.listD)).before args s = true)
    (lU : (Cond.laysStatic Bundle.tN "UNASSIGNED_STACK" Bundle.steD).before args s = true) (lN : (Cond.laysStatic Bundle.tN "SUPPRESSED_SENTINEL" Bundle.listD).before args s = true) : ∀ w ∈ L, w.before args s = true := by
  intro w hw
  by_cases e1 : w = .isRef (.static Bundle.tN "UNASSIGNED_STACK" Bundle.steD)
  · rw [e1]; exact hU
  · by_cases e2 : w = .isRef (.static Bundle.tN "SUPPRESSED_SENTINEL" Bundle.listD)
    · rw [e2]; exact hN
    · by_cases e3 : w = .laysStatic Bundle.tN "UNASSIGNED_STACK" Bundle.steD
      · rw [e3]; exact lU
      · by_cases e4 : w = .laysStatic Bundle.tN "SUPPRESSED_SENTINEL" Bundle.listD
        · rw [e4]; exact lN
        · exact h1 w (List.mem_filter.mpr ⟨hw, by unfold vx_no; rw [decide_eq_true e1, decide_eq_true e2, decide_eq_true e3, decide_eq_true e4]; rfl⟩)
/-- where a static field lies, its class's statics cell in H -/
def vx_L (C n d : String) (A : Nat → Prop) (U : State) (H : Heap) : Prop := ∃ (c : ClassId) (k : Class) (i : Nat) (f : Field) (a : Nat) (cell : Cell), U.vm.findClass C = some c ∧ U.fieldFound? C n d = some (c, k, i, f) ∧ f.isStatic = true ∧ k.statics = some a ∧ H[a]? = some cell ∧ cell.vm.isStatics = true ∧ cell.cls = c ∧ f.slot < cell.slots.size ∧ k.staticTypes[f.slot]? = some f.type ∧ ¬ A a
theorem vx_L.moved {C n d : String} {A : Nat → Prop} {u U : State} {H : Heap} (hvm : u.vm.Alike U.vm) (h : vx_L C n d A u H) : vx_L C n d A U H := by
  obtain ⟨c, k, i, f, a, cell, h1, h2, h3, h4, h5, h6, h7, h8, h9, h10⟩ := h
  obtain ⟨k', hi', he⟩ := State.fieldFound?_setVm hvm h2
  exact ⟨c, k', i, f, a, cell, by rw [hvm.findClass]; exact h1, hi', h3, by rw [he]; exact h4, h5, h6, h7, h8, by rw [he]; exact h9, h10⟩
theorem vx_L.kept {C n d : String} {A : Nat → Prop} {U : State} {H H1 : Heap} (h : vx_L C n d A U H) (hq : ∀ a : Nat, a < H.size → ¬ A a → H1[a]? = H[a]?) : vx_L C n d A U H1 := by
  obtain ⟨c, k, i, f, a, cell, h1, h2, h3, h4, h5, h6, h7, h8, h9, h10⟩ := h
  exact ⟨c, k, i, f, a, cell, h1, h2, h3, h4, by rw [hq a (Array.getElem?_eq_some_iff.mp h5).1 h10]; exact h5, h6, h7, h8, h9, h10⟩
theorem vx_L.narrow {C n d : String} {A B : Nat → Prop} {U : State} {H : Heap} (h : vx_L C n d A U H) (hAB : ∀ q, B q → A q) : vx_L C n d B U H := by
  obtain ⟨c, k, i, f, a, cell, h1, h2, h3, h4, h5, h6, h7, h8, h9, h10⟩ := h
  exact ⟨c, k, i, f, a, cell, h1, h2, h3, h4, h5, h6, h7, h8, h9, fun z => h10 (hAB _ z)⟩
theorem vx_L.word {C n d : String} {A : Nat → Prop} {s : State} {args : Array Value} (h : vx_L C n d A s s.heap) : (Cond.laysStatic C n d).before args s = true := by
  obtain ⟨c, k, i, f, a, cell, h1, h2, h3, h4, h5, h6, h7, h8, h9, -⟩ := h
  show (Cond.laysStatic C n d).holds args s none s [] = true
  exact Cond.laysStatic_of h1 h2 h3 h4 h5 h6 h7 h8 h9
/-- .. and what it holds: null or some reference -/
def vx_Zq (C n d : String) (A : Nat → Prop) (U : State) (H : Heap) : Prop := va_Zq C n d A U H ∧ vx_L C n d A U H
theorem vx_Zq.moved {C n d : String} {A : Nat → Prop} {u U : State} {H : Heap} (hvm : u.vm.Alike U.vm) (h : vx_Zq C n d A u H) : vx_Zq C n d A U H := ⟨va_Zq.moved hvm h.1, vx_L.moved hvm h.2⟩
theorem vx_Zq.kept {C n d : String} {A : Nat → Prop} {U : State} {H H1 : Heap} (h : vx_Zq C n d A U H) (hq : ∀ a : Nat, a < H.size → ¬ A a → H1[a]? = H[a]?) : vx_Zq C n d A U H1 := ⟨va_Zq.kept h.1 hq, vx_L.kept h.2 hq⟩
theorem vx_Zq.narrow {C n d : String} {A B : Nat → Prop} {U : State} {H : Heap} (h : vx_Zq C n d A U H) (hAB : ∀ q, B q → A q) : vx_Zq C n d B U H := ⟨va_Zq.narrow h.1 hAB, vx_L.narrow h.2 hAB⟩
theorem vx_Zqof {args : Array Value} {s : State} {C n d : String} {A : Nat → Prop} (hl : (Cond.laysStatic C n d).before args s = true) (hini : (Cond.initialized C).before args s = true) (h : (Cond.isRef (.static C n d)).before args s = true) (hA : ∀ a : Nat, a < s.heap.size → ¬ A a) : vx_Zq C n d A s s.heap := by
  refine ⟨va_Zqof hl hini h hA, ?_⟩
  obtain ⟨c, k, i, f, a, cell, h1, h2, h3, h4, h5, h6, h7, h8, h9⟩ := Cond.laysStatic_spec hl
  exact ⟨c, k, i, f, a, cell, h1, h2, h3, h4, h5, h6, h7, h8, h9, hA a (Array.getElem?_eq_some_iff.mp h5).1⟩
theorem vx_isRef {C n d : String} {v : Value} {A : Nat → Prop} {s : State} {args : Array Value} (h : va_Z C n d v A s s.heap) (hv : v.isRef = true) : (Cond.isRef (.static C n d)).before args s = true := by
  obtain ⟨cf, kf, fi, f, a, cell, h1, h2, h3, h4, h5, h6, h7, -⟩ := h
  have he : (Term.static C n d).eval args s none [] s = some v := by
    simp [Term.eval, State.fieldNamed?, h1, h2, h4, h5, h6, h7]
  simp only [Cond.before, Cond.holds, Cond.value, he]
  cases v <;> simp_all [Value.isRef]
theorem vx_isRefq {C n d : String} {A : Nat → Prop} {s : State} {args : Array Value} (h : va_Zq C n d A s s.heap) : (Cond.isRef (.static C n d)).before args s = true := by
  rcases h with h | ⟨t, h⟩
  · exact vx_isRef h rfl
  · exact vx_isRef h rfl
/-- the same frame, seen from here: as if the method were called anew in this heap -/
theorem vx_rebase {T : State} (X : Stand p l e R s m args below meth c T locs cells slots) {R' : Room} (hf : R'.frames ≤ R.frames) (hl : R'.locals ≤ R.locals) (hc : cells + R'.cells ≤ R.cells) (hs : slots + R'.slots ≤ R.slots) :
    Stand p l e R' ((T.setVm s.vm).setFrames (.invoking m args :: below)) m args below meth c T [] 0 0 := by
  have htop : (T.setVm s.vm).topJava?.isSome := X.here.top
  have hF : ((T.setVm s.vm).setFrames (.invoking m args :: below)).frames = .invoking m args :: below := State.frames_setFrames _ (State.cur_lt_of_top htop)
  obtain ⟨g₀, hg0⟩ := Option.isSome_iff_exists.mp htop
  obtain ⟨r, hr⟩ := State.topJava?_eq_some.mp hg0
  have hl9 : e.platform.stackLimits (T.setVm s.vm).me = e.platform.stackLimits s.me := X.limits
  have hb9 : (T.setVm s.vm).me.stackBytes = s.me.stackBytes := X.bytes
  refine ⟨X.admits, X.cas, X.clock, hF, ?_, X.hears, X.method, X.code, X.here, X.tail, X.warmed, ?_, ?_, ?_⟩
  · have h := X.room
    have hU : ((T.setVm s.vm).setFrames (.invoking m args :: below)).localsInUse = s.localsInUse := by
      rw [State.localsInUse_invoking hF (meth := meth) (c := c) X.method X.code, State.localsInUse_invoking X.frames X.method X.code]
    simp only [State.hasRoom, Bool.and_eq_true, decide_eq_true_eq] at h ⊢
    obtain ⟨⟨⟨⟨h1, h2, h3, h4, h5, h6⟩, h7⟩, h8⟩, h9⟩ := h
    rw [X.frames, List.length_cons] at h2 h3
    have q1 := X.heapSize
    have q2 := X.used
    simp only [hF, hU, List.length_cons, State.stackLimits_setFrames, State.stackBytes_setFrames, hl9, hb9]
    refine ⟨⟨⟨⟨by omega, by omega, by omega, by omega, by omega, h6⟩, ?_⟩, ?_⟩, X.book⟩
    · show T.heap.size + R'.cells ≤ e.platform.maxCells
      omega
    · show T.slotsUsed + R'.slots ≤ e.platform.maxSlots
      omega
  · rw [State.stackLimits_setFrames]; rfl
  · rw [State.stackBytes_setFrames]; rfl
  · refine ⟨?_, Nat.le_refl _, Nat.le_refl _, ?_, ?_, fun a c9 h9 => ⟨c9, h9, rfl, rfl, fun _ _ => rfl⟩⟩
    · obtain ⟨t, ht, -⟩ := State.frames_cons hr
      show T.setVm s.vm = { ((T.setVm s.vm).setFrames (.invoking m args :: below)).setFrames (T.setVm s.vm).frames with heap := T.heap, slotsUsed := T.slotsUsed }
      rw [State.setFrames_setFrames, State.setFrames_self ht]
      rfl
    · show T.slotsUsed = T.slotsUsed + ((T.heap.toList.drop T.heap.size).map (·.slots.size)).sum
      rw [List.drop_eq_nil_of_le (Nat.le_of_eq Array.length_toList)]
      rfl
    · show ((T.heap.toList.drop T.heap.size).map (·.slots.size)).sum ≤ 0
      rw [List.drop_eq_nil_of_le (Nat.le_of_eq Array.length_toList)]
      exact Nat.le_refl _
/-- 'throw new E()': new; dup; invokespecial; athrow -/
theorem vx_throw0 {cc : ByteArray} {pc : Nat} (hexec : p.tables.exec = Jvm.exec) (hb : c.code = cc) (hl : l.stackTraces = false) {own cls : String} {names : List String} {ik ic mc ms : Nat} {A : Nat → Prop}
    (hown : s.vm.findClass own = some m.cls) (hcls : Bundle.fit cls = true) (hnames : ∀ n ∈ names, Bundle.fit n = true)
    (hk : (Cond.classLink own ik cls).before args s = true) (hini : (Cond.initialized cls).before args s = true) (hat : ∀ w ∈ vx_at0 own ic cls names, w.before args s = true)
    (hgood : ∀ w ∈ Cond.classLink own ik cls :: Cond.initialized cls :: vx_at0 own ic cls names, vx_ot w = true)
    (hU : vx_Zq Bundle.tN "UNASSIGNED_STACK" Bundle.steD A s s.heap) (hN : vx_Zq Bundle.tN "SUPPRESSED_SENTINEL" Bundle.listD A s s.heap) (hS : va_S A s.heap H locs) (hsize : ls.size = c.maxLocals)
    (d0 : decode cc pc = .ok (.new ik, 3)) (d3 : decode cc (pc + 3) = .ok (.dup, 1)) (d4 : decode cc (pc + 4) = .ok (.invokespecial ic, 3)) (d7 : decode cc (pc + 7) = .ok (.athrow, 1))
    (hout : ∀ x ∈ c.exceptionTable.toList, covers x (pc + 7) = false)
    (hRframes : names.length + 3 < R.frames) (hRlocals : (rest.map fun v => v.category).sum + (13 * (names.length + 1) + 42) ≤ R.locals) (hRcells : cells + 1 ≤ R.cells) (hRslots : slots + 6 ≤ R.slots) (hlocks : meth.locks = false)
    (hx : ∀ t : State, s.vm.Alike t.vm → H.size ≤ t.heap.size → (∀ q : Nat, q < H.size → t.heap[q]? = H[q]?) → XC cls s t)
    (hf : ∀ z ∈ locs, free z.base) (hc : cells + 1 ≤ mc) (hs : slots + 6 ≤ ms) :
    W p l e R s m args below meth c H locs cells slots (vx_MQ below Qc XC args s mc ms free) (F0 m pc ls rest) := by
  intro T hT X
  have htr : e.platform.stackTraces = false := (show e.platform.stackTraces = l.stackTraces by rw [X.admits.platform]).trans hl
  have Y := vx_rebase X (R' := { frames := R.frames, locals := R.locals, cells := 1, slots := 6 }) (Nat.le_refl _) (Nat.le_refl _) hRcells hRslots
  obtain ⟨s', hA⟩ : ∃ z, z = (T.setVm s.vm).setFrames (.invoking m args :: below) := ⟨_, rfl⟩
  rw [← hA] at Y
  have hvm : s'.vm = s.vm := by rw [hA]; rfl
  have hhp : s'.heap = H := by rw [hA]; exact hT
  have hW0 : s.WarmedH s'.vm := by rw [hvm]; exact State.WarmedH.refl s
  have hat' : ∀ w ∈ vx_at0 own ic cls names, w.before args s' = true := fun w hw => vx_ot_at hW0 hvm.symm (hgood w (List.mem_cons_of_mem _ (List.mem_cons_of_mem _ hw))) (hat w hw)
  have hk' : (Cond.classLink own ik cls).before args s' = true := vx_ot_at hW0 hvm.symm (hgood _ List.mem_cons_self) hk
  have hini' : (Cond.initialized cls).before args s' = true := vx_ot_at hW0 hvm.symm (hgood _ (List.mem_cons_of_mem _ List.mem_cons_self)) hini
  have hU' : vx_Zq Bundle.tN "UNASSIGNED_STACK" Bundle.steD A s' s'.heap := by rw [hhp]; exact vx_Zq.moved hW0.alike (hU.kept hS.2.1)
  have hN' : vx_Zq Bundle.tN "SUPPRESSED_SENTINEL" Bundle.listD A s' s'.heap := by rw [hhp]; exact vx_Zq.moved hW0.alike (hN.kept hS.2.1)
  have h : ∀ w ∈ Bundle.ownAtoms0 own ic cls names, w.before args s' = true := vx_own hat' (vx_isRefq hU'.1) (vx_isRefq hN'.1) hU'.2.word hN'.2.word
  have hown' : s'.vm.findClass own = some m.cls := by rw [hvm]; exact hown
  have hins : (Cond.instantiable cls 6).before args s' = true := h _ (by simp [Bundle.ownAtoms0])
  obtain ⟨vm₁, cX, kX, hfX, hkX, -, -, X₁, st1⟩ := Y.newCold hexec (own := own) (C := cls) (index := ik) (n := 6) hown' hk' hins hini'
    (g := F0 m pc ls rest) rfl (by rw [hb]; exact d0) (Nat.le_refl _) (Nat.le_refl _)
  generalize hT1 : (T.setVm vm₁).pushCell { cls := cX, slots := kX.instanceTypes.map defaultValue, vm := .none } = T1 at X₁ st1
  have hcat : (Value.ref T.heap.size).category = 1 := rfl
  have hcellA : T1.heap[T.heap.size]? = some (freshCell cX kX) := by rw [← hT1]; exact State.heap_pushCell_size _ _
  have d3' : decode c.code (pc + 3) = .ok (.dup, 1) := by rw [hb]; exact d3
  obtain ⟨U, hsteps, hrun, hend, hW, hsame, ce, hce, hO⟩ := X₁.ctorThrow0 hexec htr (own := own) (cls := cls) (names := names) (ic := ic) hown' hcls hnames h (fun x hx => nomatch hx) hfX hkX hcellA (by rw [hhp, hT]; exact Nat.le_refl _)
    (g := { method := m, pc := pc + 4, locals := ls, stack := .ref T.heap.size :: .ref T.heap.size :: rest, locked := none }) rfl hsize rfl rfl (rest := rest) rfl
    (by rw [hb]; exact d4) (by rw [hb]; exact d7) hout hRframes (by simp only [List.map_cons, List.sum_cons, hcat]; omega) hlocks
  obtain ⟨f1, f2⟩ := vx_frame hsame
  rw [hhp] at f1 f2
  have hWs : s.WarmedH U.vm := State.WarmedH.trans hW0 hW
  have hcl : s.vm.findClass cls = some ce.cls := by
    have h9 := hO.cls
    rw [hvm] at h9
    exact h9
  have hall : s.sameButNew ({ U with vm := s.vm } : State) locs mc ms := by
    subst hA
    obtain ⟨e1, e2⟩ := hsame
    rw [State.setFrames_setFrames] at e1
    have h2 : (T.setVm s.vm).sameButNew ({ U with vm := s.vm } : State) [] (0 + 1) (0 + 6) := ⟨e1, e2⟩
    have h3 := X.same.trans h2
    rw [List.append_nil] at h3
    exact h3.mono hc hs
  refine ⟨U, ?_, .threw T.heap.size, hrun, hend, Or.inr ⟨T.heap.size, rfl, cls, ce, locs, hx U hWs.alike f1 (fun q hq => f2 q hq (fun z hz => nomatch hz)), hce, hO.vm, hcl, hWs, hall, hf⟩⟩
  refine st1 _ ?_
  show Steps p.tables e below (T1.setTop { method := m, pc := pc + 3, locals := ls, stack := .ref T.heap.size :: rest, locked := none }) _
  jvm_step X₁.here [X₁.here.top, hexec, d3', Value.category]
  exact hsteps
/-- 'throw new E("text")': new; dup; ldc; invokespecial; athrow -/
theorem vx_throwS {cc : ByteArray} {pc : Nat} (hexec : p.tables.exec = Jvm.exec) (hb : c.code = cc) (hl : l.stackTraces = false) {own cls text : String} {names : List String} {ik is ic mc ms sa : Nat} {A : Nat → Prop}
    (hown : s.vm.findClass own = some m.cls) (hcls : Bundle.fit cls = true) (hnames : ∀ n ∈ names, Bundle.fit n = true)
    (hk : (Cond.classLink own ik cls).before args s = true) (hini : (Cond.initialized cls).before args s = true) (hstr : vk_R own is text sa s) (hat : ∀ w ∈ vx_atS own ic cls names, w.before args s = true)
    (hgood : ∀ w ∈ Cond.classLink own ik cls :: Cond.initialized cls :: vx_atS own ic cls names, vx_ot w = true)
    (hU : vx_Zq Bundle.tN "UNASSIGNED_STACK" Bundle.steD A s s.heap) (hN : vx_Zq Bundle.tN "SUPPRESSED_SENTINEL" Bundle.listD A s s.heap) (hS : va_S A s.heap H locs) (hsize : ls.size = c.maxLocals)
    (d0 : decode cc pc = .ok (.new ik, 3)) (d3 : decode cc (pc + 3) = .ok (.dup, 1)) (d4 : decode cc (pc + 4) = .ok (.ldc is, 2)) (d6 : decode cc (pc + 6) = .ok (.invokespecial ic, 3)) (d9 : decode cc (pc + 9) = .ok (.athrow, 1))
    (hout : ∀ x ∈ c.exceptionTable.toList, covers x (pc + 9) = false)
    (hRframes : names.length + 3 < R.frames) (hRlocals : (rest.map fun v => v.category).sum + (13 * (names.length + 1) + 43) ≤ R.locals) (hRcells : cells + 1 ≤ R.cells) (hRslots : slots + 6 ≤ R.slots) (hlocks : meth.locks = false)
    (hx : ∀ t : State, s.vm.Alike t.vm → H.size ≤ t.heap.size → (∀ q : Nat, q < H.size → t.heap[q]? = H[q]?) → XC cls s t)
    (hf : ∀ z ∈ locs, free z.base) (hc : cells + 1 ≤ mc) (hs : slots + 6 ≤ ms) :
    W p l e R s m args below meth c H locs cells slots (vx_MQ below Qc XC args s mc ms free) (F0 m pc ls rest) := by
  intro T hT X
  have htr : e.platform.stackTraces = false := (show e.platform.stackTraces = l.stackTraces by rw [X.admits.platform]).trans hl
  have Y := vx_rebase X (R' := { frames := R.frames, locals := R.locals, cells := 1, slots := 6 }) (Nat.le_refl _) (Nat.le_refl _) hRcells hRslots
  obtain ⟨s', hA⟩ : ∃ z, z = (T.setVm s.vm).setFrames (.invoking m args :: below) := ⟨_, rfl⟩
  rw [← hA] at Y
  have hvm : s'.vm = s.vm := by rw [hA]; rfl
  have hhp : s'.heap = H := by rw [hA]; exact hT
  have hW0 : s.WarmedH s'.vm := by rw [hvm]; exact State.WarmedH.refl s
  have hat' : ∀ w ∈ vx_atS own ic cls names, w.before args s' = true := fun w hw => vx_ot_at hW0 hvm.symm (hgood w (List.mem_cons_of_mem _ (List.mem_cons_of_mem _ hw))) (hat w hw)
  have hk' : (Cond.classLink own ik cls).before args s' = true := vx_ot_at hW0 hvm.symm (hgood _ List.mem_cons_self) hk
  have hini' : (Cond.initialized cls).before args s' = true := vx_ot_at hW0 hvm.symm (hgood _ (List.mem_cons_of_mem _ List.mem_cons_self)) hini
  have hU' : vx_Zq Bundle.tN "UNASSIGNED_STACK" Bundle.steD A s' s'.heap := by rw [hhp]; exact vx_Zq.moved hW0.alike (hU.kept hS.2.1)
  have hN' : vx_Zq Bundle.tN "SUPPRESSED_SENTINEL" Bundle.listD A s' s'.heap := by rw [hhp]; exact vx_Zq.moved hW0.alike (hN.kept hS.2.1)
  have h : ∀ w ∈ Bundle.ownAtoms own ic cls names, w.before args s' = true := vx_own hat' (vx_isRefq hU'.1) (vx_isRefq hN'.1) hU'.2.word hN'.2.word
  have hown' : s'.vm.findClass own = some m.cls := by rw [hvm]; exact hown
  have hins : (Cond.instantiable cls 6).before args s' = true := h _ (by simp [Bundle.ownAtoms])
  obtain ⟨vm₁, cX, kX, hfX, hkX, -, -, X₁, st1⟩ := Y.newCold hexec (own := own) (C := cls) (index := ik) (n := 6) hown' hk' hins hini'
    (g := F0 m pc ls rest) rfl (by rw [hb]; exact d0) (Nat.le_refl _) (Nat.le_refl _)
  generalize hT1 : (T.setVm vm₁).pushCell { cls := cX, slots := kX.instanceTypes.map defaultValue, vm := .none } = T1 at X₁ st1
  have hcat : (Value.ref T.heap.size).category = 1 := rfl
  have hcellA : T1.heap[T.heap.size]? = some (freshCell cX kX) := by rw [← hT1]; exact State.heap_pushCell_size _ _
  have d3' : decode c.code (pc + 3) = .ok (.dup, 1) := by rw [hb]; exact d3
  have d4' : decode c.code (pc + 4) = .ok (.ldc is, 2) := by rw [hb]; exact d4
  have hstr' : vk_R own is text sa s' := vk_R.warm hW0 hstr
  obtain ⟨U, hsteps, hrun, hend, hW, hsame, ce, hce, hO⟩ := X₁.ctorThrowS hexec htr (own := own) (cls := cls) (names := names) (ic := ic) hown' hcls hnames h (fun x hx => nomatch hx) hfX hkX hcellA (by rw [hhp, hT]; exact Nat.le_refl _) (msg := .ref sa) rfl
    (g := { method := m, pc := pc + 6, locals := ls, stack := .ref sa :: .ref T.heap.size :: .ref T.heap.size :: rest, locked := none }) rfl hsize rfl rfl (rest := rest) rfl
    (by rw [hb]; exact d6) (by rw [hb]; exact d9) hout hRframes (by simp only [List.map_cons, List.sum_cons, hcat]; omega) hlocks
  obtain ⟨f1, f2⟩ := vx_frame hsame
  rw [hhp] at f1 f2
  have hWs : s.WarmedH U.vm := State.WarmedH.trans hW0 hW
  have hcl : s.vm.findClass cls = some ce.cls := by
    have h9 := hO.cls
    rw [hvm] at h9
    exact h9
  have hall : s.sameButNew ({ U with vm := s.vm } : State) locs mc ms := by
    subst hA
    obtain ⟨e1, e2⟩ := hsame
    rw [State.setFrames_setFrames] at e1
    have h2 : (T.setVm s.vm).sameButNew ({ U with vm := s.vm } : State) [] (0 + 1) (0 + 6) := ⟨e1, e2⟩
    have h3 := X.same.trans h2
    rw [List.append_nil] at h3
    exact h3.mono hc hs
  refine ⟨U, ?_, .threw T.heap.size, hrun, hend, Or.inr ⟨T.heap.size, rfl, cls, ce, locs, hx U hWs.alike f1 (fun q hq => f2 q hq (fun z hz => nomatch hz)), hce, hO.vm, hcl, hWs, hall, hf⟩⟩
  refine st1 _ ?_
  show Steps p.tables e below (T1.setTop { method := m, pc := pc + 3, locals := ls, stack := .ref T.heap.size :: rest, locked := none }) _
  jvm_step X₁.here [X₁.here.top, hexec, d3', Value.category]
  exact X₁.ldcString hexec (own := own) (text := text) (index := is) (a := sa) hown' hstr'.1 hstr'.2
    (g := { method := m, pc := pc + 4, locals := ls, stack := .ref T.heap.size :: .ref T.heap.size :: rest, locked := none }) rfl d4' _ hsteps
/-- 'throw new E("text")', the text by a wide index -/
theorem vx_throwSW {cc : ByteArray} {pc : Nat} (hexec : p.tables.exec = Jvm.exec) (hb : c.code = cc) (hl : l.stackTraces = false) {own cls text : String} {names : List String} {ik is ic mc ms sa : Nat} {A : Nat → Prop}
    (hown : s.vm.findClass own = some m.cls) (hcls : Bundle.fit cls = true) (hnames : ∀ n ∈ names, Bundle.fit n = true)
    (hk : (Cond.classLink own ik cls).before args s = true) (hini : (Cond.initialized cls).before args s = true) (hstr : vk_R own is text sa s) (hat : ∀ w ∈ vx_atS own ic cls names, w.before args s = true)
    (hgood : ∀ w ∈ Cond.classLink own ik cls :: Cond.initialized cls :: vx_atS own ic cls names, vx_ot w = true)
    (hU : vx_Zq Bundle.tN "UNASSIGNED_STACK" Bundle.steD A s s.heap) (hN : vx_Zq Bundle.tN "SUPPRESSED_SENTINEL" Bundle.listD A s s.heap) (hS : va_S A s.heap H locs) (hsize : ls.size = c.maxLocals)
    (d0 : decode cc pc = .ok (.new ik, 3)) (d3 : decode cc (pc + 3) = .ok (.dup, 1)) (d4 : decode cc (pc + 4) = .ok (.ldc_w is, 3)) (d7 : decode cc (pc + 7) = .ok (.invokespecial ic, 3)) (d10 : decode cc (pc + 10) = .ok (.athrow, 1))
    (hout : ∀ x ∈ c.exceptionTable.toList, covers x (pc + 10) = false)
    (hRframes : names.length + 3 < R.frames) (hRlocals : (rest.map fun v => v.category).sum + (13 * (names.length + 1) + 43) ≤ R.locals) (hRcells : cells + 1 ≤ R.cells) (hRslots : slots + 6 ≤ R.slots) (hlocks : meth.locks = false)
    (hx : ∀ t : State, s.vm.Alike t.vm → H.size ≤ t.heap.size → (∀ q : Nat, q < H.size → t.heap[q]? = H[q]?) → XC cls s t)
    (hf : ∀ z ∈ locs, free z.base) (hc : cells + 1 ≤ mc) (hs : slots + 6 ≤ ms) :
    W p l e R s m args below meth c H locs cells slots (vx_MQ below Qc XC args s mc ms free) (F0 m pc ls rest) := by
  intro T hT X
  have htr : e.platform.stackTraces = false := (show e.platform.stackTraces = l.stackTraces by rw [X.admits.platform]).trans hl
  have Y := vx_rebase X (R' := { frames := R.frames, locals := R.locals, cells := 1, slots := 6 }) (Nat.le_refl _) (Nat.le_refl _) hRcells hRslots
  obtain ⟨s', hA⟩ : ∃ z, z = (T.setVm s.vm).setFrames (.invoking m args :: below) := ⟨_, rfl⟩
  rw [← hA] at Y
  have hvm : s'.vm = s.vm := by rw [hA]; rfl
  have hhp : s'.heap = H := by rw [hA]; exact hT
  have hW0 : s.WarmedH s'.vm := by rw [hvm]; exact State.WarmedH.refl s
  have hat' : ∀ w ∈ vx_atS own ic cls names, w.before args s' = true := fun w hw => vx_ot_at hW0 hvm.symm (hgood w (List.mem_cons_of_mem _ (List.mem_cons_of_mem _ hw))) (hat w hw)
  have hk' : (Cond.classLink own ik cls).before args s' = true := vx_ot_at hW0 hvm.symm (hgood _ List.mem_cons_self) hk
  have hini' : (Cond.initialized cls).before args s' = true := vx_ot_at hW0 hvm.symm (hgood _ (List.mem_cons_of_mem _ List.mem_cons_self)) hini
  have hU' : vx_Zq Bundle.tN "UNASSIGNED_STACK" Bundle.steD A s' s'.heap := by rw [hhp]; exact vx_Zq.moved hW0.alike (hU.kept hS.2.1)
  have hN' : vx_Zq Bundle.tN "SUPPRESSED_SENTINEL" Bundle.listD A s' s'.heap := by rw [hhp]; exact vx_Zq.moved hW0.alike (hN.kept hS.2.1)
  have h : ∀ w ∈ Bundle.ownAtoms own ic cls names, w.before args s' = true := vx_own hat' (vx_isRefq hU'.1) (vx_isRefq hN'.1) hU'.2.word hN'.2.word
  have hown' : s'.vm.findClass own = some m.cls := by rw [hvm]; exact hown
  have hins : (Cond.instantiable cls 6).before args s' = true := h _ (by simp [Bundle.ownAtoms])
  obtain ⟨vm₁, cX, kX, hfX, hkX, -, -, X₁, st1⟩ := Y.newCold hexec (own := own) (C := cls) (index := ik) (n := 6) hown' hk' hins hini'
    (g := F0 m pc ls rest) rfl (by rw [hb]; exact d0) (Nat.le_refl _) (Nat.le_refl _)
  generalize hT1 : (T.setVm vm₁).pushCell { cls := cX, slots := kX.instanceTypes.map defaultValue, vm := .none } = T1 at X₁ st1
  have hcat : (Value.ref T.heap.size).category = 1 := rfl
  have hcellA : T1.heap[T.heap.size]? = some (freshCell cX kX) := by rw [← hT1]; exact State.heap_pushCell_size _ _
  have d3' : decode c.code (pc + 3) = .ok (.dup, 1) := by rw [hb]; exact d3
  have d4' : decode c.code (pc + 4) = .ok (.ldc_w is, 3) := by rw [hb]; exact d4
  have hstr' : vk_R own is text sa s' := vk_R.warm hW0 hstr
  obtain ⟨U, hsteps, hrun, hend, hW, hsame, ce, hce, hO⟩ := X₁.ctorThrowS hexec htr (own := own) (cls := cls) (names := names) (ic := ic) hown' hcls hnames h (fun x hx => nomatch hx) hfX hkX hcellA (by rw [hhp, hT]; exact Nat.le_refl _) (msg := .ref sa) rfl
    (g := { method := m, pc := pc + 7, locals := ls, stack := .ref sa :: .ref T.heap.size :: .ref T.heap.size :: rest, locked := none }) rfl hsize rfl rfl (rest := rest) rfl
    (by rw [hb]; exact d7) (by rw [hb]; exact d10) hout hRframes (by simp only [List.map_cons, List.sum_cons, hcat]; omega) hlocks
  obtain ⟨f1, f2⟩ := vx_frame hsame
  rw [hhp] at f1 f2
  have hWs : s.WarmedH U.vm := State.WarmedH.trans hW0 hW
  have hcl : s.vm.findClass cls = some ce.cls := by
    have h9 := hO.cls
    rw [hvm] at h9
    exact h9
  have hall : s.sameButNew ({ U with vm := s.vm } : State) locs mc ms := by
    subst hA
    obtain ⟨e1, e2⟩ := hsame
    rw [State.setFrames_setFrames] at e1
    have h2 : (T.setVm s.vm).sameButNew ({ U with vm := s.vm } : State) [] (0 + 1) (0 + 6) := ⟨e1, e2⟩
    have h3 := X.same.trans h2
    rw [List.append_nil] at h3
    exact h3.mono hc hs
  refine ⟨U, ?_, .threw T.heap.size, hrun, hend, Or.inr ⟨T.heap.size, rfl, cls, ce, locs, hx U hWs.alike f1 (fun q hq => f2 q hq (fun z hz => nomatch hz)), hce, hO.vm, hcl, hWs, hall, hf⟩⟩
  refine st1 _ ?_
  show Steps p.tables e below (T1.setTop { method := m, pc := pc + 3, locals := ls, stack := .ref T.heap.size :: rest, locked := none }) _
  jvm_step X₁.here [X₁.here.top, hexec, d3', Value.category]
  exact X₁.ldcStringW hexec (own := own) (text := text) (index := is) (a := sa) hown' hstr'.1 hstr'.2
    (g := { method := m, pc := pc + 4, locals := ls, stack := .ref T.heap.size :: .ref T.heap.size :: rest, locked := none }) rfl d4' _ hsteps
end Ends
section Bodies
variable {l : Launch}
theorem vx_ofW {y : MethodName} {ws ws' : List Cond} {rm : Room} {Pc : Array Value → State → Prop} {Qc : Array Value → State → Outcome → State → Prop} {XC : String → State → State → Prop} {mc ms : Nat} {free : Addr → Prop} {cc : ByteArray} {maxL : Nat} {ret : Option FieldType}
    (hy : plainName y.cls = true) (hw : ws = Cond.code y cc maxL ret :: ws')
    (body : ∀ p e s m args below meth c s₁, BodyLoose p l y (headSpec ws rm) cc maxL ret e s m args below meth c s₁ → c.maxLocals = maxL → (∀ x ∈ c.exceptionTable.toList, False) → Pc args s →
      W p l e (headSpec ws rm).room s m args below meth c s.heap [] 0 0 (vx_MQ below Qc XC args s mc ms free) (entryFrame m args maxL)) : vx_Met l y ws rm Pc Qc XC mc ms free := by
  refine MetFree.of_bodyS (code := cc) (maxLocals := maxL) (ret := ret) hy ?_ ?_
  · intro args s m h hn
    obtain ⟨meth, c, h1, h2, h3, h4, h5, h6, -, -⟩ := Cond.code_spec hn (atoms_spec (ws := ws) h _ (by rw [hw]; exact List.mem_cons_self))
    exact ⟨meth, c, h1, h2, h3, h4, h5, h6⟩
  · intro p e s m args below meth c s₁ B hml hP _
    have hh0 : s₁.heap = s.heap := by rw [B.state]; rfl
    have ht : ∀ x ∈ c.exceptionTable.toList, False := by
      obtain ⟨meth9, c9, h1, h2, -, -, -, -, h7, -⟩ := Cond.code_spec B.named (atoms_spec (ws := ws) B.pre _ (by rw [hw]; exact List.mem_cons_self))
      cases Option.some.inj (h1.symm.trans B.method)
      cases Option.some.inj (h2.symm.trans (Stand.of_body B).code)
      intro x hx
      rw [Array.isEmpty_iff.mp h7] at hx
      cases hx
    obtain ⟨t, a1, o, b1, b2, b3⟩ := body p e s m args below meth c s₁ B hml ht hP s₁ hh0 (Stand.of_body B)
    exact ⟨t, o, a1, b1, b2, b3⟩
/-- the table of a body with handlers -/
theorem vx_table {p : Program} {x y : MethodName} {S : Spec} {cc bytes : ByteArray} {maxL maxL' : Nat} {ret ret' : Option FieldType} {e : Env} {s s₁ : State} {m : MethodId} {args : Array Value} {below : List Frame} {meth : Method} {c : Code} {hh : List (Nat × Nat × Nat × Nat)}
    (B : BodyLoose p l y S cc maxL ret e s m args below meth c s₁) (h : (Cond.codeWith y bytes maxL' ret' hh).before args s = true) : c.exceptionTable.toList = tableOf hh := by
  obtain ⟨m9, meth9, c9, hn9, h1, h2, -, -, h6, -⟩ := Cond.codeWith_spec h
  cases Option.some.inj (hn9.symm.trans B.named)
  cases Option.some.inj (h1.symm.trans B.method)
  cases Option.some.inj (h2.symm.trans (Stand.of_body B).code)
  rw [← h6, table_eq]
end Bodies
end VXA
/-! ===== END ===== -/
/-! ===== BEGIN a static call of a method with an exception table ===== -/
section VXS
variable {p : Program} {l : Launch} {e : Env} {R : Room} {s : State} {m : MethodId} {args : Array Value} {below : List Frame} {meth : Method} {c : Code} {T : State} {H : Heap} {locs : List Loc} {cells slots : Nat}
abbrev vx_CSW (R : Room) (s : State) (args : Array Value) (own : String) (index : Nat) (y : MethodName) (bytes : ByteArray) (maxL : Nat) (ret : Option FieldType) (hh : List (Nat × Nat × Nat × Nat)) (ws : List Cond) (rm : Room) (mc ms n : Nat) : Prop :=
  (rm.cells = mc ∧ rm.slots = ms ∧ rm.frames + 1 ≤ R.frames ∧ 8 + (maxL + 11) + rm.locals ≤ R.locals ∧ (∀ w ∈ ws, ∀ (a' : Array Value) (U : State), s.WarmedH U.vm → w.before a' U = true) ∧ Cond.codeWith y bytes maxL ret hh ∈ ws) ∧
  (Cond.codeWith y bytes maxL ret hh).before args s = true ∧ (Cond.initialized y.cls).before args s = true ∧ (y.cls ≠ "java/lang/invoke/MethodHandle" ∧ y.cls ≠ "java/lang/invoke/VarHandle") ∧
  (∀ sig, parseMethodDescriptor y.desc = some sig → n = sig.parameters.length) ∧ (Cond.methodLink own index y).before args s = true ∧ (Cond.static y).before args s = true
theorem vx_cwSW {own : String} {index maxL mc ms : Nat} {y : MethodName} {bytes : ByteArray} {ret : Option FieldType} {hh : List (Nat × Nat × Nat × Nat)} {Ts ws ws' : List Cond} {rm : Room} (n : Nat) (ht : ∀ w ∈ Ts, w.before args s = true) (hT : GoodIn Ts (va_wsS own index y ws)) (hw : ws = Cond.codeWith y bytes maxL ret hh :: ws') (hrc : rm.cells = mc) (hrs : rm.slots = ms)
    (hd : y.cls ≠ "java/lang/invoke/MethodHandle" ∧ y.cls ≠ "java/lang/invoke/VarHandle" ∧ (parseMethodDescriptor y.desc).map (fun d => d.parameters.length) = some n) (hR : rm.frames + 1 ≤ R.frames ∧ 8 + (maxL + 11) + rm.locals ≤ R.locals) :
    vx_CSW R s args own index y bytes maxL ret hh ws rm mc ms n := by
  have ok : ∀ w ∈ va_wsS own index y ws, w.before args s = true := fun w h => ht w (hT w h).1
  have hG : GoodIn Ts ws := fun w h => hT w (by unfold va_wsS; exact List.mem_append_right _ h)
  have hc : Cond.codeWith y bytes maxL ret hh ∈ ws := by rw [hw]; exact List.mem_cons_self
  refine ⟨⟨hrc, hrs, hR.1, hR.2, pay_in ht hG, hc⟩, ht _ (hG _ hc).1, ok _ (by simp [va_wsS]), ⟨hd.1, hd.2.1⟩, fun sig h => ?_, ok _ (by simp [va_wsS]), ok _ (by simp [va_wsS])⟩
  have h2 := hd.2.2
  rw [h] at h2
  exact (Option.some.inj h2).symm
theorem vx_callSW (X : Stand p l e R s m args below meth c T locs cells slots) (hexec : p.tables.exec = Jvm.exec) {own : String} {index : Nat} {y : MethodName} {bytes : ByteArray} {maxL : Nat} {ret : Option FieldType} {hh : List (Nat × Nat × Nat × Nat)}
    (hown : s.vm.findClass own = some m.cls) (hlink : (Cond.methodLink own index y).before args s = true) (hstat : (Cond.static y).before args s = true) (hinit : (Cond.initialized y.cls).before args s = true)
    (hcode : (Cond.codeWith y bytes maxL ret hh).before args s = true) (hy : y.cls ≠ "java/lang/invoke/MethodHandle" ∧ y.cls ≠ "java/lang/invoke/VarHandle")
    {W9 : Nat} {Pre : Pt → Array Value → Prop} {Post : Pt → Array Value → Option Value → Pt → Prop} (hK : Back l R p e below s args y 3 W9 Pre Post)
    {g : JFrame} (hg : g.method = m) (hsize : g.locals.size = c.maxLocals) {argsL rest : List Value} (hlen : ∀ sig, parseMethodDescriptor y.desc = some sig → argsL.length = sig.parameters.length)
    (hstack : g.stack = argsL.reverse ++ rest) (hW : 2 * g.monitorRoom + (rest.map fun v => v.category).sum ≤ W9) (hdg : decode c.code g.pc = .ok (.invokestatic index, 3))
    (hpre : ∀ vm₁, s.WarmedH vm₁ → Pre ⟨T.setVm vm₁, locs, cells, slots⟩ argsL.toArray) :
    ∃ (v : Option Value) (vm₁ : Vm) (B : Pt), s.WarmedH vm₁ ∧ Stand p l e R s m args below meth c B.U B.locs B.cells B.slots ∧ Post ⟨T.setVm vm₁, locs, cells, slots⟩ argsL.toArray v B ∧
      ∀ target, Steps p.tables e below (B.U.setTop { g with pc := g.pc + 3, stack := v.toList ++ rest }) target → Steps p.tables e below (T.setTop g) target := by
  obtain ⟨mk, methM, cM, hnamed, hmethM, -, -, -, -, -, -, hsigM⟩ := Cond.codeWith_spec hcode
  have hstatic : methM.isStatic = true := Cond.static_spec hnamed hmethM hstat
  obtain ⟨kP, hkP, -⟩ := className_of_methodNamed hnamed
  have hinitP : kP.init = .initialized := Cond.initialized_spec (findClass_of_methodNamed hnamed) hkP hinit
  obtain ⟨vm₁, X₁, hstep₁⟩ := X.invokestatic hexec hown hlink hnamed hmethM hstatic hkP hinitP hy (g := g) hg (argsL := argsL) (rest := rest) (hlen _ hsigM) hstack hdg
  obtain ⟨v, B, X', hpost, hsteps⟩ := hK m meth c ⟨T.setVm vm₁, locs, cells, slots⟩ { g with stack := rest } (.invokestatic index) mk argsL.toArray X₁ hg hsize hdg hW (X₁.named hnamed) (hpre vm₁ X₁.warmed)
  exact ⟨v, vm₁, B, X₁.warmed, X', hpost, fun target h => hstep₁ _ fun acts => by rw [doInvoke_state]; exact hsteps.trans h⟩
theorem vx_runSW {y : MethodName} {bytes cc : ByteArray} {maxL nL mc ms n index : Nat} {ret : Option FieldType} {hh : List (Nat × Nat × Nat × Nat)} {ws : List Cond} {rm : Room} {Pc : Array Value → State → Prop} {Qc : Array Value → State → Outcome → State → Prop} {free : Addr → Prop} {Ts : List Cond} {own : String} {As rest : List Value} {g : JFrame}
    (S : CallFix p m c cc nL s args Ts own) (hM : Met l y ws rm Pc Qc mc ms free) (cw : vx_CSW R s args own index y bytes maxL ret hh ws rm mc ms n) (hp : PreS s H Pc As)
    (hg : g.method = m) (hn : As.length = n) (hsize : g.locals.size = nL) (hstack : g.stack = As.reverse ++ rest) (hW : 2 * g.monitorRoom + (rest.map fun v => v.category).sum ≤ 8) (hdg : decode cc g.pc = .ok (.invokestatic index, 3)) (hf : cells + mc ≤ R.cells ∧ slots + ms ≤ R.slots) :
    va_Run p l e R s m args below meth c H locs cells slots mc ms g rest (Qc As.toArray) (free) := by
  obtain ⟨⟨hrc, hrs, hfr, hlo, hws, hcw⟩, hcode, hini, hy, hlen, hl, hstt⟩ := cw
  have hK : Back l R p e below s args y 3 8 (PreOf R mc ms Pc) (PostOf Qc mc ms free) := va_backW (hh := hh) (bytes := bytes) (maxL := maxL) (ret := ret) hM hp.1 hrc hrs hfr hlo hws hcw (fun a' U hW => word_at hW (Or.inl (by first | rfl | simp [Cond.onTables, Cond.keeps, Cond.steady])) hini)
  obtain ⟨hx, hb, hml, ho, -⟩ := S
  intro T hT X
  obtain ⟨v, vm₁, ⟨U', l2, c2, s2⟩, hW₁, X', ⟨g', mk, t, L, e1, e2, hq, h1, hL, h2, h3⟩, st⟩ := vx_callSW X hx (hh := hh) (bytes := bytes) (maxL := maxL) (ret := ret) ho hl hstt hini hcode hy hK hg (hsize.trans hml.symm) (argsL := As) (rest := rest) (fun sig h => hn.trans (hlen sig h)) hstack hW (by rw [hb]; exact hdg)
    (fun vm₁ hW₁ => ⟨hf.1, hf.2, hp.2 (T.setVm vm₁) hT hW₁⟩)
  dsimp only [Pt.U, Pt.locs, Pt.cells, Pt.slots] at X' e1 e2 h1 h2 h3 st
  subst h1; subst h2; subst h3
  exact ⟨v, (T.setVm vm₁).calling g' mk As.toArray, t, U', L, hT, X', hL, e1, e2, hq, st⟩
/-- a thing of a world lies in the heap -/
theorem vx_lt {D : va_G} {cl : List vw_C} {ws : va_W} {H1 : Heap} (h : va_P D cl ws H1) {k : Nat} {q : Nat × va_E} (hk : ws[k]? = some q) : q.1 < H1.size := (h k q hk).lt
end VXS
/-! ===== END ===== -/
/-! ===== BEGIN methods with a table of their own: called by a name, returning or throwing ===== -/
section VXH
/-! vx_backW, vx_callVX, vx_callSX, vx_callVW, vx_runVW, vx_runVX, vx_runSX, vx_ofWH follow the same proofs as their sisters above (Free/Laws.lean, Shelf42/LK1.lean); vx_outP calls Shelf42/NT130.lean (outThrough). -/
section
variable {l : Launch} {R : Room} {p : Program} {e : Env} {below : List Frame} {s : State} {sargs : Array Value} {y : MethodName} {len W9 : Nat}
theorem vx_backW {ws : List Cond} {rm : Room} {Pc : Array Value → State → Prop} {Qc : Array Value → State → Outcome → State → Prop} {XC : String → State → State → Prop} {mc ms : Nat} {free : Addr → Prop} {bytes : ByteArray} {maxL : Nat} {ret : Option FieldType} {hh : List (Nat × Nat × Nat × Nat)}
    (hM : vx_Met l y ws rm Pc Qc XC mc ms free) (hblind : FrameBlind Pc) (hrc : rm.cells = mc) (hrs : rm.slots = ms)
    (hframes : rm.frames + 1 ≤ R.frames) (hlocals : W9 + (maxL + 11) + rm.locals ≤ R.locals)
    (hws : ∀ w ∈ ws, ∀ a' U, s.WarmedH U.vm → w.before a' U = true) (hcode : Cond.codeWith y bytes maxL ret hh ∈ ws) (hinit : ∀ a' U, s.WarmedH U.vm → (Cond.initialized y.cls).before a' U = true) :
    vx_Back l R p e below s sargs y len W9 (PreOf R mc ms Pc) (PostOf Qc mc ms free) (vx_Post XC mc ms free) := by
  intro m meth c A g ig mk a X hg hsize hdg hW hn hp
  have h1 : (headSpec ws rm).pre.before a A.U = true := atoms_intro fun w hw => hws w hw _ _ X.warmed
  have h2 : (Cond.codeWith y bytes maxL ret hh).before a A.U = true := hws _ hcode _ _ X.warmed
  have h3 : (Cond.initialized y.cls).before a A.U = true := hinit _ _ X.warmed
  have h4 : A.cells + (headSpec ws rm).room.cells ≤ R.cells := by rw [show (headSpec ws rm).room.cells = mc from hrc]; exact hp.1
  have h5 : A.slots + (headSpec ws rm).room.slots ≤ R.slots := by rw [show (headSpec ws rm).room.slots = ms from hrs]; exact hp.2.1
  have hPc : Pc a (A.U.calling g mk a) := hblind _ _ _ _ hp.2.2
  obtain ⟨U, Ls, c0, s0⟩ := A
  dsimp only [Pt.U, Pt.locs, Pt.cells, Pt.slots] at h1 h2 h3 h4 h5 X hn hPc ⊢
  obtain ⟨m9, methY, cY, hn9, hmY, hcY, -, hlY, -⟩ := Cond.codeWith_spec h2
  cases Option.some.inj (hn9.symm.trans hn)
  obtain ⟨kY, hkY, -⟩ := className_of_methodNamed hn
  have hinitY : kY.init = .initialized := Cond.initialized_spec (findClass_of_methodNamed hn) hkY h3
  have h : At U g.method c below := by rw [hg]; exact X.here
  have hlocals9 : W9 + (maxL + 11) + (headSpec ws rm).room.locals ≤ R.locals := hlocals
  have happ : (headSpec ws rm).appliesLoose y e.platform (U.calling g mk a) = true :=
    Spec.appliesLoose_calling (g := g) h hdg hn hkY hinitY
      (X.room_calling (g := g) (R' := (headSpec ws rm).room) hsize hmY hcY hframes (by rw [hlY]; omega) h4 h5) h1
  obtain ⟨mid, hmid⟩ := h.above
  have hfr : (U.setTop g).frames = (.java g :: mid) ++ below := by rw [State.frames_setTop' g h.top, hmid]; rfl
  obtain ⟨o, s₂, hsteps, -, hend, hq⟩ := Steps.callFree hM p X.admits X.cas X.clock (acts := []) hfr happ hPc trivial
  have hq' : vx_Q Qc XC mc ms free a (U.calling g mk a) o s₂ := hq
  rw [State.frames_setTop' g h.top] at hend
  obtain ⟨g₀, hg0⟩ := Option.isSome_iff_exists.mp h.top
  obtain ⟨r, hr⟩ := State.topJava?_eq_some.mp hg0
  have hr' : (({ U with heap := s₂.heap, slotsUsed := s₂.slotsUsed } : State).setVm s₂.vm).frames = .java g₀ :: r := hr
  rcases hq' with ⟨hqc, L, hfe, hL⟩ | ⟨q, rfl, E, ce, L, hx, hce, hcv, hcl, hW₂, hsm, hL⟩
  · obtain ⟨⟨v, rfl⟩, hW₂, e2, q2, q3, q4, q5, q6⟩ := id hfe
    have e3 : s₂ = ({ (U.calling g mk a).setFrames s₂.frames with heap := s₂.heap, slotsUsed := s₂.slotsUsed } : State).setVm s₂.vm := by
      have : s₂ = ({ s₂ with vm := (U.calling g mk a).vm } : State).setVm s₂.vm := rfl
      rw [e2] at this
      exact this
    obtain ⟨c₂, i₂, len₂, hc₂, hd₂, hf₂⟩ := hend
    have hW' : U.WarmedH s₂.vm := hW₂
    have hcc : c₂ = c := by
      have h1 : s₂.code? g.method = U.code? g.method := by
        rw [State.code?_eq, State.code?_eq, hW'.alike.method?]
      exact Option.some.inj (hc₂.symm.trans (h1.trans h.code))
    subst hcc
    have hlen : len₂ = len := by rw [hdg] at hd₂; cases hd₂; rfl
    subst hlen
    have hs₂ : s₂ = (({ U with heap := s₂.heap, slotsUsed := s₂.slotsUsed } : State).setVm s₂.vm).setTop { g with pc := g.pc + len₂, stack := v.toList ++ g.stack } := by
      refine e3.trans ?_
      rw [hf₂, State.calling_eq h.top, State.setFrames_setFrames, State.setTop_of_frames _ hr', hr]
      rfl
    have hsame : U.sameButNew ({ U with heap := s₂.heap, slotsUsed := s₂.slotsUsed } : State) L mc ms := by
      refine ⟨?_, q2, q3, q4, q5, q6⟩
      obtain ⟨t, ht, -⟩ := State.frames_cons hr
      show ({ U with heap := s₂.heap, slotsUsed := s₂.slotsUsed } : State) = { U.setFrames U.frames with heap := s₂.heap, slotsUsed := s₂.slotsUsed }
      rw [State.setFrames_self ht]
    subst hg
    refine Or.inl ⟨v, ⟨(({ U with heap := s₂.heap, slotsUsed := s₂.slotsUsed } : State).setVm s₂.vm), Ls ++ L, c0 + mc, s0 + ms⟩,
      ⟨X.admits, X.cas, X.clock, X.frames, X.room, X.hears, X.method, X.code, (X.here.setHeapUsed s₂.heap s₂.slotsUsed).setVm hW'.alike, X.tail, State.WarmedH.trans X.warmed hW', X.limits, X.bytes, X.same.trans (hsame.setVm s.vm)⟩,
      ⟨g, mk, s₂, L, rfl, rfl, hqc, rfl, hL, rfl, rfl⟩, ?_⟩
    show Steps p.tables e below _ ((({ U with heap := s₂.heap, slotsUsed := s₂.slotsUsed } : State).setVm s₂.vm).setTop { g with pc := g.pc + len₂, stack := v.toList ++ g.stack })
    rw [← hs₂]
    exact hsteps
  · obtain ⟨e2, q2, q3, q4, q5, q6⟩ := id hsm
    have e3 : s₂ = ({ (U.calling g mk a).setFrames s₂.frames with heap := s₂.heap, slotsUsed := s₂.slotsUsed } : State).setVm s₂.vm := by
      have : s₂ = ({ s₂ with vm := (U.calling g mk a).vm } : State).setVm s₂.vm := rfl
      rw [e2] at this
      exact this
    have hf₂ : s₂.frames = .throwing q :: .java g :: U.frames.tail := hend
    have hW' : U.WarmedH s₂.vm := hW₂
    have hs₂ : s₂ = ((({ U with heap := s₂.heap, slotsUsed := s₂.slotsUsed } : State).setVm s₂.vm).setTop g).pushFrame (.throwing q) := by
      refine e3.trans ?_
      rw [hf₂, State.calling_eq h.top, State.setFrames_setFrames, State.pushFrame, State.frames_setTop _ hr', State.setTop_of_frames _ hr', State.setFrames_setFrames, hr]
      rfl
    have hsame : U.sameButNew ({ U with heap := s₂.heap, slotsUsed := s₂.slotsUsed } : State) L mc ms := by
      refine ⟨?_, q2, q3, q4, q5, q6⟩
      obtain ⟨t, ht, -⟩ := State.frames_cons hr
      show ({ U with heap := s₂.heap, slotsUsed := s₂.slotsUsed } : State) = { U.setFrames U.frames with heap := s₂.heap, slotsUsed := s₂.slotsUsed }
      rw [State.setFrames_self ht]
    subst hg
    refine Or.inr ⟨q, ⟨(({ U with heap := s₂.heap, slotsUsed := s₂.slotsUsed } : State).setVm s₂.vm), Ls ++ L, c0 + mc, s0 + ms⟩,
      ⟨X.admits, X.cas, X.clock, X.frames, X.room, X.hears, X.method, X.code, (X.here.setHeapUsed s₂.heap s₂.slotsUsed).setVm hW'.alike, X.tail, State.WarmedH.trans X.warmed hW', X.limits, X.bytes, X.same.trans (hsame.setVm s.vm)⟩,
      ⟨g, mk, s₂, L, E, ce, rfl, rfl, hx, hce, hcv, hcl, rfl, hL, rfl, rfl⟩, ?_⟩
    show Steps p.tables e below _ (((({ U with heap := s₂.heap, slotsUsed := s₂.slotsUsed } : State).setVm s₂.vm).setTop g).pushFrame (.throwing q))
    rw [← hs₂]
    exact hsteps
end
variable {p : Program} {l : Launch} {e : Env} {R : Room} {s : State} {m : MethodId} {args : Array Value} {below : List Frame} {meth : Method} {c : Code} {T : State} {H : Heap} {locs : List Loc} {cells slots : Nat}
theorem vx_callVX (X : Stand p l e R s m args below meth c T locs cells slots) (hexec : p.tables.exec = Jvm.exec) {own C : String} {index : Nat} {y : MethodName} {bytes : ByteArray} {maxL : Nat} {ret : Option FieldType} {hh : List (Nat × Nat × Nat × Nat)}
    (hown : s.vm.findClass own = some m.cls) (hlink : (Cond.methodLink own index y).before args s = true) (hinst : (Cond.instanceMethod y).before args s = true) (hsel : (Cond.selects C y y).before args s = true)
    (hcode : (Cond.codeWith y bytes maxL ret hh).before args s = true) (hy : y.cls ≠ "java/lang/invoke/MethodHandle" ∧ y.cls ≠ "java/lang/invoke/VarHandle")
    {W9 : Nat} {Pre : Pt → Array Value → Prop} {Post : Pt → Array Value → Option Value → Pt → Prop} {PostX : Pt → Array Value → Addr → Pt → Prop} (hK : vx_Back l R p e below s args y 3 W9 Pre Post PostX)
    {b : Addr} {cellB : Cell} (hcell : T.heap[b]? = some cellB) (hobj : cellB.vm.isStatics = false) (hcls : s.vm.findClass C = some cellB.cls)
    {g : JFrame} (hg : g.method = m) (hsize : g.locals.size = c.maxLocals) {argsL rest : List Value} (hlen : ∀ sig, parseMethodDescriptor y.desc = some sig → argsL.length = sig.parameters.length)
    (hstack : g.stack = argsL.reverse ++ .ref b :: rest) (hW : 2 * g.monitorRoom + (rest.map fun v => v.category).sum ≤ W9) (hdg : decode c.code g.pc = .ok (.invokevirtual index, 3))
    (hpre : ∀ vm₁, s.WarmedH vm₁ → Pre ⟨T.setVm vm₁, locs, cells, slots⟩ (Value.ref b :: argsL).toArray) :
    (∃ (v : Option Value) (vm₁ : Vm) (B : Pt), s.WarmedH vm₁ ∧ Stand p l e R s m args below meth c B.U B.locs B.cells B.slots ∧ Post ⟨T.setVm vm₁, locs, cells, slots⟩ (Value.ref b :: argsL).toArray v B ∧
      ∀ target, Steps p.tables e below (B.U.setTop { g with pc := g.pc + 3, stack := v.toList ++ rest }) target → Steps p.tables e below (T.setTop g) target) ∨
    (∃ (q : Addr) (vm₁ : Vm) (B : Pt), s.WarmedH vm₁ ∧ Stand p l e R s m args below meth c B.U B.locs B.cells B.slots ∧ PostX ⟨T.setVm vm₁, locs, cells, slots⟩ (Value.ref b :: argsL).toArray q B ∧
      Steps p.tables e below (T.setTop g) ((B.U.setTop { g with stack := rest }).pushFrame (.throwing q))) := by
  obtain ⟨mk, methM, hnamed, hmethM, hstM, habM⟩ := Cond.instanceMethod_spec hinst
  obtain ⟨m8, methM', cM, hn8, hmethM', -, -, -, -, -, -, hsigM⟩ := Cond.codeWith_spec hcode
  cases Option.some.inj (hn8.symm.trans hnamed)
  cases hmethM.symm.trans hmethM'
  obtain ⟨c2, r2, m2, q1, q2, q3, q4, kP, hkP, hkPi⟩ := Cond.selects_spec hsel
  cases hcls.symm.trans q1
  cases (State.methodFound?_of_named hnamed hy).symm.trans q2
  cases hnamed.symm.trans q3
  have hselP : selectMethod e.platform s.vm cellB.cls mk = .method mk := by rw [Launch.admits_selectMethod X.admits]; exact q4
  obtain ⟨vm₁, X₁, hstep₁⟩ := X.invokevirtual hexec hown hlink hnamed hmethM hstM hkP hkPi hy (a := b) (cell := cellB) hcell
    (fun z h => by rw [h] at hobj; cases hobj) hselP hmethM habM hkP hkPi (g := g) hg (argsL := argsL) (rest := rest) (hlen _ hsigM) hstack hdg
  rcases hK m meth c ⟨T.setVm vm₁, locs, cells, slots⟩ { g with stack := rest } (.invokevirtual index) mk (Value.ref b :: argsL).toArray X₁ hg hsize hdg hW (X₁.named hnamed) (hpre vm₁ X₁.warmed) with ⟨v, B, X', hpost, hsteps⟩ | ⟨q, B, X', hpost, hsteps⟩
  · exact Or.inl ⟨v, vm₁, B, X₁.warmed, X', hpost, fun target h => hstep₁ _ fun acts => by rw [doInvoke_state]; exact hsteps.trans h⟩
  · exact Or.inr ⟨q, vm₁, B, X₁.warmed, X', hpost, hstep₁ _ fun acts => by rw [doInvoke_state]; exact hsteps⟩
theorem vx_callSX (X : Stand p l e R s m args below meth c T locs cells slots) (hexec : p.tables.exec = Jvm.exec) {own : String} {index : Nat} {y : MethodName} {bytes : ByteArray} {maxL : Nat} {ret : Option FieldType} {hh : List (Nat × Nat × Nat × Nat)}
    (hown : s.vm.findClass own = some m.cls) (hlink : (Cond.methodLink own index y).before args s = true) (hstat : (Cond.static y).before args s = true) (hinit : (Cond.initialized y.cls).before args s = true)
    (hcode : (Cond.codeWith y bytes maxL ret hh).before args s = true) (hy : y.cls ≠ "java/lang/invoke/MethodHandle" ∧ y.cls ≠ "java/lang/invoke/VarHandle")
    {W9 : Nat} {Pre : Pt → Array Value → Prop} {Post : Pt → Array Value → Option Value → Pt → Prop} {PostX : Pt → Array Value → Addr → Pt → Prop} (hK : vx_Back l R p e below s args y 3 W9 Pre Post PostX)
    {g : JFrame} (hg : g.method = m) (hsize : g.locals.size = c.maxLocals) {argsL rest : List Value} (hlen : ∀ sig, parseMethodDescriptor y.desc = some sig → argsL.length = sig.parameters.length)
    (hstack : g.stack = argsL.reverse ++ rest) (hW : 2 * g.monitorRoom + (rest.map fun v => v.category).sum ≤ W9) (hdg : decode c.code g.pc = .ok (.invokestatic index, 3))
    (hpre : ∀ vm₁, s.WarmedH vm₁ → Pre ⟨T.setVm vm₁, locs, cells, slots⟩ argsL.toArray) :
    (∃ (v : Option Value) (vm₁ : Vm) (B : Pt), s.WarmedH vm₁ ∧ Stand p l e R s m args below meth c B.U B.locs B.cells B.slots ∧ Post ⟨T.setVm vm₁, locs, cells, slots⟩ argsL.toArray v B ∧
      ∀ target, Steps p.tables e below (B.U.setTop { g with pc := g.pc + 3, stack := v.toList ++ rest }) target → Steps p.tables e below (T.setTop g) target) ∨
    (∃ (q : Addr) (vm₁ : Vm) (B : Pt), s.WarmedH vm₁ ∧ Stand p l e R s m args below meth c B.U B.locs B.cells B.slots ∧ PostX ⟨T.setVm vm₁, locs, cells, slots⟩ argsL.toArray q B ∧
      Steps p.tables e below (T.setTop g) ((B.U.setTop { g with stack := rest }).pushFrame (.throwing q))) := by
  obtain ⟨mk, methM, cM, hnamed, hmethM, -, -, -, -, -, -, hsigM⟩ := Cond.codeWith_spec hcode
  have hstatic : methM.isStatic = true := Cond.static_spec hnamed hmethM hstat
  obtain ⟨kP, hkP, -⟩ := className_of_methodNamed hnamed
  have hinitP : kP.init = .initialized := Cond.initialized_spec (findClass_of_methodNamed hnamed) hkP hinit
  obtain ⟨vm₁, X₁, hstep₁⟩ := X.invokestatic hexec hown hlink hnamed hmethM hstatic hkP hinitP hy (g := g) hg (argsL := argsL) (rest := rest) (hlen _ hsigM) hstack hdg
  rcases hK m meth c ⟨T.setVm vm₁, locs, cells, slots⟩ { g with stack := rest } (.invokestatic index) mk argsL.toArray X₁ hg hsize hdg hW (X₁.named hnamed) (hpre vm₁ X₁.warmed) with ⟨v, B, X', hpost, hsteps⟩ | ⟨q, B, X', hpost, hsteps⟩
  · exact Or.inl ⟨v, vm₁, B, X₁.warmed, X', hpost, fun target h => hstep₁ _ fun acts => by rw [doInvoke_state]; exact hsteps.trans h⟩
  · exact Or.inr ⟨q, vm₁, B, X₁.warmed, X', hpost, hstep₁ _ fun acts => by rw [doInvoke_state]; exact hsteps⟩
theorem vx_callVW (X : Stand p l e R s m args below meth c T locs cells slots) (hexec : p.tables.exec = Jvm.exec) {own C : String} {index : Nat} {y : MethodName} {bytes : ByteArray} {maxL : Nat} {ret : Option FieldType} {hh : List (Nat × Nat × Nat × Nat)}
    (hown : s.vm.findClass own = some m.cls) (hlink : (Cond.methodLink own index y).before args s = true) (hinst : (Cond.instanceMethod y).before args s = true) (hsel : (Cond.selects C y y).before args s = true)
    (hcode : (Cond.codeWith y bytes maxL ret hh).before args s = true) (hy : y.cls ≠ "java/lang/invoke/MethodHandle" ∧ y.cls ≠ "java/lang/invoke/VarHandle")
    {W9 : Nat} {Pre : Pt → Array Value → Prop} {Post : Pt → Array Value → Option Value → Pt → Prop} (hK : Back l R p e below s args y 3 W9 Pre Post)
    {b : Addr} {cellB : Cell} (hcell : T.heap[b]? = some cellB) (hobj : cellB.vm.isStatics = false) (hcls : s.vm.findClass C = some cellB.cls)
    {g : JFrame} (hg : g.method = m) (hsize : g.locals.size = c.maxLocals) {argsL rest : List Value} (hlen : ∀ sig, parseMethodDescriptor y.desc = some sig → argsL.length = sig.parameters.length)
    (hstack : g.stack = argsL.reverse ++ .ref b :: rest) (hW : 2 * g.monitorRoom + (rest.map fun v => v.category).sum ≤ W9) (hdg : decode c.code g.pc = .ok (.invokevirtual index, 3))
    (hpre : ∀ vm₁, s.WarmedH vm₁ → Pre ⟨T.setVm vm₁, locs, cells, slots⟩ (Value.ref b :: argsL).toArray) :
    ∃ (v : Option Value) (vm₁ : Vm) (B : Pt), s.WarmedH vm₁ ∧ Stand p l e R s m args below meth c B.U B.locs B.cells B.slots ∧ Post ⟨T.setVm vm₁, locs, cells, slots⟩ (Value.ref b :: argsL).toArray v B ∧
      ∀ target, Steps p.tables e below (B.U.setTop { g with pc := g.pc + 3, stack := v.toList ++ rest }) target → Steps p.tables e below (T.setTop g) target := by
  obtain ⟨mk, methM, hnamed, hmethM, hstM, habM⟩ := Cond.instanceMethod_spec hinst
  obtain ⟨m8, methM', cM, hn8, hmethM', -, -, -, -, -, -, hsigM⟩ := Cond.codeWith_spec hcode
  cases Option.some.inj (hn8.symm.trans hnamed)
  cases hmethM.symm.trans hmethM'
  obtain ⟨c2, r2, m2, q1, q2, q3, q4, kP, hkP, hkPi⟩ := Cond.selects_spec hsel
  cases hcls.symm.trans q1
  cases (State.methodFound?_of_named hnamed hy).symm.trans q2
  cases hnamed.symm.trans q3
  have hselP : selectMethod e.platform s.vm cellB.cls mk = .method mk := by rw [Launch.admits_selectMethod X.admits]; exact q4
  obtain ⟨vm₁, X₁, hstep₁⟩ := X.invokevirtual hexec hown hlink hnamed hmethM hstM hkP hkPi hy (a := b) (cell := cellB) hcell
    (fun z h => by rw [h] at hobj; cases hobj) hselP hmethM habM hkP hkPi (g := g) hg (argsL := argsL) (rest := rest) (hlen _ hsigM) hstack hdg
  obtain ⟨v, B, X', hpost, hsteps⟩ := hK m meth c ⟨T.setVm vm₁, locs, cells, slots⟩ { g with stack := rest } (.invokevirtual index) mk (Value.ref b :: argsL).toArray X₁ hg hsize hdg hW (X₁.named hnamed) (hpre vm₁ X₁.warmed)
  exact ⟨v, vm₁, B, X₁.warmed, X', hpost, fun target h => hstep₁ _ fun acts => by rw [doInvoke_state]; exact hsteps.trans h⟩
abbrev vx_CVW (R : Room) (s : State) (args : Array Value) (own C : String) (index : Nat) (y : MethodName) (bytes : ByteArray) (maxL : Nat) (ret : Option FieldType) (hh : List (Nat × Nat × Nat × Nat)) (ws : List Cond) (rm : Room) (mc ms n : Nat) : Prop :=
  (rm.cells = mc ∧ rm.slots = ms ∧ rm.frames + 1 ≤ R.frames ∧ 8 + (maxL + 11) + rm.locals ≤ R.locals ∧ (∀ w ∈ ws, ∀ (a' : Array Value) (U : State), s.WarmedH U.vm → w.before a' U = true) ∧ Cond.codeWith y bytes maxL ret hh ∈ ws) ∧
  (Cond.codeWith y bytes maxL ret hh).before args s = true ∧ (Cond.initialized y.cls).before args s = true ∧ (y.cls ≠ "java/lang/invoke/MethodHandle" ∧ y.cls ≠ "java/lang/invoke/VarHandle") ∧
  (∀ sig, parseMethodDescriptor y.desc = some sig → n = sig.parameters.length) ∧ (Cond.methodLink own index y).before args s = true ∧ (Cond.instanceMethod y).before args s = true ∧ (Cond.selects C y y).before args s = true
theorem vx_cwVW {own C : String} {index maxL mc ms : Nat} {y : MethodName} {bytes : ByteArray} {ret : Option FieldType} {hh : List (Nat × Nat × Nat × Nat)} {Ts ws ws' : List Cond} {rm : Room} (n : Nat) (ht : ∀ w ∈ Ts, w.before args s = true) (hT : GoodIn Ts (wsV own index C y ws)) (hw : ws = Cond.codeWith y bytes maxL ret hh :: ws') (hrc : rm.cells = mc) (hrs : rm.slots = ms)
    (hd : y.cls = C ∧ y.cls ≠ "java/lang/invoke/MethodHandle" ∧ y.cls ≠ "java/lang/invoke/VarHandle" ∧ (parseMethodDescriptor y.desc).map (fun d => d.parameters.length) = some n) (hR : rm.frames + 1 ≤ R.frames ∧ 8 + (maxL + 11) + rm.locals ≤ R.locals) :
    vx_CVW R s args own C index y bytes maxL ret hh ws rm mc ms n := by
  obtain ⟨hC, hd⟩ := hd
  subst hC
  have ok : ∀ w ∈ wsV own index y.cls y ws, w.before args s = true := fun w h => ht w (hT w h).1
  have hG : GoodIn Ts ws := fun w h => hT w (by unfold wsV; exact List.mem_append_right _ h)
  have hc : Cond.codeWith y bytes maxL ret hh ∈ ws := by rw [hw]; exact List.mem_cons_self
  refine ⟨⟨hrc, hrs, hR.1, hR.2, pay_in ht hG, hc⟩, ht _ (hG _ hc).1, ok _ (by simp [wsV]), ⟨hd.1, hd.2.1⟩, fun sig h => ?_, ok _ (by simp [wsV]), ok _ (by simp [wsV]), ok _ (by simp [wsV])⟩
  have h2 := hd.2.2
  rw [h] at h2
  exact (Option.some.inj h2).symm
theorem vx_runVW {y : MethodName} {bytes cc : ByteArray} {maxL nL mc ms n index : Nat} {ret : Option FieldType} {hh : List (Nat × Nat × Nat × Nat)} {ws : List Cond} {rm : Room} {Pc : Array Value → State → Prop} {Qc : Array Value → State → Outcome → State → Prop} {free : Addr → Prop} {Ts : List Cond} {own C : String} {b : Addr} {As rest : List Value} {g : JFrame}
    (S : CallFix p m c cc nL s args Ts own) (hM : Met l y ws rm Pc Qc mc ms free) (cw : vx_CVW R s args own C index y bytes maxL ret hh ws rm mc ms n) (hp : PreV s H C b Pc As)
    (hg : g.method = m) (hn : As.length = n) (hsize : g.locals.size = nL) (hstack : g.stack = As.reverse ++ .ref b :: rest) (hW : 2 * g.monitorRoom + (rest.map fun v => v.category).sum ≤ 8) (hdg : decode cc g.pc = .ok (.invokevirtual index, 3)) (hf : cells + mc ≤ R.cells ∧ slots + ms ≤ R.slots) :
    va_Run p l e R s m args below meth c H locs cells slots mc ms g rest (Qc (Value.ref b :: As).toArray) free := by
  obtain ⟨⟨hrc, hrs, hfr, hlo, hws, hcw⟩, hcode, hini, hy, hlen, hl, hin, hse⟩ := cw
  have hK : Back l R p e below s args y 3 8 (PreOf R mc ms Pc) (PostOf Qc mc ms free) := va_backW (hh := hh) (bytes := bytes) (maxL := maxL) (ret := ret) hM hp.1 hrc hrs hfr hlo hws hcw (fun a' U hW => word_at hW (Or.inl (by first | rfl | simp [Cond.onTables, Cond.keeps, Cond.steady])) hini)
  obtain ⟨hx, hb, hml, ho, -⟩ := S
  obtain ⟨-, ⟨cellB, hcB, hoB, hclB⟩, hPc⟩ := hp
  intro T hT X
  obtain ⟨v, vm₁, ⟨U', l2, c2, s2⟩, hW₁, X', ⟨g', mk, t, L, e1, e2, hq, h1, hL, h2, h3⟩, st⟩ := vx_callVW X hx (C := C) (hh := hh) (bytes := bytes) (maxL := maxL) (ret := ret) ho hl hin hse hcode hy hK (by rw [hT]; exact hcB) hoB hclB hg (hsize.trans hml.symm) (argsL := As) (rest := rest) (fun sig h => hn.trans (hlen sig h)) hstack hW (by rw [hb]; exact hdg)
    (fun vm₁ hW₁ => ⟨hf.1, hf.2, hPc (T.setVm vm₁) hT hW₁⟩)
  dsimp only [Pt.U, Pt.locs, Pt.cells, Pt.slots] at X' e1 e2 h1 h2 h3 st
  subst h1; subst h2; subst h3
  exact ⟨v, (T.setVm vm₁).calling g' mk (Value.ref b :: As).toArray, t, U', L, hT, X', hL, e1, e2, hq, st⟩
section
variable {y : MethodName} {bytes cc : ByteArray} {maxL nL mc ms n index : Nat} {ret : Option FieldType} {ws : List Cond} {rm : Room} {Pc : Array Value → State → Prop} {Qc : Array Value → State → Outcome → State → Prop} {XC : String → State → State → Prop} {free : Addr → Prop} {Ts : List Cond} {own C : String} {b : Addr} {As rest : List Value} {g : JFrame}
theorem vx_runVX {hh : List (Nat × Nat × Nat × Nat)} (S : CallFix p m c cc nL s args Ts own) (hM : vx_Met l y ws rm Pc Qc XC mc ms free) (cw : vx_CVW R s args own C index y bytes maxL ret hh ws rm mc ms n) (hp : PreV s H C b Pc As)
    (hg : g.method = m) (hn : As.length = n) (hsize : g.locals.size = nL) (hstack : g.stack = As.reverse ++ .ref b :: rest) (hW : 2 * g.monitorRoom + (rest.map fun v => v.category).sum ≤ 8) (hdg : decode cc g.pc = .ok (.invokevirtual index, 3)) (hf : cells + mc ≤ R.cells ∧ slots + ms ≤ R.slots) :
    vx_Run p l e R s m args below meth c H locs cells slots mc ms g rest (Qc (Value.ref b :: As).toArray) XC free := by
  obtain ⟨⟨hrc, hrs, hfr, hlo, hws, hcw⟩, hcode, hini, hy, hlen, hl, hin, hse⟩ := cw
  have hK : vx_Back l R p e below s args y 3 8 (PreOf R mc ms Pc) (PostOf Qc mc ms free) (vx_Post XC mc ms free) := vx_backW (hh := hh) (bytes := bytes) (maxL := maxL) (ret := ret) hM hp.1 hrc hrs hfr hlo hws hcw (fun a' U hW => word_at hW (Or.inl (by first | rfl | simp [Cond.onTables, Cond.keeps, Cond.steady])) hini)
  obtain ⟨hx, hb, hml, ho, -⟩ := S
  obtain ⟨-, ⟨cellB, hcB, hoB, hclB⟩, hPc⟩ := hp
  intro T hT X
  rcases vx_callVX X hx (C := C) (hh := hh) (bytes := bytes) (maxL := maxL) (ret := ret) ho hl hin hse hcode hy hK (by rw [hT]; exact hcB) hoB hclB hg (hsize.trans hml.symm) (argsL := As) (rest := rest) (fun sig h => hn.trans (hlen sig h)) hstack hW (by rw [hb]; exact hdg)
    (fun vm₁ hW₁ => ⟨hf.1, hf.2, hPc (T.setVm vm₁) hT hW₁⟩) with ⟨v, vm₁, ⟨U', l2, c2, s2⟩, hW₁, X', ⟨g', mk, t, L, e1, e2, hq, h1, hL, h2, h3⟩, st⟩ | ⟨q, vm₁, ⟨U', l2, c2, s2⟩, hW₁, X', ⟨g', mk, t, L, E, ce, e1, e2, hq, hce, hcv, hcl, h1, hL, h2, h3⟩, st⟩
  · dsimp only [Pt.U, Pt.locs, Pt.cells, Pt.slots] at X' e1 e2 h1 h2 h3 st
    subst h1; subst h2; subst h3
    exact Or.inl ⟨v, (T.setVm vm₁).calling g' mk (Value.ref b :: As).toArray, t, U', L, hT, X', hL, e1, e2, hq, st⟩
  · dsimp only [Pt.U, Pt.locs, Pt.cells, Pt.slots] at X' e1 e2 h1 h2 h3 st hcl
    subst h1; subst h2; subst h3
    exact Or.inr ⟨q, (T.setVm vm₁).calling g' mk (Value.ref b :: As).toArray, t, U', L, E, ce, hT, X', hL, e1, e2, hq, hce, hcv, vx_cls hW₁ hcl, st⟩
theorem vx_runSX {hh : List (Nat × Nat × Nat × Nat)} (S : CallFix p m c cc nL s args Ts own) (hM : vx_Met l y ws rm Pc Qc XC mc ms free) (cw : vx_CSW R s args own index y bytes maxL ret hh ws rm mc ms n) (hp : PreS s H Pc As)
    (hg : g.method = m) (hn : As.length = n) (hsize : g.locals.size = nL) (hstack : g.stack = As.reverse ++ rest) (hW : 2 * g.monitorRoom + (rest.map fun v => v.category).sum ≤ 8) (hdg : decode cc g.pc = .ok (.invokestatic index, 3)) (hf : cells + mc ≤ R.cells ∧ slots + ms ≤ R.slots) :
    vx_Run p l e R s m args below meth c H locs cells slots mc ms g rest (Qc As.toArray) XC free := by
  obtain ⟨⟨hrc, hrs, hfr, hlo, hws, hcw⟩, hcode, hini, hy, hlen, hl, hstt⟩ := cw
  have hK : vx_Back l R p e below s args y 3 8 (PreOf R mc ms Pc) (PostOf Qc mc ms free) (vx_Post XC mc ms free) := vx_backW (hh := hh) (bytes := bytes) (maxL := maxL) (ret := ret) hM hp.1 hrc hrs hfr hlo hws hcw (fun a' U hW => word_at hW (Or.inl (by first | rfl | simp [Cond.onTables, Cond.keeps, Cond.steady])) hini)
  obtain ⟨hx, hb, hml, ho, -⟩ := S
  intro T hT X
  rcases vx_callSX X hx (hh := hh) (bytes := bytes) (maxL := maxL) (ret := ret) ho hl hstt hini hcode hy hK hg (hsize.trans hml.symm) (argsL := As) (rest := rest) (fun sig h => hn.trans (hlen sig h)) hstack hW (by rw [hb]; exact hdg)
    (fun vm₁ hW₁ => ⟨hf.1, hf.2, hp.2 (T.setVm vm₁) hT hW₁⟩) with ⟨v, vm₁, ⟨U', l2, c2, s2⟩, hW₁, X', ⟨g', mk, t, L, e1, e2, hq, h1, hL, h2, h3⟩, st⟩ | ⟨q, vm₁, ⟨U', l2, c2, s2⟩, hW₁, X', ⟨g', mk, t, L, E, ce, e1, e2, hq, hce, hcv, hcl, h1, hL, h2, h3⟩, st⟩
  · dsimp only [Pt.U, Pt.locs, Pt.cells, Pt.slots] at X' e1 e2 h1 h2 h3 st
    subst h1; subst h2; subst h3
    exact Or.inl ⟨v, (T.setVm vm₁).calling g' mk As.toArray, t, U', L, hT, X', hL, e1, e2, hq, st⟩
  · dsimp only [Pt.U, Pt.locs, Pt.cells, Pt.slots] at X' e1 e2 h1 h2 h3 st hcl
    subst h1; subst h2; subst h3
    exact Or.inr ⟨q, (T.setVm vm₁).calling g' mk As.toArray, t, U', L, E, ce, hT, X', hL, e1, e2, hq, hce, hcv, vx_cls hW₁ hcl, st⟩
end
end VXH
theorem vx_ofWH {l : Launch} {y : MethodName} {ws ws' : List Cond} {rm : Room} {Pc : Array Value → State → Prop} {Qc : Array Value → State → Outcome → State → Prop} {XC : String → State → State → Prop} {mc ms : Nat} {free : Addr → Prop} {cc : ByteArray} {maxL : Nat} {ret : Option FieldType} {hh : List (Nat × Nat × Nat × Nat)}
    (hy : plainName y.cls = true) (hw : ws = Cond.codeWith y cc maxL ret hh :: ws')
    (body : ∀ p e s m args below meth c s₁, BodyLoose p l y (headSpec ws rm) cc maxL ret e s m args below meth c s₁ → c.maxLocals = maxL → Pc args s →
      W p l e (headSpec ws rm).room s m args below meth c s.heap [] 0 0 (vx_MQ below Qc XC args s mc ms free) (entryFrame m args maxL)) : vx_Met l y ws rm Pc Qc XC mc ms free := by
  refine MetFree.of_bodyS (code := cc) (maxLocals := maxL) (ret := ret) hy ?_ ?_
  · intro args s m h hn
    obtain ⟨m9, meth, c, hn9, h1, h2, h3, h4, -, h5, h6, -⟩ := Cond.codeWith_spec (atoms_spec (ws := ws) h _ (by rw [hw]; exact List.mem_cons_self))
    cases hn.symm.trans hn9
    exact ⟨meth, c, h1, h2, h3, h4, h5, h6⟩
  · intro p e s m args below meth c s₁ B hml hP _
    have hh0 : s₁.heap = s.heap := by rw [B.state]; rfl
    obtain ⟨t, a1, o, b1, b2, b3⟩ := body p e s m args below meth c s₁ B hml hP s₁ hh0 (Stand.of_body B)
    exact ⟨t, o, a1, b1, b2, b3⟩
/-! ===== END ===== -/
end
section
/-! the program as data: printed by wip/whole/gen/gendata.py out of the claim's own tables -/
abbrev MI : Type := Nat × Nat × Nat × Nat × Int × List (Int × Nat)
abbrev MV : Type := Int ⊕ (Int ⊕ (Option Nat ⊕ (Nat ⊕ Unit)))
def zcnL : List String := ["RepairScan$Dictionary", "RepairScan$DictionaryReader", "RepairScan$Found", "RepairScan$Marks", "RepairScan$PageList", "RepairScan$Scan", "RepairScan$Tokens", "RepairScan$Writer", "RepairScan", "RepairScanModel"]
def zfL : List (List (String × String × String × Bool)) := [
  [("RepairScan$Dictionary", "from", "I", false), ("RepairScan$Dictionary", "to", "I", false), ("RepairScan$Dictionary", "closed", "Z", false), ("RepairScan$Dictionary", "kind", "I", false), ("RepairScan$Dictionary", "pagesReference", "I", false), ("RepairScan$Dictionary", "length", "I", false), ("RepairScan$Dictionary", "root", "I", false), ("RepairScan$Dictionary", "sizeNumber", "I", false), ("RepairScan$Dictionary", "kidsFrom", "I", false), ("RepairScan$Dictionary", "kidsTo", "I", false), ("RepairScan$Dictionary", "referencesFrom", "I", false), ("RepairScan$Dictionary", "referencesTo", "I", false), ("RepairScan$Dictionary", "lengthsFrom", "I", false), ("RepairScan$Dictionary", "lengthsTo", "I", false)],
  [("RepairScan$DictionaryReader", "tokens", "LRepairScan$Tokens;", true), ("RepairScan$DictionaryReader", "references", "LRepairScan$Marks;", true), ("RepairScan$DictionaryReader", "lengths", "LRepairScan$Marks;", true), ("RepairScan$DictionaryReader", "into", "LRepairScan$Dictionary;", false), ("RepairScan$DictionaryReader", "inObject", "Z", false)],
  [("RepairScan$Found", "dictionary", "LRepairScan$Dictionary;", true), ("RepairScan$Found", "isThere", "Z", false), ("RepairScan$Found", "head", "I", false), ("RepairScan$Found", "text", "I", false), ("RepairScan$Found", "end", "I", false), ("RepairScan$Found", "endedByWord", "Z", false), ("RepairScan$Found", "hasStream", "Z", false), ("RepairScan$Found", "lengthHolds", "Z", false), ("RepairScan$Found", "streamEnds", "Z", false), ("RepairScan$Found", "dataFrom", "I", false), ("RepairScan$Found", "dataTo", "I", false)],
  [("RepairScan$Marks", "numbers", "[I", true), ("RepairScan$Marks", "froms", "[I", true), ("RepairScan$Marks", "tos", "[I", true), ("RepairScan$Marks", "count", "I", false)],
  [("RepairScan$PageList", "row", "[I", true), ("RepairScan$PageList", "count", "I", false), ("RepairScan$PageList", "seen", "[Z", true), ("RepairScan$PageList", "kidsAt", "[I", true), ("RepairScan$PageList", "kidsTo", "[I", true), ("RepairScan$PageList", "depth", "I", false)],
  [("RepairScan$Scan", "tokens", "LRepairScan$Tokens;", true), ("RepairScan$Scan", "bytes", "[B", true), ("RepairScan$Scan", "size", "I", false), ("RepairScan$Scan", "references", "LRepairScan$Marks;", true), ("RepairScan$Scan", "lengths", "LRepairScan$Marks;", true), ("RepairScan$Scan", "mends", "LRepairScan$Marks;", true), ("RepairScan$Scan", "repeats", "LRepairScan$Marks;", true), ("RepairScan$Scan", "reader", "LRepairScan$DictionaryReader;", true), ("RepairScan$Scan", "trailerDictionary", "LRepairScan$Dictionary;", true), ("RepairScan$Scan", "objects", "[LRepairScan$Found;", true), ("RepairScan$Scan", "current", "LRepairScan$Found;", false), ("RepairScan$Scan", "objectCount", "I", false), ("RepairScan$Scan", "cutObject", "I", false), ("RepairScan$Scan", "trailerRoot", "I", false), ("RepairScan$Scan", "trailerSize", "I", false), ("RepairScan$Scan", "chosenCatalogue", "I", false), ("RepairScan$Scan", "pageList", "LRepairScan$PageList;", true)],
  [("RepairScan$Tokens", "starts", "[I", true), ("RepairScan$Tokens", "ends", "[I", true), ("RepairScan$Tokens", "kinds", "[I", true), ("RepairScan$Tokens", "numbers", "[I", true), ("RepairScan$Tokens", "bytes", "[B", false), ("RepairScan$Tokens", "size", "I", false)],
  [("RepairScan$Writer", "row", "[B", true), ("RepairScan$Writer", "count", "I", false)],
  [("RepairScan", "waiting", "[B", true), ("RepairScan", "waitingCount", "I", false), ("RepairScan", "latest", "LRepairScan$Scan;", true), ("RepairScan", "aside", "LRepairScan$Scan;", true), ("RepairScan", "writer", "LRepairScan$Writer;", true)],
  [("RepairScanModel", "thrown", "I", false), ("RepairScanModel", "collected", "I", false), ("RepairScanModel", "input", "[I", true), ("RepairScanModel", "isScanned", "Z", false), ("RepairScanModel", "s", "I", false), ("RepairScanModel", "size", "[I", true), ("RepairScanModel", "bytes", "[I", true), ("RepairScanModel", "there", "[Z", true), ("RepairScanModel", "head", "[I", true), ("RepairScanModel", "text", "[I", true), ("RepairScanModel", "end", "[I", true), ("RepairScanModel", "whole", "[Z", true), ("RepairScanModel", "data", "[I", true), ("RepairScanModel", "dataEnd", "[I", true), ("RepairScanModel", "mends", "[I", true), ("RepairScanModel", "mendNumber", "[I", true), ("RepairScanModel", "mendPlace", "[I", true), ("RepairScanModel", "twices", "I", false), ("RepairScanModel", "twice", "[I", true), ("RepairScanModel", "root", "[I", true), ("RepairScanModel", "told", "[I", true), ("RepairScanModel", "cut", "[I", true), ("RepairScanModel", "catalogue", "[I", true), ("RepairScanModel", "pages", "[I", true), ("RepairScanModel", "page", "[I", true), ("RepairScanModel", "open", "I", false), ("RepairScanModel", "openHead", "I", false), ("RepairScanModel", "openText", "I", false), ("RepairScanModel", "openData", "I", false), ("RepairScanModel", "openDataEnd", "I", false), ("RepairScanModel", "openWhole", "Z", false), ("RepairScanModel", "at", "I", false), ("RepairScanModel", "limit", "I", false), ("RepairScanModel", "from", "I", false), ("RepairScanModel", "to", "I", false), ("RepairScanModel", "isThere", "Z", false), ("RepairScanModel", "dictFrom", "I", false), ("RepairScanModel", "dictEnd", "I", false), ("RepairScanModel", "references", "I", false), ("RepairScanModel", "refFrom", "[I", true), ("RepairScanModel", "refTo", "[I", true), ("RepairScanModel", "refObject", "[I", true), ("RepairScanModel", "lengths", "I", false), ("RepairScanModel", "lengthFrom", "[I", true), ("RepairScanModel", "lengthTo", "[I", true), ("RepairScanModel", "isKey", "Z", false), ("RepairScanModel", "keyNumber", "I", false), ("RepairScanModel", "keyFrom", "I", false), ("RepairScanModel", "keyTo", "I", false), ("RepairScanModel", "isAlone", "Z", false), ("RepairScanModel", "keyFirst", "I", false), ("RepairScanModel", "keyMany", "I", false), ("RepairScanModel", "seen", "[Z", true), ("RepairScanModel", "stack", "[I", true), ("RepairScanModel", "written", "I", false), ("RepairScanModel", "out", "[I", true)]]
def zftL : List (List Nat) := [[0, 0, 1, 0, 0, 0, 0, 0, 0, 0, 0, 0, 0, 0], [4, 4, 4, 4, 1], [4, 1, 0, 0, 0, 1, 1, 1, 1, 0, 0], [4, 4, 4, 0], [4, 0, 4, 4, 4, 0], [4, 4, 0, 4, 4, 4, 4, 4, 4, 4, 4, 0, 0, 0, 0, 0, 4], [4, 4, 4, 4, 4, 0], [4, 0], [4, 0, 4, 4, 4], [0, 0, 4, 1, 0, 4, 4, 4, 4, 4, 4, 4, 4, 4, 4, 4, 4, 0, 4, 4, 4, 4, 4, 4, 4, 0, 0, 0, 0, 0, 1, 0, 0, 0, 0, 1, 0, 0, 0, 4, 4, 4, 0, 4, 4, 1, 0, 0, 0, 1, 0, 0, 4, 4, 0, 4]]
def zfD (b c : Nat) : String × String × String × Bool := (zfL.getD b []).getD c ("", "", "", false)
def zft (b k : Nat) : Nat := (zftL.getD b []).getD k 0
def zcn (b : Nat) : String := zcnL.getD b ""
def zT (b : Nat) : u_T := fun k => zfD b k
def znF (b : Nat) : Nat := (zftL.getD b []).length
def zcl : List vw_C := (List.range 10).map fun b => (zcn b, zT b, znF b)
def zlayL : List (List Nat) := [[207, 209, 211, 213, 215, 217, 219, 221, 223, 225, 227, 229, 231, 233], [241, 243, 245, 247, 249], [300, 302, 304, 306, 308, 310, 312, 314, 316, 318, 320], [144, 146, 148, 150], [337, 339, 341, 343, 345, 347], [381, 383, 385, 387, 389, 391, 393, 395, 397, 399, 401, 403, 405, 407, 409, 411, 413], [110, 112, 114, 116, 118, 120], [426, 428], [436, 438, 440, 442, 444], [1069, 1071, 1073, 1075, 1077, 1079, 1081, 1083, 1085, 1087, 1089, 1091, 1093, 1095, 1097, 1099, 1101, 1103, 1105, 1107, 1109, 1111, 1113, 1115, 1117, 1119, 1121, 1123, 1125, 1127, 1129, 1131, 1133, 1135, 1137, 1139, 1141, 1143, 1145, 1147, 1149, 1151, 1153, 1155, 1157, 1159, 1161, 1163, 1165, 1167, 1169, 1171, 1173, 1175, 1177, 1179]]
def zynL : List MethodName := [
  ⟨"RepairScan$Dictionary", "<init>", "()V"⟩,
  ⟨"RepairScan$Dictionary", "clearAt", "(III)V"⟩,
  ⟨"RepairScan$Dictionary", "finish", "(III)V"⟩,
  ⟨"RepairScan$DictionaryReader", "<init>", "(LRepairScan$Tokens;LRepairScan$Marks;LRepairScan$Marks;)V"⟩,
  ⟨"RepairScan$DictionaryReader", "read", "(LRepairScan$Dictionary;IZ)I"⟩,
  ⟨"RepairScan$DictionaryReader", "endsAt", "(I)Z"⟩,
  ⟨"RepairScan$DictionaryReader", "takeValue", "(I)I"⟩,
  ⟨"RepairScan$DictionaryReader", "keepPair", "(IIII)V"⟩,
  ⟨"RepairScan$Found", "<init>", "()V"⟩,
  ⟨"RepairScan$Found", "beginAt", "(IIII)V"⟩,
  ⟨"RepairScan$Marks", "<init>", "(I)V"⟩,
  ⟨"RepairScan$Marks", "put", "(III)V"⟩,
  ⟨"RepairScan$Marks", "shortenTo", "(I)V"⟩,
  ⟨"RepairScan$Marks", "numberAt", "(I)I"⟩,
  ⟨"RepairScan$Marks", "fromAt", "(I)I"⟩,
  ⟨"RepairScan$Marks", "toAt", "(I)I"⟩,
  ⟨"RepairScan$PageList", "<init>", "()V"⟩,
  ⟨"RepairScan$PageList", "clear", "()V"⟩,
  ⟨"RepairScan$PageList", "objectAt", "(I)I"⟩,
  ⟨"RepairScan$PageList", "follow", "(LRepairScan$Scan;I)V"⟩,
  ⟨"RepairScan$PageList", "visit", "(LRepairScan$Scan;I)V"⟩,
  ⟨"RepairScan$PageList", "takeAll", "(LRepairScan$Scan;)V"⟩,
  ⟨"RepairScan$PageList", "append", "(I)V"⟩,
  ⟨"RepairScan$Scan", "<init>", "(LRepairScan$Tokens;I)V"⟩,
  ⟨"RepairScan$Scan", "run", "([BI)V"⟩,
  ⟨"RepairScan$Scan", "takeBytes", "([BI)V"⟩,
  ⟨"RepairScan$Scan", "mend", "(II)V"⟩,
  ⟨"RepairScan$Scan", "takeObject", "(I)I"⟩,
  ⟨"RepairScan$Scan", "isEnd", "(I)Z"⟩,
  ⟨"RepairScan$Scan", "takeStream", "(I)I"⟩,
  ⟨"RepairScan$Scan", "endingByLength", "(I)I"⟩,
  ⟨"RepairScan$Scan", "endingByWord", "(I)I"⟩,
  ⟨"RepairScan$Scan", "endObject", "(II)V"⟩,
  ⟨"RepairScan$Scan", "keepCurrent", "(I)V"⟩,
  ⟨"RepairScan$Scan", "takeTrailer", "(I)V"⟩,
  ⟨"RepairScan$Scan", "objectOf", "(I)LRepairScan$Found;"⟩,
  ⟨"RepairScan$Scan", "kindOf", "(I)I"⟩,
  ⟨"RepairScan$Scan", "byteAt", "(I)I"⟩,
  ⟨"RepairScan$Scan", "tellReferencesToNothing", "()V"⟩,
  ⟨"RepairScan$Scan", "chooseCatalogue", "()V"⟩,
  ⟨"RepairScan$Scan", "lastCatalogue", "(Z)I"⟩,
  ⟨"RepairScan$Scan", "choosePages", "()V"⟩,
  ⟨"RepairScan$Tokens", "<init>", "(I)V"⟩,
  ⟨"RepairScan$Tokens", "index", "([BI)V"⟩,
  ⟨"RepairScan$Tokens", "setPlace", "(IIII)V"⟩,
  ⟨"RepairScan$Tokens", "tokenEnd", "(II)I"⟩,
  ⟨"RepairScan$Tokens", "numberOf", "(I)I"⟩,
  ⟨"RepairScan$Tokens", "kindOf", "(II)I"⟩,
  ⟨"RepairScan$Tokens", "kindOfNumber", "(I)I"⟩,
  ⟨"RepairScan$Tokens", "isRegular", "(I)Z"⟩,
  ⟨"RepairScan$Tokens", "byteAt", "(I)I"⟩,
  ⟨"RepairScan$Tokens", "startFrom", "(I)I"⟩,
  ⟨"RepairScan$Tokens", "endAt", "(I)I"⟩,
  ⟨"RepairScan$Tokens", "kindAt", "(I)I"⟩,
  ⟨"RepairScan$Tokens", "numberAt", "(I)I"⟩,
  ⟨"RepairScan$Tokens", "next", "(I)I"⟩,
  ⟨"RepairScan$Tokens", "endOfThree", "(I)I"⟩,
  ⟨"RepairScan$Tokens", "isText", "(ILjava/lang/String;)Z"⟩,
  ⟨"RepairScan$Tokens", "standsAt", "(ILjava/lang/String;)Z"⟩,
  ⟨"RepairScan$Writer", "<init>", "()V"⟩,
  ⟨"RepairScan$Writer", "byteAt", "(I)I"⟩,
  ⟨"RepairScan$Writer", "writeAll", "(LRepairScan$Scan;)V"⟩,
  ⟨"RepairScan$Writer", "writeObject", "(LRepairScan$Scan;LRepairScan$Found;I)V"⟩,
  ⟨"RepairScan$Writer", "writePlain", "(LRepairScan$Scan;LRepairScan$Found;)V"⟩,
  ⟨"RepairScan$Writer", "writeStream", "(LRepairScan$Scan;LRepairScan$Found;)V"⟩,
  ⟨"RepairScan$Writer", "copyMended", "(LRepairScan$Scan;LRepairScan$Dictionary;IIZ)V"⟩,
  ⟨"RepairScan$Writer", "put", "(I)V"⟩,
  ⟨"RepairScan$Writer", "putText", "(Ljava/lang/String;)V"⟩,
  ⟨"RepairScan$Writer", "putNumber", "(I)V"⟩,
  ⟨"RepairScan", "<init>", "()V"⟩,
  ⟨"RepairScan", "add", "(B)V"⟩,
  ⟨"RepairScan", "scan", "()I"⟩,
  ⟨"RepairScan", "found", "(II)J"⟩,
  ⟨"RepairScan", "mended", "(II)I"⟩,
  ⟨"RepairScan", "catalogue", "()I"⟩,
  ⟨"RepairScan", "pages", "()I"⟩,
  ⟨"RepairScan", "page", "(I)I"⟩,
  ⟨"RepairScan", "cut", "()I"⟩,
  ⟨"RepairScan", "trailer", "(I)I"⟩,
  ⟨"RepairScan", "stream", "(II)I"⟩,
  ⟨"RepairScan", "whole", "(I)Z"⟩,
  ⟨"RepairScan", "twice", "(I)I"⟩,
  ⟨"RepairScan", "again", "()I"⟩,
  ⟨"RepairScan", "written", "(I)I"⟩,
  ⟨"RepairScan", "endsObject", "(I)Z"⟩,
  ⟨"RepairScanModel", "<init>", "()V"⟩,
  ⟨"RepairScanModel", "thrown", "()I"⟩,
  ⟨"RepairScanModel", "add", "(B)V"⟩,
  ⟨"RepairScanModel", "byteAt", "(I)I"⟩,
  ⟨"RepairScanModel", "isRegular", "(I)Z"⟩,
  ⟨"RepairScanModel", "passBlanks", "()V"⟩,
  ⟨"RepairScanModel", "next", "()Z"⟩,
  ⟨"RepairScanModel", "stands", "(IJI)Z"⟩,
  ⟨"RepairScanModel", "standsEnd", "(I)Z"⟩,
  ⟨"RepairScanModel", "is", "(IIJI)Z"⟩,
  ⟨"RepairScanModel", "numberOf", "(II)I"⟩,
  ⟨"RepairScanModel", "passReference", "(II)Z"⟩,
  ⟨"RepairScanModel", "keepReference", "(II)V"⟩,
  ⟨"RepairScanModel", "read", "(IIJI)V"⟩,
  ⟨"RepairScanModel", "readPair", "(JI)V"⟩,
  ⟨"RepairScanModel", "readRow", "(Z)V"⟩,
  ⟨"RepairScanModel", "keyReference", "()I"⟩,
  ⟨"RepairScanModel", "place", "(I)I"⟩,
  ⟨"RepairScanModel", "isObject", "(I)Z"⟩,
  ⟨"RepairScanModel", "readOf", "(IJI)V"⟩,
  ⟨"RepairScanModel", "kindOf", "(I)I"⟩,
  ⟨"RepairScanModel", "mend", "(II)V"⟩,
  ⟨"RepairScanModel", "close", "(IZ)V"⟩,
  ⟨"RepairScanModel", "closeMissing", "(I)V"⟩,
  ⟨"RepairScanModel", "readTrailer", "()V"⟩,
  ⟨"RepairScanModel", "readStream", "(III)V"⟩,
  ⟨"RepairScanModel", "go", "()V"⟩,
  ⟨"RepairScanModel", "lookAtReferences", "()V"⟩,
  ⟨"RepairScanModel", "pagesOf", "(I)I"⟩,
  ⟨"RepairScanModel", "guess", "()I"⟩,
  ⟨"RepairScanModel", "addPage", "(I)V"⟩,
  ⟨"RepairScanModel", "walk", "(I)V"⟩,
  ⟨"RepairScanModel", "scanAll", "()V"⟩,
  ⟨"RepairScanModel", "scan", "()I"⟩,
  ⟨"RepairScanModel", "isFound", "(I)Z"⟩,
  ⟨"RepairScanModel", "found", "(II)J"⟩,
  ⟨"RepairScanModel", "mended", "(II)I"⟩,
  ⟨"RepairScanModel", "catalogue", "()I"⟩,
  ⟨"RepairScanModel", "pages", "()I"⟩,
  ⟨"RepairScanModel", "page", "(I)I"⟩,
  ⟨"RepairScanModel", "cut", "()I"⟩,
  ⟨"RepairScanModel", "trailer", "(I)I"⟩,
  ⟨"RepairScanModel", "stream", "(II)I"⟩,
  ⟨"RepairScanModel", "whole", "(I)Z"⟩,
  ⟨"RepairScanModel", "twice", "(I)I"⟩,
  ⟨"RepairScanModel", "put", "(I)V"⟩,
  ⟨"RepairScanModel", "say", "(J)V"⟩,
  ⟨"RepairScanModel", "putNumber", "(I)V"⟩,
  ⟨"RepairScanModel", "copy", "(IIZ)V"⟩,
  ⟨"RepairScanModel", "putObject", "(I)V"⟩,
  ⟨"RepairScanModel", "again", "()I"⟩,
  ⟨"RepairScanModel", "written", "(I)I"⟩,
  ⟨"RepairScanLaw", "add", "(LRepairScan;B)I"⟩,
  ⟨"RepairScanLaw", "scan", "(LRepairScan;[J)I"⟩,
  ⟨"RepairScanLaw", "found", "(LRepairScan;II[J)I"⟩,
  ⟨"RepairScanLaw", "mended", "(LRepairScan;II[J)I"⟩,
  ⟨"RepairScanLaw", "page", "(LRepairScan;I[J)I"⟩,
  ⟨"RepairScanLaw", "trailer", "(LRepairScan;I[J)I"⟩,
  ⟨"RepairScanLaw", "stream", "(LRepairScan;II[J)I"⟩,
  ⟨"RepairScanLaw", "whole", "(LRepairScan;I[J)I"⟩,
  ⟨"RepairScanLaw", "twice", "(LRepairScan;I[J)I"⟩,
  ⟨"RepairScanLaw", "written", "(LRepairScan;I[J)I"⟩,
  ⟨"RepairScanLaw", "law", "([I)Z"⟩]
def zbyL : List ByteArray := [prog_2_method_1_code, prog_2_method_2_code, prog_2_method_3_code, prog_3_method_1_code, prog_3_method_2_code, prog_3_method_3_code, prog_3_method_4_code, prog_3_method_5_code, prog_4_method_1_code, prog_4_method_2_code, prog_5_method_1_code, prog_5_method_2_code, prog_5_method_3_code, prog_5_method_4_code, prog_5_method_5_code, prog_5_method_6_code, prog_6_method_1_code, prog_6_method_2_code, prog_6_method_3_code, prog_6_method_4_code, prog_6_method_5_code, prog_6_method_6_code, prog_6_method_7_code, prog_7_method_1_code, prog_7_method_2_code, prog_7_method_3_code, prog_7_method_4_code, prog_7_method_5_code, prog_7_method_6_code, prog_7_method_7_code, prog_7_method_8_code, prog_7_method_9_code, prog_7_method_10_code, prog_7_method_11_code, prog_7_method_12_code, prog_7_method_13_code, prog_7_method_14_code, prog_7_method_15_code, prog_7_method_16_code, prog_7_method_17_code, prog_7_method_18_code, prog_7_method_19_code, prog_8_method_1_code, prog_8_method_2_code, prog_8_method_3_code, prog_8_method_4_code, prog_8_method_5_code, prog_8_method_6_code, prog_8_method_7_code, prog_8_method_8_code, prog_8_method_9_code, prog_8_method_10_code, prog_8_method_11_code, prog_8_method_12_code, prog_8_method_13_code, prog_8_method_14_code, prog_8_method_15_code, prog_8_method_16_code, prog_8_method_17_code, prog_9_method_1_code, prog_9_method_2_code, prog_9_method_3_code, prog_9_method_4_code, prog_9_method_5_code, prog_9_method_6_code, prog_9_method_7_code, prog_9_method_8_code, prog_9_method_9_code, prog_9_method_10_code, prog_1_method_1_code, prog_1_method_2_code, prog_1_method_3_code, prog_1_method_4_code, prog_1_method_5_code, prog_1_method_6_code, prog_1_method_7_code, prog_1_method_8_code, prog_1_method_9_code, prog_1_method_10_code, prog_1_method_11_code, prog_1_method_12_code, prog_1_method_13_code, prog_1_method_14_code, prog_1_method_15_code, prog_1_method_16_code, prog_11_method_1_code, prog_11_method_2_code, prog_11_method_3_code, prog_11_method_4_code, prog_11_method_5_code, prog_11_method_6_code, prog_11_method_7_code, prog_11_method_8_code, prog_11_method_9_code, prog_11_method_10_code, prog_11_method_11_code, prog_11_method_12_code, prog_11_method_13_code, prog_11_method_14_code, prog_11_method_15_code, prog_11_method_16_code, prog_11_method_17_code, prog_11_method_18_code, prog_11_method_19_code, prog_11_method_20_code, prog_11_method_21_code, prog_11_method_22_code, prog_11_method_23_code, prog_11_method_24_code, prog_11_method_25_code, prog_11_method_26_code, prog_11_method_27_code, prog_11_method_28_code, prog_11_method_29_code, prog_11_method_30_code, prog_11_method_31_code, prog_11_method_32_code, prog_11_method_33_code, prog_11_method_34_code, prog_11_method_35_code, prog_11_method_36_code, prog_11_method_37_code, prog_11_method_38_code, prog_11_method_39_code, prog_11_method_40_code, prog_11_method_41_code, prog_11_method_42_code, prog_11_method_43_code, prog_11_method_44_code, prog_11_method_45_code, prog_11_method_46_code, prog_11_method_47_code, prog_11_method_48_code, prog_11_method_49_code, prog_11_method_50_code, prog_11_method_51_code, prog_11_method_52_code, method_3_code, method_4_code, method_5_code, method_6_code, method_7_code, method_8_code, method_9_code, method_10_code, method_11_code, method_12_code, code]
def zmlL : List Nat := [1, 4, 4, 4, 10, 3, 9, 10, 1, 5, 2, 4, 2, 2, 2, 2, 1, 2, 2, 7, 4, 3, 2, 4, 6, 4, 3, 5, 1, 4, 5, 3, 4, 3, 5, 2, 3, 2, 4, 3, 6, 4, 2, 7, 5, 4, 6, 4, 6, 1, 2, 2, 2, 2, 2, 2, 2, 3, 4, 1, 2, 4, 4, 5, 4, 11, 2, 3, 5, 2, 2, 1, 4, 3, 1, 1, 2, 1, 2, 4, 3, 2, 1, 2, 1, 1, 1, 2, 2, 2, 2, 2, 6, 2, 6, 6, 6, 3, 7, 14, 5, 1, 2, 2, 6, 2, 3, 4, 2, 4, 11, 8, 3, 2, 6, 2, 6, 4, 3, 2, 3, 3, 1, 1, 2, 1, 2, 4, 2, 2, 2, 5, 3, 8, 4, 2, 2, 3, 3, 5, 5, 4, 4, 5, 4, 4, 4, 8]
def zrtL : List (Option FieldType) := [none, none, none, none, (some .int), (some .boolean), (some .int), none, none, none, none, none, none, (some .int), (some .int), (some .int), none, none, (some .int), none, none, none, none, none, none, none, none, (some .int), (some .boolean), (some .int), (some .int), (some .int), none, none, none, (some (.object "RepairScan$Found")), (some .int), (some .int), none, none, (some .int), none, none, none, none, (some .int), (some .int), (some .int), (some .int), (some .boolean), (some .int), (some .int), (some .int), (some .int), (some .int), (some .int), (some .int), (some .boolean), (some .boolean), none, (some .int), none, none, none, none, none, none, none, none, none, none, (some .int), (some .long), (some .int), (some .int), (some .int), (some .int), (some .int), (some .int), (some .int), (some .boolean), (some .int), (some .int), (some .int), (some .boolean), none, (some .int), none, (some .int), (some .boolean), none, (some .boolean), (some .boolean), (some .boolean), (some .boolean), (some .int), (some .boolean), none, none, none, none, (some .int), (some .int), (some .boolean), none, (some .int), none, none, none, none, none, none, none, (some .int), (some .int), none, none, none, (some .int), (some .boolean), (some .long), (some .int), (some .int), (some .int), (some .int), (some .int), (some .int), (some .int), (some .boolean), (some .int), none, none, none, none, none, (some .int), (some .int), (some .int), (some .int), (some .int), (some .int), (some .int), (some .int), (some .int), (some .int), (some .int), (some .int), (some .boolean)]
def zdpL : List Nat := [1, 0, 0, 2, 7, 1, 3, 6, 2, 1, 1, 0, 1, 0, 0, 0, 1, 0, 0, 2, 1, 2, 0, 3, 9, 8, 1, 8, 1, 6, 5, 5, 3, 2, 8, 0, 1, 0, 2, 3, 2, 3, 1, 7, 0, 1, 1, 6, 6, 0, 0, 0, 0, 0, 0, 1, 2, 5, 4, 1, 0, 8, 7, 6, 6, 5, 0, 4, 1, 4, 8, 10, 8, 8, 0, 0, 8, 0, 8, 8, 8, 8, 10, 8, 0, 1, 0, 0, 0, 0, 1, 2, 1, 2, 2, 1, 3, 0, 6, 5, 4, 0, 0, 1, 7, 8, 0, 1, 2, 7, 7, 8, 8, 8, 9, 0, 9, 10, 11, 2, 9, 0, 0, 0, 0, 0, 0, 3, 3, 0, 0, 1, 1, 2, 8, 11, 0, 9, 11, 9, 9, 9, 9, 9, 9, 9, 9, 12]
def zstL : List Bool := [false, false, false, false, false, false, false, false, false, false, false, false, false, false, false, false, false, false, false, false, false, false, false, false, false, false, false, false, true, false, false, false, false, false, false, false, false, false, false, false, false, false, false, false, false, false, false, false, false, true, false, false, false, false, false, false, false, false, false, false, false, false, false, false, false, false, false, false, false, false, false, false, false, false, false, false, false, false, false, false, false, false, false, false, true, false, false, false, false, true, false, false, false, false, false, false, false, false, false, false, false, false, false, false, false, false, false, false, false, false, false, false, false, false, false, false, false, false, false, false, false, false, false, false, false, false, false, false, false, false, false, false, false, false, false, false, false, true, true, true, true, true, true, true, true, true, true, true]
def znaL : List Nat := [0, 3, 3, 3, 3, 1, 1, 4, 0, 4, 1, 3, 1, 1, 1, 1, 0, 0, 1, 2, 2, 1, 1, 2, 2, 2, 2, 1, 1, 1, 1, 1, 2, 1, 1, 1, 1, 1, 0, 0, 1, 0, 1, 2, 4, 2, 1, 2, 1, 1, 1, 1, 1, 1, 1, 1, 1, 2, 2, 0, 1, 1, 3, 2, 2, 5, 1, 1, 1, 0, 1, 0, 2, 2, 0, 0, 1, 0, 1, 2, 1, 1, 0, 1, 1, 0, 0, 1, 1, 1, 0, 0, 3, 1, 4, 2, 2, 2, 4, 2, 1, 0, 1, 1, 3, 1, 2, 2, 1, 0, 3, 0, 0, 1, 0, 1, 1, 0, 0, 1, 2, 2, 0, 0, 1, 0, 1, 2, 1, 1, 1, 1, 1, 3, 1, 0, 1, 2, 2, 4, 4, 3, 3, 4, 3, 3, 3, 1]
def ztbL : List (List (Nat × Nat × Nat × Nat)) := [[], [], [], [], [], [], [], [], [], [], [], [], [], [], [], [], [], [], [], [], [], [], [], [], [], [], [], [], [], [], [], [], [], [], [], [], [], [], [], [], [], [], [], [], [], [], [], [], [], [], [], [], [], [], [], [], [], [], [], [], [], [], [], [], [], [], [], [], [], [], [], [], [], [], [], [], [], [], [], [], [], [], [], [], [], [], [], [], [], [], [], [], [], [], [], [], [], [], [], [], [], [], [], [], [], [], [], [], [], [], [], [], [], [], [], [], [], [], [], [], [], [], [], [], [], [], [], [], [], [], [], [], [], [], [], [], [], [(0, 5, 8, 13)], [(0, 8, 11, 19)], [(0, 9, 12, 25), (0, 9, 16, 27)], [(0, 10, 13, 27)], [(0, 9, 12, 27)], [(0, 9, 12, 27)], [(0, 10, 13, 25), (0, 10, 17, 27)], [(0, 16, 19, 25)], [(0, 9, 12, 27)], [(0, 9, 12, 27)], []]
def zwpL : List (Nat × Nat × Nat × Nat) := [(163, 162, 0, 72), (690, 688, 689, 72), (730, 728, 729, 72), (157, 156, 0, 71), (694, 692, 693, 71), (701, 700, 15, 71), (709, 708, 16, 71), (717, 716, 17, 71), (259, 258, 0, 73), (686, 684, 685, 73), (135, 134, 0, 70), (669, 667, 668, 70), (657, 655, 656, 70), (561, 559, 560, 70), (550, 548, 549, 70), (554, 552, 553, 70), (327, 326, 0, 74), (792, 790, 791, 74), (966, 964, 965, 74), (796, 794, 795, 74), (801, 800, 28, 74), (811, 809, 810, 74), (806, 805, 29, 74), (129, 128, 0, 69), (579, 577, 578, 69), (583, 582, 7, 69), (665, 664, 13, 69), (678, 677, 14, 69), (751, 750, 0, 69), (738, 737, 18, 69), (742, 741, 19, 69), (747, 746, 20, 69), (758, 757, 21, 69), (762, 761, 22, 69), (766, 765, 23, 69), (527, 525, 526, 69), (780, 778, 779, 69), (566, 564, 565, 69), (770, 769, 24, 69), (776, 775, 25, 69), (784, 783, 26, 69), (788, 787, 27, 69), (102, 101, 0, 68), (594, 592, 593, 68), (600, 599, 8, 68), (608, 607, 9, 68), (623, 622, 10, 68), (651, 650, 12, 68), (627, 626, 11, 68), (615, 614, 0, 68), (612, 610, 611, 68), (604, 602, 603, 68), (619, 617, 618, 68), (674, 672, 673, 68), (631, 629, 630, 68), (635, 633, 634, 68), (682, 680, 681, 68), (640, 638, 639, 68), (645, 643, 644, 68), (420, 419, 0, 75), (1006, 1004, 1005, 75), (466, 464, 465, 75), (531, 530, 2, 75), (572, 571, 6, 75), (540, 539, 4, 75), (546, 545, 5, 75), (523, 522, 1, 75), (471, 470, 0, 75), (535, 534, 3, 75), (94, 93, 0, 67), (819, 817, 818, 67), (891, 889, 890, 67), (915, 913, 914, 67), (953, 951, 952, 67), (450, 448, 449, 67), (454, 452, 453, 67), (962, 960, 961, 67), (458, 456, 457, 67), (973, 971, 972, 67), (980, 978, 979, 67), (988, 986, 987, 67), (995, 993, 994, 67), (462, 460, 461, 67), (1002, 1000, 1001, 67), (705, 704, 0, 67), (1011, 1010, 0, 76), (1185, 1183, 1184, 76), (1189, 1187, 1188, 76), (1210, 1209, 34, 76), (1230, 1229, 0, 76), (1227, 1226, 38, 76), (1223, 1222, 37, 76), (1206, 1205, 33, 76), (1294, 1293, 51, 76), (1239, 1238, 40, 76), (1234, 1233, 39, 76), (1275, 1274, 47, 76), (1280, 1279, 48, 76), (1258, 1257, 44, 76), (1264, 1263, 45, 76), (1270, 1269, 46, 76), (1284, 1283, 49, 76), (1201, 1200, 32, 76), (1303, 1302, 53, 76), (1307, 1306, 54, 76), (1311, 1310, 55, 76), (1215, 1214, 35, 76), (1247, 1246, 42, 76), (1243, 1242, 41, 76), (1253, 1252, 43, 76), (1290, 1289, 50, 76), (1219, 1218, 36, 76), (1299, 1298, 52, 76), (1323, 1322, 57, 76), (1319, 1318, 56, 76), (1331, 1330, 59, 76), (1327, 1326, 58, 76), (1197, 1196, 31, 76), (1193, 1191, 1192, 76), (1340, 1339, 60, 76), (1336, 1334, 1335, 76), (1344, 1342, 1343, 76), (1348, 1346, 1347, 76), (1352, 1350, 1351, 76), (1356, 1354, 1355, 76), (1360, 1358, 1359, 76), (1364, 1362, 1363, 76), (1368, 1366, 1367, 76), (1372, 1370, 1371, 76), (1376, 1374, 1375, 76), (1390, 1389, 62, 76), (1385, 1384, 61, 76), (1398, 1397, 64, 76), (1403, 1402, 65, 76), (1394, 1393, 63, 76), (1380, 1378, 1379, 76), (1417, 1415, 1416, 76), (814, 813, 0, 66), (886, 885, 0, 66), (909, 908, 0, 66), (949, 948, 0, 66), (958, 957, 0, 66), (969, 968, 0, 66), (976, 975, 0, 66), (984, 983, 0, 66), (991, 990, 0, 66), (998, 997, 0, 66), (0, 0, 0, 0)]
def zyn (m : Nat) : MethodName := zynL.getD m ⟨"", "", ""⟩
def zby (m : Nat) : ByteArray := zbyL.getD m ByteArray.empty
def zml (m : Nat) : Nat := zmlL.getD m 0
def zrt (m : Nat) : Option FieldType := zrtL.getD m none
def zdp (m : Nat) : Nat := zdpL.getD m 99
def zst (m : Nat) : Bool := zstL.getD m false
def zna (m : Nat) : Nat := znaL.getD m 0
def ztb (m : Nat) : List (Nat × Nat × Nat × Nat) := ztbL.getD m []
def zwp (m : Nat) : Nat × Nat × Nat × Nat := zwpL.getD m (0, 0, 0, 0)
def zsoL : List (String × Nat × String × Nat) := [
  ("RepairScan$Writer", 19, "%P\n", 467),
  ("RepairScan$Writer", 46, " 0 obj\n", 536),
  ("RepairScan$Writer", 81, "<< /Length ", 541),
  ("RepairScan$Writer", 89, " ", 542),
  ("RepairScan$Writer", 142, "null", 562),
  ("RepairScan$Writer", 99, " stream\n", 567),
  ("RepairScan$Writer", 104, "\nendstream", 568),
  ("RepairScan$Writer", 61, "\nendobj\n", 573),
  ("RepairScan$Writer", 38, "trailer << /Root ", 574),
  ("RepairScan$Writer", 44, " 0 R >>\n", 575),
  ("RepairScan$Tokens", 85, "R", 636),
  ("RepairScan$Tokens", 87, "obj", 647),
  ("RepairScan$Tokens", 71, "endobj", 652),
  ("RepairScan$Tokens", 77, "trailer", 653),
  ("RepairScan$Scan", 146, "%P", 660),
  ("RepairScan$DictionaryReader", 87, "/Type", 718),
  ("RepairScan$DictionaryReader", 93, "/Catalog", 720),
  ("RepairScan$DictionaryReader", 95, "/Pages", 721),
  ("RepairScan$DictionaryReader", 97, "/Page", 722),
  ("RepairScan$DictionaryReader", 105, "/Kids", 723),
  ("RepairScan$DictionaryReader", 113, "/Length", 724),
  ("RepairScan$DictionaryReader", 118, "/Root", 725),
  ("RepairScan$DictionaryReader", 123, "/Size", 726),
  ("RepairScan$Scan", 180, "stream", 731),
  ("RepairScan$Scan", 231, "endstream", 743)]
def zsbL : List (List Nat) := [
  [37, 80, 10],
  [32, 48, 32, 111, 98, 106, 10],
  [60, 60, 32, 47, 76, 101, 110, 103, 116, 104, 32],
  [32],
  [110, 117, 108, 108],
  [32, 115, 116, 114, 101, 97, 109, 10],
  [10, 101, 110, 100, 115, 116, 114, 101, 97, 109],
  [10, 101, 110, 100, 111, 98, 106, 10],
  [116, 114, 97, 105, 108, 101, 114, 32, 60, 60, 32, 47, 82, 111, 111, 116, 32],
  [32, 48, 32, 82, 32, 62, 62, 10],
  [82],
  [111, 98, 106],
  [101, 110, 100, 111, 98, 106],
  [116, 114, 97, 105, 108, 101, 114],
  [37, 80],
  [47, 84, 121, 112, 101],
  [47, 67, 97, 116, 97, 108, 111, 103],
  [47, 80, 97, 103, 101, 115],
  [47, 80, 97, 103, 101],
  [47, 75, 105, 100, 115],
  [47, 76, 101, 110, 103, 116, 104],
  [47, 82, 111, 111, 116],
  [47, 83, 105, 122, 101],
  [115, 116, 114, 101, 97, 109],
  [101, 110, 100, 115, 116, 114, 101, 97, 109]]
def zkL : List Nat := [9, 7, 21, 21, 21, 21, 22, 22, 6, 22, 4, 21, 21, 21, 4, 21, 21, 21, 4, 21, 21, 21, 4, 21, 21, 21, 2, 1, 1, 25, 3, 1, 3, 1, 3, 1, 3, 1, 3, 1, 3, 1, 3, 1, 3, 1, 3, 1, 3, 1, 3, 1, 3, 1, 3, 1, 3, 1, 3, 1, 3, 1, 3, 1, 3, 1, 3, 1, 3, 1, 3, 1, 3, 1, 3, 1, 3, 1, 3, 1, 3, 1, 3, 1, 3, 1, 3, 1, 3, 1, 3, 1, 3, 1, 3, 1, 3, 1, 3, 1, 3, 1, 3, 1, 3, 1, 3, 1, 3, 1, 3, 1, 3, 1, 3, 1, 3, 1, 3, 1, 3, 1, 3, 1, 3, 1, 3, 1, 3, 1, 3, 1, 3, 1, 3, 1, 3, 1, 3, 1, 3, 1, 3, 1, 3, 1, 3, 1, 3, 1, 3, 1, 3, 1, 5, 21, 23, 21, 21, 6, 22, 4, 21, 21, 21, 4, 21, 21, 21, 4, 21, 21, 21, 4, 21, 21, 21, 2, 1, 1, 25, 3, 1, 3, 1, 3, 1, 3, 1, 3, 1, 3, 1, 3, 1, 3, 1, 3, 1, 3, 1, 3, 1, 3, 1, 3, 1, 3, 1, 3, 1, 3, 1, 3, 1, 3, 1, 3, 1, 3, 1, 3, 1, 3, 1, 3, 1, 3, 1, 3, 1, 3, 1, 3, 1, 3, 1, 3, 1, 3, 1, 3, 1, 3, 1, 3, 1, 3, 1, 3, 1, 3, 1, 3, 1, 3, 1, 3, 1, 3, 1, 3, 1, 3, 1, 3, 1, 3, 1, 3, 1, 3, 1, 3, 1, 3, 1, 3, 1, 3, 1, 3, 1, 3, 1, 3, 1, 3, 1, 3, 1, 3, 1, 3, 1, 3, 1, 3, 1, 3, 1, 3, 1, 3, 1, 5, 21, 23, 21, 21, 8, 22, 10, 21, 21, 21, 23, 21, 21, 21, 23, 21, 21, 21, 21, 21, 21, 21, 21, 21, 21, 21, 21, 21, 21, 21, 21, 21, 23, 21, 21, 24]
def zlL : List Nat := [0, 0, 3001, 3001, 3001, 3001, 0, 1500, 0, 1500, 0, 301, 301, 301, 0, 188, 188, 188, 0, 510, 510, 510, 0, 215, 215, 215, 0, 0, 0, 61, 0, 0, 0, 0, 0, 0, 0, 0, 0, 0, 0, 0, 0, 0, 0, 0, 0, 0, 0, 0, 0, 0, 0, 0, 0, 0, 0, 0, 0, 0, 0, 0, 0, 0, 0, 0, 0, 0, 0, 0, 0, 0, 0, 0, 0, 0, 0, 0, 0, 0, 0, 0, 0, 0, 0, 0, 0, 0, 0, 0, 0, 0, 0, 0, 0, 0, 0, 0, 0, 0, 0, 0, 0, 0, 0, 0, 0, 0, 0, 0, 0, 0, 0, 0, 0, 0, 0, 0, 0, 0, 0, 0, 0, 0, 0, 0, 0, 0, 0, 0, 0, 0, 0, 0, 0, 0, 0, 0, 0, 0, 0, 0, 0, 0, 0, 0, 0, 0, 0, 0, 0, 0, 0, 0, 0, 61, 61, 61, 61, 0, 3000, 0, 601, 601, 601, 0, 376, 376, 376, 0, 1010, 1010, 1010, 0, 429, 429, 429, 0, 0, 0, 61, 0, 0, 0, 0, 0, 0, 0, 0, 0, 0, 0, 0, 0, 0, 0, 0, 0, 0, 0, 0, 0, 0, 0, 0, 0, 0, 0, 0, 0, 0, 0, 0, 0, 0, 0, 0, 0, 0, 0, 0, 0, 0, 0, 0, 0, 0, 0, 0, 0, 0, 0, 0, 0, 0, 0, 0, 0, 0, 0, 0, 0, 0, 0, 0, 0, 0, 0, 0, 0, 0, 0, 0, 0, 0, 0, 0, 0, 0, 0, 0, 0, 0, 0, 0, 0, 0, 0, 0, 0, 0, 0, 0, 0, 0, 0, 0, 0, 0, 0, 0, 0, 0, 0, 0, 0, 0, 0, 0, 0, 0, 0, 0, 0, 0, 0, 0, 0, 0, 0, 0, 0, 0, 0, 0, 0, 61, 61, 61, 61, 0, 3000, 0, 1500, 2, 6000, 122, 122, 122, 122, 122, 122, 122, 2, 4000, 4000, 800, 2, 2, 2, 2, 2, 122, 700, 700, 700, 700, 700, 61, 1400, 3000, 1]
def K0 (a : Nat) : Nat := zkL.getD a 0
def L0 (a : Nat) : Nat := zlL.getD a 0
def zsz (a : Nat) : Nat := if K0 a ≤ 10 then znF (K0 a - 1) else L0 a
def zss : Nat → Nat
  | 0 => 0
  | n + 1 => zss n + zsz n
def zc_0 : List (Nat × MI) := [(0, 8, 0, 0, 0, 0, []), (1, 77, 1, 0, 0, 98, []), (4, 86, 0, 0, 0, 0, [])]
def zc_1 : List (Nat × MI) := [(0, 8, 0, 0, 0, 0, []), (1, 6, 1, 0, 0, 0, []), (2, 55, 7, 0, 0, 99, []), (5, 8, 0, 0, 0, 0, []), (6, 6, 1, 0, 0, 0, []), (7, 55, 13, 0, 1, 101, []), (10, 8, 0, 0, 0, 0, []), (11, 1, 0, 0, 0, 0, []), (12, 55, 16, 0, 2, 103, []), (15, 8, 0, 0, 0, 0, []), (16, 1, 0, 0, 0, 0, []), (17, 55, 20, 0, 3, 106, []), (20, 8, 0, 0, 0, 0, []), (21, 1, 0, 0, 0, 0, []), (22, 55, 23, 0, 4, 111, []), (25, 8, 0, 0, 0, 0, []), (26, 1, 0, 0, 0, (-1), []), (27, 55, 26, 0, 5, 114, []), (30, 8, 0, 0, 0, 0, []), (31, 1, 0, 0, 0, 0, []), (32, 55, 29, 0, 6, 117, []), (35, 8, 0, 0, 0, 0, []), (36, 1, 0, 0, 0, (-1), []), (37, 55, 32, 0, 7, 120, []), (40, 8, 0, 0, 0, 0, []), (41, 1, 0, 0, 0, 0, []), (42, 55, 35, 0, 8, 123, []), (45, 8, 0, 0, 0, 0, []), (46, 1, 0, 0, 0, 0, []), (47, 55, 38, 0, 9, 126, []), (50, 8, 0, 0, 0, 0, []), (51, 6, 2, 0, 0, 0, []), (52, 55, 41, 0, 10, 129, []), (55, 8, 0, 0, 0, 0, []), (56, 6, 2, 0, 0, 0, []), (57, 55, 44, 0, 11, 133, []), (60, 8, 0, 0, 0, 0, []), (61, 6, 3, 0, 0, 0, []), (62, 55, 47, 0, 12, 137, []), (65, 8, 0, 0, 0, 0, []), (66, 6, 3, 0, 0, 0, []), (67, 55, 50, 0, 13, 139, []), (70, 86, 0, 0, 0, 0, [])]
def zc_2 : List (Nat × MI) := [(0, 8, 0, 0, 0, 0, []), (1, 6, 1, 0, 0, 0, []), (2, 55, 13, 0, 1, 101, []), (5, 8, 0, 0, 0, 0, []), (6, 6, 2, 0, 0, 0, []), (7, 55, 44, 0, 11, 133, []), (10, 8, 0, 0, 0, 0, []), (11, 6, 3, 0, 0, 0, []), (12, 55, 50, 0, 13, 139, []), (15, 86, 0, 0, 0, 0, [])]
def zc_3 : List (Nat × MI) := [(0, 8, 0, 0, 0, 0, []), (1, 77, 3, 0, 0, 92, []), (4, 8, 0, 0, 0, 0, []), (5, 8, 1, 0, 0, 0, []), (6, 57, 9, 1, 0, 170, []), (9, 8, 0, 0, 0, 0, []), (10, 8, 2, 0, 0, 0, []), (11, 57, 15, 1, 1, 171, []), (14, 8, 0, 0, 0, 0, []), (15, 8, 3, 0, 0, 0, []), (16, 57, 19, 1, 2, 172, []), (19, 8, 0, 0, 0, 0, []), (20, 69, 22, 0, 0, 93, []), (23, 33, 0, 0, 0, 0, []), (24, 74, 24, 0, 0, 95, []), (27, 55, 25, 1, 3, 173, []), (30, 8, 0, 0, 0, 0, []), (31, 1, 0, 0, 0, 0, []), (32, 55, 29, 1, 4, 174, []), (35, 86, 0, 0, 0, 0, [])]
def zc_4 : List (Nat × MI) := [(0, 8, 0, 0, 0, 0, []), (1, 8, 1, 0, 0, 0, []), (2, 55, 25, 1, 3, 173, []), (5, 8, 0, 0, 0, 0, []), (6, 6, 3, 0, 0, 0, []), (7, 55, 29, 1, 4, 174, []), (10, 8, 0, 0, 0, 0, []), (11, 53, 25, 1, 3, 173, []), (14, 8, 0, 0, 0, 0, []), (15, 53, 9, 1, 0, 170, []), (18, 6, 2, 0, 0, 0, []), (19, 72, 33, 52, 0, 629, []), (22, 8, 0, 0, 0, 0, []), (23, 53, 15, 1, 1, 171, []), (26, 54, 39, 3, 3, 75, []), (29, 8, 0, 0, 0, 0, []), (30, 53, 19, 1, 2, 172, []), (33, 54, 39, 3, 3, 75, []), (36, 72, 45, 1, 0, 630, []), (39, 8, 0, 0, 0, 0, []), (40, 53, 9, 1, 0, 170, []), (43, 6, 2, 0, 0, 0, []), (44, 72, 49, 55, 0, 631, []), (47, 13, 4, 0, 0, 0, []), (49, 1, 0, 0, 0, 0, []), (50, 13, 5, 0, 0, 0, []), (52, 7, 5, 0, 0, 0, []), (54, 3, 0, 0, 0, 3000, []), (57, 46, 200, 0, 0, 143, []), (60, 8, 0, 0, 0, 0, []), (61, 7, 4, 0, 0, 0, []), (63, 72, 52, 5, 0, 632, []), (66, 37, 200, 0, 0, 134, []), (69, 8, 0, 0, 0, 0, []), (70, 53, 9, 1, 0, 170, []), (73, 7, 4, 0, 0, 0, []), (75, 72, 56, 53, 0, 636, []), (78, 13, 6, 0, 0, 0, []), (80, 7, 6, 0, 0, 0, []), (82, 2, 0, 0, 0, 10, []), (84, 43, 109, 0, 0, 25, []), (87, 8, 0, 0, 0, 0, []), (88, 53, 25, 1, 3, 173, []), (91, 1, 0, 0, 0, 1, []), (92, 56, 59, 0, 2, 104, []), (95, 8, 0, 0, 0, 0, []), (96, 53, 9, 1, 0, 170, []), (99, 7, 4, 0, 0, 0, []), (101, 72, 33, 52, 0, 629, []), (104, 13, 4, 0, 0, 0, []), (106, 50, 200, 0, 0, 94, []), (109, 8, 0, 0, 0, 0, []), (110, 53, 9, 1, 0, 170, []), (113, 7, 4, 0, 0, 0, []), (115, 72, 49, 55, 0, 631, []), (118, 13, 7, 0, 0, 0, []), (120, 7, 6, 0, 0, 0, []), (122, 2, 0, 0, 0, 8, []), (124, 43, 190, 0, 0, 66, []), (127, 8, 0, 0, 0, 0, []), (128, 53, 9, 1, 0, 170, []), (131, 7, 7, 0, 0, 0, []), (133, 72, 56, 53, 0, 636, []), (136, 2, 0, 0, 0, 10, []), (138, 42, 190, 0, 0, 52, []), (141, 8, 0, 0, 0, 0, []), (142, 7, 7, 0, 0, 0, []), (144, 72, 52, 5, 0, 632, []), (147, 37, 190, 0, 0, 43, []), (150, 8, 0, 0, 0, 0, []), (151, 53, 15, 1, 1, 171, []), (154, 54, 39, 3, 3, 75, []), (157, 13, 8, 0, 0, 0, []), (159, 8, 0, 0, 0, 0, []), (160, 7, 7, 0, 0, 0, []), (162, 72, 62, 6, 0, 640, []), (165, 13, 9, 0, 0, 0, []), (167, 8, 0, 0, 0, 0, []), (168, 7, 4, 0, 0, 0, []), (170, 7, 7, 0, 0, 0, []), (172, 7, 9, 0, 0, 0, []), (174, 7, 8, 0, 0, 0, []), (176, 72, 65, 7, 0, 648, []), (179, 8, 0, 0, 0, 0, []), (180, 53, 9, 1, 0, 170, []), (183, 7, 9, 0, 0, 0, []), (185, 72, 69, 51, 0, 647, []), (188, 13, 7, 0, 0, 0, []), (190, 7, 7, 0, 0, 0, []), (192, 13, 4, 0, 0, 0, []), (194, 18, 5, 0, 0, 1, []), (197, 50, 52, 0, 0, (-145), []), (200, 8, 0, 0, 0, 0, []), (201, 53, 25, 1, 3, 173, []), (204, 7, 4, 0, 0, 0, []), (206, 8, 0, 0, 0, 0, []), (207, 53, 15, 1, 1, 171, []), (210, 54, 39, 3, 3, 75, []), (213, 8, 0, 0, 0, 0, []), (214, 53, 19, 1, 2, 172, []), (217, 54, 39, 3, 3, 75, []), (220, 72, 72, 2, 0, 661, []), (223, 7, 4, 0, 0, 0, []), (225, 83, 0, 0, 0, 0, [])]
def zc_5 : List (Nat × MI) := [(0, 8, 0, 0, 0, 0, []), (1, 53, 9, 1, 0, 170, []), (4, 6, 1, 0, 0, 0, []), (5, 72, 56, 53, 0, 636, []), (8, 12, 2, 0, 0, 0, []), (9, 6, 2, 0, 0, 0, []), (10, 36, 27, 0, 0, 17, []), (13, 8, 0, 0, 0, 0, []), (14, 53, 29, 1, 4, 174, []), (17, 36, 31, 0, 0, 14, []), (20, 6, 2, 0, 0, 0, []), (21, 76, 75, 84, 0, 637, []), (24, 36, 31, 0, 0, 7, []), (27, 1, 0, 0, 0, 1, []), (28, 50, 32, 0, 0, 4, []), (31, 1, 0, 0, 0, 0, []), (32, 83, 0, 0, 0, 0, [])]
def zc_6 : List (Nat × MI) := [(0, 8, 0, 0, 0, 0, []), (1, 53, 9, 1, 0, 170, []), (4, 6, 1, 0, 0, 0, []), (5, 72, 56, 53, 0, 636, []), (8, 12, 2, 0, 0, 0, []), (9, 6, 2, 0, 0, 0, []), (10, 2, 0, 0, 0, 9, []), (12, 43, 20, 0, 0, 8, []), (15, 2, 0, 0, 0, 10, []), (17, 50, 32, 0, 0, 15, []), (20, 6, 2, 0, 0, 0, []), (21, 2, 0, 0, 0, 11, []), (23, 43, 31, 0, 0, 8, []), (26, 2, 0, 0, 0, 12, []), (28, 50, 32, 0, 0, 4, []), (31, 1, 0, 0, 0, 0, []), (32, 12, 3, 0, 0, 0, []), (33, 1, 0, 0, 0, 0, []), (34, 13, 4, 0, 0, 0, []), (36, 6, 1, 0, 0, 0, []), (37, 13, 5, 0, 0, 0, []), (39, 1, 0, 0, 0, 0, []), (40, 13, 6, 0, 0, 0, []), (42, 7, 6, 0, 0, 0, []), (44, 3, 0, 0, 0, 3000, []), (47, 46, 171, 0, 0, 124, []), (50, 8, 0, 0, 0, 0, []), (51, 7, 5, 0, 0, 0, []), (53, 72, 52, 5, 0, 632, []), (56, 37, 171, 0, 0, 115, []), (59, 8, 0, 0, 0, 0, []), (60, 53, 9, 1, 0, 170, []), (63, 7, 5, 0, 0, 0, []), (65, 72, 56, 53, 0, 636, []), (68, 13, 7, 0, 0, 0, []), (70, 8, 0, 0, 0, 0, []), (71, 53, 9, 1, 0, 170, []), (74, 7, 5, 0, 0, 0, []), (76, 72, 33, 52, 0, 629, []), (79, 13, 8, 0, 0, 0, []), (81, 7, 7, 0, 0, 0, []), (83, 1, 0, 0, 0, 4, []), (84, 43, 121, 0, 0, 37, []), (87, 8, 0, 0, 0, 0, []), (88, 53, 9, 1, 0, 170, []), (91, 7, 5, 0, 0, 0, []), (93, 72, 78, 56, 0, 644, []), (96, 13, 8, 0, 0, 0, []), (98, 8, 0, 0, 0, 0, []), (99, 53, 15, 1, 1, 171, []), (102, 8, 0, 0, 0, 0, []), (103, 53, 9, 1, 0, 170, []), (106, 7, 5, 0, 0, 0, []), (108, 72, 81, 54, 0, 645, []), (111, 7, 5, 0, 0, 0, []), (113, 7, 8, 0, 0, 0, []), (115, 72, 84, 11, 0, 646, []), (118, 50, 146, 0, 0, 28, []), (121, 7, 7, 0, 0, 0, []), (123, 6, 3, 0, 0, 0, []), (124, 43, 133, 0, 0, 9, []), (127, 18, 4, 0, 0, (-1), []), (130, 50, 146, 0, 0, 16, []), (133, 7, 7, 0, 0, 0, []), (135, 6, 2, 0, 0, 0, []), (136, 43, 146, 0, 0, 10, []), (139, 6, 3, 0, 0, 0, []), (140, 36, 146, 0, 0, 6, []), (143, 18, 4, 0, 0, 1, []), (146, 7, 4, 0, 0, 0, []), (148, 37, 154, 0, 0, 6, []), (151, 7, 8, 0, 0, 0, []), (153, 83, 0, 0, 0, 0, []), (154, 8, 0, 0, 0, 0, []), (155, 53, 9, 1, 0, 170, []), (158, 7, 8, 0, 0, 0, []), (160, 72, 69, 51, 0, 647, []), (163, 13, 5, 0, 0, 0, []), (165, 18, 6, 0, 0, 1, []), (168, 50, 42, 0, 0, (-126), []), (171, 7, 5, 0, 0, 0, []), (173, 83, 0, 0, 0, 0, [])]
def zc_7 : List (Nat × MI) := [(0, 8, 0, 0, 0, 0, []), (1, 53, 9, 1, 0, 170, []), (4, 6, 2, 0, 0, 0, []), (5, 72, 56, 53, 0, 636, []), (8, 1, 0, 0, 0, 4, []), (9, 43, 16, 0, 0, 7, []), (12, 1, 0, 0, 0, 1, []), (13, 50, 17, 0, 0, 4, []), (16, 1, 0, 0, 0, 0, []), (17, 13, 5, 0, 0, 0, []), (19, 8, 0, 0, 0, 0, []), (20, 53, 9, 1, 0, 170, []), (23, 6, 2, 0, 0, 0, []), (24, 72, 81, 54, 0, 645, []), (27, 13, 6, 0, 0, 0, []), (29, 8, 0, 0, 0, 0, []), (30, 53, 9, 1, 0, 170, []), (33, 6, 1, 0, 0, 0, []), (34, 70, 87, 15, 0, 0, []), (36, 72, 89, 57, 0, 653, []), (39, 36, 116, 0, 0, 77, []), (42, 8, 0, 0, 0, 0, []), (43, 53, 9, 1, 0, 170, []), (46, 6, 2, 0, 0, 0, []), (47, 70, 93, 16, 0, 0, []), (49, 72, 89, 57, 0, 653, []), (52, 13, 7, 0, 0, 0, []), (54, 8, 0, 0, 0, 0, []), (55, 53, 9, 1, 0, 170, []), (58, 6, 2, 0, 0, 0, []), (59, 70, 95, 17, 0, 0, []), (61, 72, 89, 57, 0, 653, []), (64, 13, 8, 0, 0, 0, []), (66, 8, 0, 0, 0, 0, []), (67, 53, 9, 1, 0, 170, []), (70, 6, 2, 0, 0, 0, []), (71, 70, 97, 18, 0, 0, []), (73, 72, 89, 57, 0, 653, []), (76, 13, 9, 0, 0, 0, []), (78, 8, 0, 0, 0, 0, []), (79, 53, 25, 1, 3, 173, []), (82, 7, 7, 0, 0, 0, []), (84, 36, 91, 0, 0, 7, []), (87, 1, 0, 0, 0, 1, []), (88, 50, 110, 0, 0, 22, []), (91, 7, 8, 0, 0, 0, []), (93, 36, 100, 0, 0, 7, []), (96, 1, 0, 0, 0, 2, []), (97, 50, 110, 0, 0, 13, []), (100, 7, 9, 0, 0, 0, []), (102, 36, 109, 0, 0, 7, []), (105, 1, 0, 0, 0, 3, []), (106, 50, 110, 0, 0, 4, []), (109, 1, 0, 0, 0, 0, []), (110, 56, 99, 0, 3, 109, []), (113, 50, 298, 0, 0, 185, []), (116, 8, 0, 0, 0, 0, []), (117, 53, 9, 1, 0, 170, []), (120, 6, 1, 0, 0, 0, []), (121, 70, 95, 17, 0, 0, []), (123, 72, 89, 57, 0, 653, []), (126, 36, 150, 0, 0, 24, []), (129, 8, 0, 0, 0, 0, []), (130, 53, 25, 1, 3, 173, []), (133, 7, 5, 0, 0, 0, []), (135, 36, 143, 0, 0, 8, []), (138, 7, 6, 0, 0, 0, []), (140, 50, 144, 0, 0, 4, []), (143, 1, 0, 0, 0, 0, []), (144, 56, 102, 0, 4, 112, []), (147, 50, 298, 0, 0, 151, []), (150, 8, 0, 0, 0, 0, []), (151, 53, 9, 1, 0, 170, []), (154, 6, 1, 0, 0, 0, []), (155, 70, 105, 19, 0, 0, []), (157, 72, 89, 57, 0, 653, []), (160, 36, 189, 0, 0, 29, []), (163, 8, 0, 0, 0, 0, []), (164, 53, 25, 1, 3, 173, []), (167, 7, 4, 0, 0, 0, []), (169, 56, 107, 0, 8, 125, []), (172, 8, 0, 0, 0, 0, []), (173, 53, 25, 1, 3, 173, []), (176, 8, 0, 0, 0, 0, []), (177, 53, 15, 1, 1, 171, []), (180, 54, 39, 3, 3, 75, []), (183, 56, 110, 0, 9, 128, []), (186, 50, 298, 0, 0, 112, []), (189, 8, 0, 0, 0, 0, []), (190, 53, 9, 1, 0, 170, []), (193, 6, 1, 0, 0, 0, []), (194, 70, 113, 20, 0, 0, []), (196, 72, 89, 57, 0, 653, []), (199, 36, 233, 0, 0, 34, []), (202, 8, 0, 0, 0, 0, []), (203, 53, 25, 1, 3, 173, []), (206, 7, 5, 0, 0, 0, []), (208, 36, 215, 0, 0, 7, []), (211, 1, 0, 0, 0, (-1), []), (212, 50, 217, 0, 0, 5, []), (215, 7, 6, 0, 0, 0, []), (217, 56, 115, 0, 5, 115, []), (220, 8, 0, 0, 0, 0, []), (221, 53, 19, 1, 2, 172, []), (224, 1, 0, 0, 0, 0, []), (225, 6, 1, 0, 0, 0, []), (226, 6, 3, 0, 0, 0, []), (227, 72, 84, 11, 0, 646, []), (230, 50, 298, 0, 0, 68, []), (233, 8, 0, 0, 0, 0, []), (234, 53, 9, 1, 0, 170, []), (237, 6, 1, 0, 0, 0, []), (238, 70, 118, 21, 0, 0, []), (240, 72, 89, 57, 0, 653, []), (243, 36, 267, 0, 0, 24, []), (246, 8, 0, 0, 0, 0, []), (247, 53, 25, 1, 3, 173, []), (250, 7, 5, 0, 0, 0, []), (252, 36, 260, 0, 0, 8, []), (255, 7, 6, 0, 0, 0, []), (257, 50, 261, 0, 0, 4, []), (260, 1, 0, 0, 0, 0, []), (261, 56, 120, 0, 6, 118, []), (264, 50, 298, 0, 0, 34, []), (267, 8, 0, 0, 0, 0, []), (268, 53, 9, 1, 0, 170, []), (271, 6, 1, 0, 0, 0, []), (272, 70, 123, 22, 0, 0, []), (274, 72, 89, 57, 0, 653, []), (277, 36, 298, 0, 0, 21, []), (280, 8, 0, 0, 0, 0, []), (281, 53, 25, 1, 3, 173, []), (284, 7, 5, 0, 0, 0, []), (286, 36, 293, 0, 0, 7, []), (289, 1, 0, 0, 0, (-1), []), (290, 50, 295, 0, 0, 5, []), (293, 7, 6, 0, 0, 0, []), (295, 56, 125, 0, 7, 121, []), (298, 86, 0, 0, 0, 0, [])]
def zc_8 : List (Nat × MI) := [(0, 8, 0, 0, 0, 0, []), (1, 77, 1, 0, 0, 194, []), (4, 8, 0, 0, 0, 0, []), (5, 69, 7, 0, 0, 195, []), (8, 33, 0, 0, 0, 0, []), (9, 74, 9, 0, 0, 196, []), (12, 57, 10, 2, 0, 197, []), (15, 86, 0, 0, 0, 0, [])]
def zc_9 : List (Nat × MI) := [(0, 8, 0, 0, 0, 0, []), (1, 53, 10, 2, 0, 197, []), (4, 6, 2, 0, 0, 0, []), (5, 6, 3, 0, 0, 0, []), (6, 7, 4, 0, 0, 0, []), (8, 72, 16, 1, 0, 621, []), (11, 8, 0, 0, 0, 0, []), (12, 1, 0, 0, 0, 0, []), (13, 55, 20, 2, 1, 202, []), (16, 8, 0, 0, 0, 0, []), (17, 6, 1, 0, 0, 0, []), (18, 55, 24, 2, 2, 204, []), (21, 8, 0, 0, 0, 0, []), (22, 6, 2, 0, 0, 0, []), (23, 55, 28, 2, 3, 207, []), (26, 8, 0, 0, 0, 0, []), (27, 6, 2, 0, 0, 0, []), (28, 55, 31, 2, 4, 210, []), (31, 8, 0, 0, 0, 0, []), (32, 1, 0, 0, 0, 0, []), (33, 55, 34, 2, 5, 214, []), (36, 8, 0, 0, 0, 0, []), (37, 1, 0, 0, 0, 0, []), (38, 55, 37, 2, 6, 217, []), (41, 8, 0, 0, 0, 0, []), (42, 1, 0, 0, 0, 0, []), (43, 55, 40, 2, 7, 221, []), (46, 8, 0, 0, 0, 0, []), (47, 1, 0, 0, 0, 0, []), (48, 55, 43, 2, 8, 224, []), (51, 8, 0, 0, 0, 0, []), (52, 1, 0, 0, 0, 0, []), (53, 55, 46, 2, 9, 226, []), (56, 8, 0, 0, 0, 0, []), (57, 1, 0, 0, 0, 0, []), (58, 55, 49, 2, 10, 230, []), (61, 86, 0, 0, 0, 0, [])]
def zc_10 : List (Nat × MI) := [(0, 8, 0, 0, 0, 0, []), (1, 77, 1, 0, 0, 70, []), (4, 8, 0, 0, 0, 0, []), (5, 6, 1, 0, 0, 0, []), (6, 67, 0, 0, 0, 0, []), (8, 57, 7, 3, 0, 71, []), (11, 8, 0, 0, 0, 0, []), (12, 6, 1, 0, 0, 0, []), (13, 67, 0, 0, 0, 0, []), (15, 57, 13, 3, 1, 72, []), (18, 8, 0, 0, 0, 0, []), (19, 6, 1, 0, 0, 0, []), (20, 67, 0, 0, 0, 0, []), (22, 57, 16, 3, 2, 73, []), (25, 8, 0, 0, 0, 0, []), (26, 1, 0, 0, 0, 0, []), (27, 55, 19, 3, 3, 74, []), (30, 86, 0, 0, 0, 0, [])]
def zc_11 : List (Nat × MI) := [(0, 8, 0, 0, 0, 0, []), (1, 53, 19, 3, 3, 74, []), (4, 38, 83, 0, 0, 79, []), (7, 8, 0, 0, 0, 0, []), (8, 53, 19, 3, 3, 74, []), (11, 8, 0, 0, 0, 0, []), (12, 53, 7, 3, 0, 71, []), (15, 66, 0, 0, 0, 0, []), (16, 45, 83, 0, 0, 67, []), (19, 8, 0, 0, 0, 0, []), (20, 53, 19, 3, 3, 74, []), (23, 8, 0, 0, 0, 0, []), (24, 53, 13, 3, 1, 72, []), (27, 66, 0, 0, 0, 0, []), (28, 45, 83, 0, 0, 55, []), (31, 8, 0, 0, 0, 0, []), (32, 53, 19, 3, 3, 74, []), (35, 8, 0, 0, 0, 0, []), (36, 53, 16, 3, 2, 73, []), (39, 66, 0, 0, 0, 0, []), (40, 45, 83, 0, 0, 43, []), (43, 8, 0, 0, 0, 0, []), (44, 53, 7, 3, 0, 71, []), (47, 8, 0, 0, 0, 0, []), (48, 53, 19, 3, 3, 74, []), (51, 6, 1, 0, 0, 0, []), (52, 59, 0, 0, 0, 0, []), (53, 8, 0, 0, 0, 0, []), (54, 53, 13, 3, 1, 72, []), (57, 8, 0, 0, 0, 0, []), (58, 53, 19, 3, 3, 74, []), (61, 6, 2, 0, 0, 0, []), (62, 59, 0, 0, 0, 0, []), (63, 8, 0, 0, 0, 0, []), (64, 53, 16, 3, 2, 73, []), (67, 8, 0, 0, 0, 0, []), (68, 53, 19, 3, 3, 74, []), (71, 6, 3, 0, 0, 0, []), (72, 59, 0, 0, 0, 0, []), (73, 8, 0, 0, 0, 0, []), (74, 33, 0, 0, 0, 0, []), (75, 53, 19, 3, 3, 74, []), (78, 1, 0, 0, 0, 1, []), (79, 19, 0, 0, 0, 0, []), (80, 55, 19, 3, 3, 74, []), (83, 86, 0, 0, 0, 0, [])]
def zc_12 : List (Nat × MI) := [(0, 8, 0, 0, 0, 0, []), (1, 1, 0, 0, 0, 0, []), (2, 8, 0, 0, 0, 0, []), (3, 53, 19, 3, 3, 74, []), (6, 6, 1, 0, 0, 0, []), (7, 81, 23, 0, 0, 592, []), (10, 80, 29, 0, 0, 593, []), (13, 55, 19, 3, 3, 74, []), (16, 86, 0, 0, 0, 0, [])]
def zc_13 : List (Nat × MI) := [(0, 6, 1, 0, 0, 0, []), (1, 38, 30, 0, 0, 29, []), (4, 6, 1, 0, 0, 0, []), (5, 8, 0, 0, 0, 0, []), (6, 53, 19, 3, 3, 74, []), (9, 45, 30, 0, 0, 21, []), (12, 6, 1, 0, 0, 0, []), (13, 8, 0, 0, 0, 0, []), (14, 53, 7, 3, 0, 71, []), (17, 66, 0, 0, 0, 0, []), (18, 45, 30, 0, 0, 12, []), (21, 8, 0, 0, 0, 0, []), (22, 53, 7, 3, 0, 71, []), (25, 6, 1, 0, 0, 0, []), (26, 58, 0, 0, 0, 0, []), (27, 50, 31, 0, 0, 4, []), (30, 1, 0, 0, 0, (-1), []), (31, 83, 0, 0, 0, 0, [])]
def zc_14 : List (Nat × MI) := [(0, 6, 1, 0, 0, 0, []), (1, 38, 30, 0, 0, 29, []), (4, 6, 1, 0, 0, 0, []), (5, 8, 0, 0, 0, 0, []), (6, 53, 19, 3, 3, 74, []), (9, 45, 30, 0, 0, 21, []), (12, 6, 1, 0, 0, 0, []), (13, 8, 0, 0, 0, 0, []), (14, 53, 13, 3, 1, 72, []), (17, 66, 0, 0, 0, 0, []), (18, 45, 30, 0, 0, 12, []), (21, 8, 0, 0, 0, 0, []), (22, 53, 13, 3, 1, 72, []), (25, 6, 1, 0, 0, 0, []), (26, 58, 0, 0, 0, 0, []), (27, 50, 31, 0, 0, 4, []), (30, 1, 0, 0, 0, (-1), []), (31, 83, 0, 0, 0, 0, [])]
def zc_15 : List (Nat × MI) := [(0, 6, 1, 0, 0, 0, []), (1, 38, 30, 0, 0, 29, []), (4, 6, 1, 0, 0, 0, []), (5, 8, 0, 0, 0, 0, []), (6, 53, 19, 3, 3, 74, []), (9, 45, 30, 0, 0, 21, []), (12, 6, 1, 0, 0, 0, []), (13, 8, 0, 0, 0, 0, []), (14, 53, 16, 3, 2, 73, []), (17, 66, 0, 0, 0, 0, []), (18, 45, 30, 0, 0, 12, []), (21, 8, 0, 0, 0, 0, []), (22, 53, 16, 3, 2, 73, []), (25, 6, 1, 0, 0, 0, []), (26, 58, 0, 0, 0, 0, []), (27, 50, 31, 0, 0, 4, []), (30, 1, 0, 0, 0, (-1), []), (31, 83, 0, 0, 0, 0, [])]
def zc_16 : List (Nat × MI) := [(0, 8, 0, 0, 0, 0, []), (1, 77, 3, 0, 0, 262, []), (4, 8, 0, 0, 0, 0, []), (5, 2, 0, 0, 0, 61, []), (7, 67, 0, 0, 0, 0, []), (9, 57, 9, 4, 0, 263, []), (12, 8, 0, 0, 0, 0, []), (13, 2, 0, 0, 0, 61, []), (15, 67, 2, 0, 0, 0, []), (17, 57, 15, 4, 2, 267, []), (20, 8, 0, 0, 0, 0, []), (21, 2, 0, 0, 0, 61, []), (23, 67, 0, 0, 0, 0, []), (25, 57, 19, 4, 3, 268, []), (28, 8, 0, 0, 0, 0, []), (29, 2, 0, 0, 0, 61, []), (31, 67, 0, 0, 0, 0, []), (33, 57, 22, 4, 4, 269, []), (36, 8, 0, 0, 0, 0, []), (37, 1, 0, 0, 0, 0, []), (38, 55, 25, 4, 1, 264, []), (41, 8, 0, 0, 0, 0, []), (42, 1, 0, 0, 0, 0, []), (43, 55, 29, 4, 5, 270, []), (46, 86, 0, 0, 0, 0, [])]
def zc_17 : List (Nat × MI) := [(0, 8, 0, 0, 0, 0, []), (1, 1, 0, 0, 0, 0, []), (2, 55, 25, 4, 1, 264, []), (5, 8, 0, 0, 0, 0, []), (6, 1, 0, 0, 0, 0, []), (7, 55, 29, 4, 5, 270, []), (10, 1, 0, 0, 0, 0, []), (11, 12, 1, 0, 0, 0, []), (12, 6, 1, 0, 0, 0, []), (13, 8, 0, 0, 0, 0, []), (14, 53, 15, 4, 2, 267, []), (17, 66, 0, 0, 0, 0, []), (18, 45, 34, 0, 0, 16, []), (21, 8, 0, 0, 0, 0, []), (22, 53, 15, 4, 2, 267, []), (25, 6, 1, 0, 0, 0, []), (26, 1, 0, 0, 0, 0, []), (27, 61, 0, 0, 0, 0, []), (28, 18, 1, 0, 0, 1, []), (31, 50, 12, 0, 0, (-19), []), (34, 86, 0, 0, 0, 0, [])]
def zc_18 : List (Nat × MI) := [(0, 6, 1, 0, 0, 0, []), (1, 38, 30, 0, 0, 29, []), (4, 6, 1, 0, 0, 0, []), (5, 8, 0, 0, 0, 0, []), (6, 53, 25, 4, 1, 264, []), (9, 45, 30, 0, 0, 21, []), (12, 6, 1, 0, 0, 0, []), (13, 8, 0, 0, 0, 0, []), (14, 53, 9, 4, 0, 263, []), (17, 66, 0, 0, 0, 0, []), (18, 45, 30, 0, 0, 12, []), (21, 8, 0, 0, 0, 0, []), (22, 53, 9, 4, 0, 263, []), (25, 6, 1, 0, 0, 0, []), (26, 58, 0, 0, 0, 0, []), (27, 50, 31, 0, 0, 4, []), (30, 1, 0, 0, 0, 0, []), (31, 83, 0, 0, 0, 0, [])]
def zc_19 : List (Nat × MI) := [(0, 8, 1, 0, 0, 0, []), (1, 6, 2, 0, 0, 0, []), (2, 72, 32, 36, 0, 731, []), (5, 1, 0, 0, 0, 2, []), (6, 43, 15, 0, 0, 9, []), (9, 8, 0, 0, 0, 0, []), (10, 8, 1, 0, 0, 0, []), (11, 6, 2, 0, 0, 0, []), (12, 72, 38, 20, 0, 732, []), (15, 3, 0, 0, 0, 3060, []), (18, 12, 3, 0, 0, 0, []), (19, 1, 0, 0, 0, 0, []), (20, 13, 4, 0, 0, 0, []), (22, 7, 4, 0, 0, 0, []), (24, 6, 3, 0, 0, 0, []), (25, 45, 125, 0, 0, 100, []), (28, 8, 0, 0, 0, 0, []), (29, 53, 29, 4, 5, 270, []), (32, 41, 125, 0, 0, 93, []), (35, 8, 0, 0, 0, 0, []), (36, 53, 29, 4, 5, 270, []), (39, 8, 0, 0, 0, 0, []), (40, 53, 19, 4, 3, 268, []), (43, 66, 0, 0, 0, 0, []), (44, 46, 125, 0, 0, 81, []), (47, 8, 0, 0, 0, 0, []), (48, 53, 29, 4, 5, 270, []), (51, 1, 0, 0, 0, 1, []), (52, 20, 0, 0, 0, 0, []), (53, 13, 5, 0, 0, 0, []), (55, 8, 0, 0, 0, 0, []), (56, 53, 19, 4, 3, 268, []), (59, 7, 5, 0, 0, 0, []), (61, 58, 0, 0, 0, 0, []), (62, 8, 0, 0, 0, 0, []), (63, 53, 22, 4, 4, 269, []), (66, 7, 5, 0, 0, 0, []), (68, 58, 0, 0, 0, 0, []), (69, 45, 109, 0, 0, 40, []), (72, 8, 1, 0, 0, 0, []), (73, 54, 42, 5, 3, 290, []), (76, 8, 0, 0, 0, 0, []), (77, 53, 19, 4, 3, 268, []), (80, 7, 5, 0, 0, 0, []), (82, 58, 0, 0, 0, 0, []), (83, 72, 46, 13, 0, 741, []), (86, 13, 6, 0, 0, 0, []), (88, 8, 0, 0, 0, 0, []), (89, 53, 19, 4, 3, 268, []), (92, 7, 5, 0, 0, 0, []), (94, 34, 0, 0, 0, 0, []), (95, 58, 0, 0, 0, 0, []), (96, 1, 0, 0, 0, 1, []), (97, 19, 0, 0, 0, 0, []), (98, 59, 0, 0, 0, 0, []), (99, 8, 0, 0, 0, 0, []), (100, 8, 1, 0, 0, 0, []), (101, 7, 6, 0, 0, 0, []), (103, 72, 38, 20, 0, 732, []), (106, 50, 119, 0, 0, 13, []), (109, 8, 0, 0, 0, 0, []), (110, 33, 0, 0, 0, 0, []), (111, 53, 29, 4, 5, 270, []), (114, 1, 0, 0, 0, 1, []), (115, 20, 0, 0, 0, 0, []), (116, 55, 29, 4, 5, 270, []), (119, 18, 4, 0, 0, 1, []), (122, 50, 22, 0, 0, (-100), []), (125, 86, 0, 0, 0, 0, [])]
def zc_20 : List (Nat × MI) := [(0, 8, 1, 0, 0, 0, []), (1, 6, 2, 0, 0, 0, []), (2, 72, 51, 35, 0, 736, []), (5, 14, 3, 0, 0, 0, []), (6, 8, 3, 0, 0, 0, []), (7, 48, 32, 0, 0, 25, []), (10, 6, 2, 0, 0, 0, []), (11, 38, 32, 0, 0, 21, []), (14, 6, 2, 0, 0, 0, []), (15, 8, 0, 0, 0, 0, []), (16, 53, 15, 4, 2, 267, []), (19, 66, 0, 0, 0, 0, []), (20, 45, 32, 0, 0, 12, []), (23, 8, 0, 0, 0, 0, []), (24, 53, 15, 4, 2, 267, []), (27, 6, 2, 0, 0, 0, []), (28, 60, 0, 0, 0, 0, []), (29, 36, 33, 0, 0, 4, []), (32, 86, 0, 0, 0, 0, []), (33, 8, 0, 0, 0, 0, []), (34, 53, 15, 4, 2, 267, []), (37, 6, 2, 0, 0, 0, []), (38, 1, 0, 0, 0, 1, []), (39, 61, 0, 0, 0, 0, []), (40, 8, 3, 0, 0, 0, []), (41, 54, 55, 2, 0, 199, []), (44, 54, 61, 0, 3, 108, []), (47, 1, 0, 0, 0, 3, []), (48, 43, 59, 0, 0, 11, []), (51, 8, 0, 0, 0, 0, []), (52, 6, 2, 0, 0, 0, []), (53, 72, 66, 22, 0, 737, []), (56, 50, 131, 0, 0, 75, []), (59, 8, 3, 0, 0, 0, []), (60, 54, 55, 2, 0, 199, []), (63, 54, 61, 0, 3, 108, []), (66, 1, 0, 0, 0, 2, []), (67, 43, 131, 0, 0, 64, []), (70, 8, 0, 0, 0, 0, []), (71, 53, 29, 4, 5, 270, []), (74, 38, 131, 0, 0, 57, []), (77, 8, 0, 0, 0, 0, []), (78, 53, 29, 4, 5, 270, []), (81, 8, 0, 0, 0, 0, []), (82, 53, 19, 4, 3, 268, []), (85, 66, 0, 0, 0, 0, []), (86, 45, 131, 0, 0, 45, []), (89, 8, 0, 0, 0, 0, []), (90, 53, 19, 4, 3, 268, []), (93, 8, 0, 0, 0, 0, []), (94, 53, 29, 4, 5, 270, []), (97, 8, 3, 0, 0, 0, []), (98, 54, 55, 2, 0, 199, []), (101, 54, 70, 0, 8, 124, []), (104, 59, 0, 0, 0, 0, []), (105, 8, 0, 0, 0, 0, []), (106, 53, 22, 4, 4, 269, []), (109, 8, 0, 0, 0, 0, []), (110, 53, 29, 4, 5, 270, []), (113, 8, 3, 0, 0, 0, []), (114, 54, 55, 2, 0, 199, []), (117, 54, 73, 0, 9, 127, []), (120, 59, 0, 0, 0, 0, []), (121, 8, 0, 0, 0, 0, []), (122, 33, 0, 0, 0, 0, []), (123, 53, 29, 4, 5, 270, []), (126, 1, 0, 0, 0, 1, []), (127, 19, 0, 0, 0, 0, []), (128, 55, 29, 4, 5, 270, []), (131, 86, 0, 0, 0, 0, [])]
def zc_21 : List (Nat × MI) := [(0, 8, 0, 0, 0, 0, []), (1, 1, 0, 0, 0, 0, []), (2, 55, 25, 4, 1, 264, []), (5, 1, 0, 0, 0, 1, []), (6, 12, 2, 0, 0, 0, []), (7, 6, 2, 0, 0, 0, []), (8, 2, 0, 0, 0, 60, []), (10, 46, 33, 0, 0, 23, []), (13, 8, 1, 0, 0, 0, []), (14, 6, 2, 0, 0, 0, []), (15, 72, 32, 36, 0, 731, []), (18, 1, 0, 0, 0, 3, []), (19, 43, 27, 0, 0, 8, []), (22, 8, 0, 0, 0, 0, []), (23, 6, 2, 0, 0, 0, []), (24, 72, 66, 22, 0, 737, []), (27, 18, 2, 0, 0, 1, []), (30, 50, 7, 0, 0, (-23), []), (33, 86, 0, 0, 0, 0, [])]
def zc_22 : List (Nat × MI) := [(0, 8, 0, 0, 0, 0, []), (1, 53, 25, 4, 1, 264, []), (4, 38, 39, 0, 0, 35, []), (7, 8, 0, 0, 0, 0, []), (8, 53, 25, 4, 1, 264, []), (11, 8, 0, 0, 0, 0, []), (12, 53, 9, 4, 0, 263, []), (15, 66, 0, 0, 0, 0, []), (16, 45, 39, 0, 0, 23, []), (19, 8, 0, 0, 0, 0, []), (20, 53, 9, 4, 0, 263, []), (23, 8, 0, 0, 0, 0, []), (24, 53, 25, 4, 1, 264, []), (27, 6, 1, 0, 0, 0, []), (28, 59, 0, 0, 0, 0, []), (29, 8, 0, 0, 0, 0, []), (30, 33, 0, 0, 0, 0, []), (31, 53, 25, 4, 1, 264, []), (34, 1, 0, 0, 0, 1, []), (35, 19, 0, 0, 0, 0, []), (36, 55, 25, 4, 1, 264, []), (39, 86, 0, 0, 0, 0, [])]
def zc_23 : List (Nat × MI) := [(0, 8, 0, 0, 0, 0, []), (1, 77, 3, 0, 0, 64, []), (4, 8, 0, 0, 0, 0, []), (5, 8, 1, 0, 0, 0, []), (6, 57, 9, 5, 0, 285, []), (9, 8, 0, 0, 0, 0, []), (10, 6, 2, 0, 0, 0, []), (11, 67, 1, 0, 0, 0, []), (13, 57, 15, 5, 1, 286, []), (16, 8, 0, 0, 0, 0, []), (17, 1, 0, 0, 0, 0, []), (18, 55, 19, 5, 2, 287, []), (21, 8, 0, 0, 0, 0, []), (22, 69, 23, 3, 0, 65, []), (25, 33, 0, 0, 0, 0, []), (26, 6, 2, 0, 0, 0, []), (27, 1, 0, 0, 0, 5, []), (28, 22, 0, 0, 0, 0, []), (29, 1, 0, 0, 0, 1, []), (30, 19, 0, 0, 0, 0, []), (31, 73, 25, 10, 0, 67, []), (34, 57, 28, 5, 3, 289, []), (37, 8, 0, 0, 0, 0, []), (38, 69, 23, 3, 0, 65, []), (41, 33, 0, 0, 0, 0, []), (42, 6, 2, 0, 0, 0, []), (43, 2, 0, 0, 0, 8, []), (45, 22, 0, 0, 0, 0, []), (46, 1, 0, 0, 0, 1, []), (47, 19, 0, 0, 0, 0, []), (48, 73, 25, 10, 0, 67, []), (51, 57, 32, 5, 4, 292, []), (54, 8, 0, 0, 0, 0, []), (55, 69, 23, 3, 0, 65, []), (58, 33, 0, 0, 0, 0, []), (59, 6, 2, 0, 0, 0, []), (60, 1, 0, 0, 0, 3, []), (61, 22, 0, 0, 0, 0, []), (62, 2, 0, 0, 0, 10, []), (64, 19, 0, 0, 0, 0, []), (65, 73, 25, 10, 0, 67, []), (68, 57, 35, 5, 5, 294, []), (71, 8, 0, 0, 0, 0, []), (72, 69, 23, 3, 0, 65, []), (75, 33, 0, 0, 0, 0, []), (76, 6, 2, 0, 0, 0, []), (77, 2, 0, 0, 0, 7, []), (79, 22, 0, 0, 0, 0, []), (80, 1, 0, 0, 0, 1, []), (81, 19, 0, 0, 0, 0, []), (82, 73, 25, 10, 0, 67, []), (85, 57, 38, 5, 6, 296, []), (88, 8, 0, 0, 0, 0, []), (89, 69, 41, 1, 0, 87, []), (92, 33, 0, 0, 0, 0, []), (93, 8, 1, 0, 0, 0, []), (94, 8, 0, 0, 0, 0, []), (95, 53, 28, 5, 3, 289, []), (98, 8, 0, 0, 0, 0, []), (99, 53, 32, 5, 4, 292, []), (102, 73, 43, 3, 0, 89, []), (105, 57, 46, 5, 7, 298, []), (108, 8, 0, 0, 0, 0, []), (109, 69, 50, 0, 0, 186, []), (112, 33, 0, 0, 0, 0, []), (113, 74, 52, 0, 0, 187, []), (116, 57, 53, 5, 8, 299, []), (119, 8, 0, 0, 0, 0, []), (120, 2, 0, 0, 0, 61, []), (122, 68, 57, 188, 0, 0, []), (125, 57, 59, 5, 9, 300, []), (128, 1, 0, 0, 0, 0, []), (129, 12, 3, 0, 0, 0, []), (130, 6, 3, 0, 0, 0, []), (131, 8, 0, 0, 0, 0, []), (132, 53, 59, 5, 9, 300, []), (135, 66, 0, 0, 0, 0, []), (136, 45, 158, 0, 0, 22, []), (139, 8, 0, 0, 0, 0, []), (140, 53, 59, 5, 9, 300, []), (143, 6, 3, 0, 0, 0, []), (144, 69, 57, 2, 0, 188, []), (147, 33, 0, 0, 0, 0, []), (148, 73, 63, 8, 0, 191, []), (151, 65, 0, 0, 0, 0, []), (152, 18, 3, 0, 0, 1, []), (155, 50, 130, 0, 0, (-25), []), (158, 8, 0, 0, 0, 0, []), (159, 69, 57, 2, 0, 188, []), (162, 33, 0, 0, 0, 0, []), (163, 73, 63, 8, 0, 191, []), (166, 55, 64, 5, 10, 301, []), (169, 8, 0, 0, 0, 0, []), (170, 69, 68, 4, 0, 257, []), (173, 33, 0, 0, 0, 0, []), (174, 73, 70, 16, 0, 259, []), (177, 57, 71, 5, 16, 313, []), (180, 86, 0, 0, 0, 0, [])]
def zc_24 : List (Nat × MI) := [(0, 8, 0, 0, 0, 0, []), (1, 8, 1, 0, 0, 0, []), (2, 6, 2, 0, 0, 0, []), (3, 72, 75, 25, 0, 514, []), (6, 8, 0, 0, 0, 0, []), (7, 53, 9, 5, 0, 285, []), (10, 1, 0, 0, 0, 0, []), (11, 72, 79, 51, 0, 604, []), (14, 12, 3, 0, 0, 0, []), (15, 1, 0, 0, 0, 0, []), (16, 13, 4, 0, 0, 0, []), (18, 7, 4, 0, 0, 0, []), (20, 3, 0, 0, 0, 3000, []), (23, 46, 89, 0, 0, 66, []), (26, 8, 0, 0, 0, 0, []), (27, 53, 9, 5, 0, 285, []), (30, 6, 3, 0, 0, 0, []), (31, 72, 85, 53, 0, 605, []), (34, 36, 89, 0, 0, 55, []), (37, 8, 0, 0, 0, 0, []), (38, 53, 9, 5, 0, 285, []), (41, 6, 3, 0, 0, 0, []), (42, 72, 85, 53, 0, 605, []), (45, 13, 5, 0, 0, 0, []), (47, 7, 5, 0, 0, 0, []), (49, 1, 0, 0, 0, 5, []), (50, 43, 62, 0, 0, 12, []), (53, 8, 0, 0, 0, 0, []), (54, 6, 3, 0, 0, 0, []), (55, 72, 88, 27, 0, 609, []), (58, 12, 3, 0, 0, 0, []), (59, 50, 83, 0, 0, 24, []), (62, 7, 5, 0, 0, 0, []), (64, 2, 0, 0, 0, 7, []), (66, 43, 74, 0, 0, 8, []), (69, 8, 0, 0, 0, 0, []), (70, 6, 3, 0, 0, 0, []), (71, 72, 91, 34, 0, 697, []), (74, 8, 0, 0, 0, 0, []), (75, 53, 9, 5, 0, 285, []), (78, 6, 3, 0, 0, 0, []), (79, 72, 94, 55, 0, 687, []), (82, 12, 3, 0, 0, 0, []), (83, 18, 4, 0, 0, 1, []), (86, 50, 18, 0, 0, (-68), []), (89, 8, 0, 0, 0, 0, []), (90, 72, 97, 38, 0, 701, []), (93, 8, 0, 0, 0, 0, []), (94, 72, 100, 39, 0, 707, []), (97, 8, 0, 0, 0, 0, []), (98, 72, 103, 41, 0, 719, []), (101, 86, 0, 0, 0, 0, [])]
def zc_25 : List (Nat × MI) := [(0, 8, 0, 0, 0, 0, []), (1, 1, 0, 0, 0, 0, []), (2, 6, 2, 0, 0, 0, []), (3, 8, 1, 0, 0, 0, []), (4, 66, 0, 0, 0, 0, []), (5, 8, 0, 0, 0, 0, []), (6, 53, 15, 5, 1, 286, []), (9, 66, 0, 0, 0, 0, []), (10, 81, 106, 0, 0, 518, []), (13, 81, 106, 0, 0, 518, []), (16, 80, 112, 0, 0, 521, []), (19, 55, 19, 5, 2, 287, []), (22, 8, 1, 0, 0, 0, []), (23, 1, 0, 0, 0, 0, []), (24, 8, 0, 0, 0, 0, []), (25, 53, 15, 5, 1, 286, []), (28, 1, 0, 0, 0, 0, []), (29, 8, 0, 0, 0, 0, []), (30, 53, 19, 5, 2, 287, []), (33, 82, 115, 0, 0, 522, []), (36, 8, 0, 0, 0, 0, []), (37, 53, 9, 5, 0, 285, []), (40, 8, 0, 0, 0, 0, []), (41, 53, 15, 5, 1, 286, []), (44, 8, 0, 0, 0, 0, []), (45, 53, 19, 5, 2, 287, []), (48, 72, 121, 43, 0, 525, []), (51, 8, 0, 0, 0, 0, []), (52, 53, 28, 5, 3, 289, []), (55, 1, 0, 0, 0, 0, []), (56, 72, 124, 12, 0, 588, []), (59, 8, 0, 0, 0, 0, []), (60, 53, 32, 5, 4, 292, []), (63, 1, 0, 0, 0, 0, []), (64, 72, 124, 12, 0, 588, []), (67, 8, 0, 0, 0, 0, []), (68, 53, 35, 5, 5, 294, []), (71, 1, 0, 0, 0, 0, []), (72, 72, 124, 12, 0, 588, []), (75, 8, 0, 0, 0, 0, []), (76, 53, 38, 5, 6, 296, []), (79, 1, 0, 0, 0, 0, []), (80, 72, 124, 12, 0, 588, []), (83, 1, 0, 0, 0, 0, []), (84, 12, 3, 0, 0, 0, []), (85, 6, 3, 0, 0, 0, []), (86, 8, 0, 0, 0, 0, []), (87, 53, 59, 5, 9, 300, []), (90, 66, 0, 0, 0, 0, []), (91, 45, 110, 0, 0, 19, []), (94, 8, 0, 0, 0, 0, []), (95, 53, 59, 5, 9, 300, []), (98, 6, 3, 0, 0, 0, []), (99, 64, 0, 0, 0, 0, []), (100, 1, 0, 0, 0, 0, []), (101, 56, 127, 2, 1, 203, []), (104, 18, 3, 0, 0, 1, []), (107, 50, 85, 0, 0, (-22), []), (110, 8, 0, 0, 0, 0, []), (111, 1, 0, 0, 0, 0, []), (112, 55, 131, 5, 11, 303, []), (115, 8, 0, 0, 0, 0, []), (116, 1, 0, 0, 0, 0, []), (117, 55, 134, 5, 12, 304, []), (120, 8, 0, 0, 0, 0, []), (121, 1, 0, 0, 0, 0, []), (122, 55, 137, 5, 13, 306, []), (125, 8, 0, 0, 0, 0, []), (126, 1, 0, 0, 0, 0, []), (127, 55, 140, 5, 14, 308, []), (130, 8, 0, 0, 0, 0, []), (131, 1, 0, 0, 0, 0, []), (132, 55, 143, 5, 15, 311, []), (135, 8, 0, 0, 0, 0, []), (136, 53, 9, 5, 0, 285, []), (139, 1, 0, 0, 0, 0, []), (140, 70, 146, 14, 0, 0, []), (142, 72, 148, 58, 0, 595, []), (145, 37, 155, 0, 0, 10, []), (148, 8, 0, 0, 0, 0, []), (149, 2, 0, 0, 0, 9, []), (151, 1, 0, 0, 0, 0, []), (152, 72, 152, 26, 0, 596, []), (155, 86, 0, 0, 0, 0, [])]
def zc_26 : List (Nat × MI) := [(0, 8, 0, 0, 0, 0, []), (1, 53, 35, 5, 5, 294, []), (4, 6, 1, 0, 0, 0, []), (5, 6, 2, 0, 0, 0, []), (6, 6, 2, 0, 0, 0, []), (7, 72, 156, 11, 0, 600, []), (10, 86, 0, 0, 0, 0, [])]
def zc_27 : List (Nat × MI) := [(0, 8, 0, 0, 0, 0, []), (1, 53, 9, 5, 0, 285, []), (4, 6, 1, 0, 0, 0, []), (5, 72, 160, 56, 0, 613, []), (8, 12, 2, 0, 0, 0, []), (9, 8, 0, 0, 0, 0, []), (10, 53, 9, 5, 0, 285, []), (13, 6, 2, 0, 0, 0, []), (14, 72, 79, 51, 0, 604, []), (17, 12, 3, 0, 0, 0, []), (18, 8, 0, 0, 0, 0, []), (19, 53, 64, 5, 10, 301, []), (22, 6, 1, 0, 0, 0, []), (23, 6, 2, 0, 0, 0, []), (24, 8, 0, 0, 0, 0, []), (25, 53, 28, 5, 3, 289, []), (28, 54, 163, 3, 3, 77, []), (31, 8, 0, 0, 0, 0, []), (32, 53, 32, 5, 4, 292, []), (35, 54, 163, 3, 3, 77, []), (38, 72, 166, 9, 0, 617, []), (41, 8, 0, 0, 0, 0, []), (42, 53, 9, 5, 0, 285, []), (45, 6, 3, 0, 0, 0, []), (46, 72, 85, 53, 0, 605, []), (49, 2, 0, 0, 0, 9, []), (51, 43, 158, 0, 0, 107, []), (54, 8, 0, 0, 0, 0, []), (55, 53, 9, 5, 0, 285, []), (58, 8, 0, 0, 0, 0, []), (59, 53, 46, 5, 7, 298, []), (62, 8, 0, 0, 0, 0, []), (63, 53, 64, 5, 10, 301, []), (66, 54, 170, 2, 0, 201, []), (69, 6, 3, 0, 0, 0, []), (70, 1, 0, 0, 0, 1, []), (71, 72, 173, 4, 0, 625, []), (74, 72, 79, 51, 0, 604, []), (77, 12, 3, 0, 0, 0, []), (78, 8, 0, 0, 0, 0, []), (79, 53, 64, 5, 10, 301, []), (82, 54, 170, 2, 0, 201, []), (85, 54, 177, 0, 2, 105, []), (88, 36, 108, 0, 0, 20, []), (91, 8, 0, 0, 0, 0, []), (92, 53, 9, 5, 0, 285, []), (95, 6, 3, 0, 0, 0, []), (96, 70, 180, 23, 0, 0, []), (98, 72, 182, 57, 0, 666, []), (101, 36, 108, 0, 0, 7, []), (104, 1, 0, 0, 0, 1, []), (105, 50, 109, 0, 0, 4, []), (108, 1, 0, 0, 0, 0, []), (109, 13, 4, 0, 0, 0, []), (111, 7, 4, 0, 0, 0, []), (113, 36, 158, 0, 0, 45, []), (116, 8, 0, 0, 0, 0, []), (117, 53, 9, 5, 0, 285, []), (120, 8, 0, 0, 0, 0, []), (121, 53, 9, 5, 0, 285, []), (124, 6, 3, 0, 0, 0, []), (125, 72, 185, 52, 0, 667, []), (128, 72, 188, 50, 0, 668, []), (131, 2, 0, 0, 0, 10, []), (133, 43, 158, 0, 0, 25, []), (136, 8, 0, 0, 0, 0, []), (137, 53, 9, 5, 0, 285, []), (140, 8, 0, 0, 0, 0, []), (141, 8, 0, 0, 0, 0, []), (142, 53, 9, 5, 0, 285, []), (145, 6, 3, 0, 0, 0, []), (146, 72, 185, 52, 0, 667, []), (149, 1, 0, 0, 0, 1, []), (150, 19, 0, 0, 0, 0, []), (151, 72, 191, 29, 0, 669, []), (154, 72, 79, 51, 0, 604, []), (157, 12, 3, 0, 0, 0, []), (158, 1, 0, 0, 0, 0, []), (159, 13, 4, 0, 0, 0, []), (161, 7, 4, 0, 0, 0, []), (163, 3, 0, 0, 0, 3000, []), (166, 46, 198, 0, 0, 32, []), (169, 8, 0, 0, 0, 0, []), (170, 53, 9, 5, 0, 285, []), (173, 6, 3, 0, 0, 0, []), (174, 72, 85, 53, 0, 605, []), (177, 75, 194, 28, 0, 683, []), (180, 37, 198, 0, 0, 18, []), (183, 8, 0, 0, 0, 0, []), (184, 53, 9, 5, 0, 285, []), (187, 6, 3, 0, 0, 0, []), (188, 72, 94, 55, 0, 687, []), (191, 12, 3, 0, 0, 0, []), (192, 18, 4, 0, 0, 1, []), (195, 50, 161, 0, 0, (-34), []), (198, 8, 0, 0, 0, 0, []), (199, 8, 0, 0, 0, 0, []), (200, 53, 9, 5, 0, 285, []), (203, 6, 1, 0, 0, 0, []), (204, 72, 198, 54, 0, 688, []), (207, 6, 3, 0, 0, 0, []), (208, 72, 201, 32, 0, 689, []), (211, 8, 0, 0, 0, 0, []), (212, 53, 9, 5, 0, 285, []), (215, 6, 3, 0, 0, 0, []), (216, 72, 85, 53, 0, 605, []), (219, 2, 0, 0, 0, 6, []), (221, 43, 235, 0, 0, 14, []), (224, 8, 0, 0, 0, 0, []), (225, 53, 9, 5, 0, 285, []), (228, 6, 3, 0, 0, 0, []), (229, 72, 94, 55, 0, 687, []), (232, 50, 236, 0, 0, 4, []), (235, 6, 3, 0, 0, 0, []), (236, 83, 0, 0, 0, 0, [])]
def zc_28 : List (Nat × MI) := [(0, 6, 0, 0, 0, 0, []), (1, 36, 11, 0, 0, 10, []), (4, 6, 0, 0, 0, 0, []), (5, 76, 204, 84, 0, 686, []), (8, 36, 15, 0, 0, 7, []), (11, 1, 0, 0, 0, 1, []), (12, 50, 16, 0, 0, 4, []), (15, 1, 0, 0, 0, 0, []), (16, 83, 0, 0, 0, 0, [])]
def zc_29 : List (Nat × MI) := [(0, 8, 0, 0, 0, 0, []), (1, 53, 64, 5, 10, 301, []), (4, 1, 0, 0, 0, 1, []), (5, 56, 207, 2, 6, 219, []), (8, 8, 0, 0, 0, 0, []), (9, 53, 64, 5, 10, 301, []), (12, 6, 1, 0, 0, 0, []), (13, 56, 210, 2, 9, 228, []), (16, 8, 0, 0, 0, 0, []), (17, 6, 1, 0, 0, 0, []), (18, 72, 213, 30, 0, 673, []), (21, 12, 2, 0, 0, 0, []), (22, 8, 0, 0, 0, 0, []), (23, 53, 64, 5, 10, 301, []), (26, 6, 2, 0, 0, 0, []), (27, 38, 34, 0, 0, 7, []), (30, 1, 0, 0, 0, 1, []), (31, 50, 35, 0, 0, 4, []), (34, 1, 0, 0, 0, 0, []), (35, 56, 216, 2, 7, 222, []), (38, 8, 0, 0, 0, 0, []), (39, 53, 64, 5, 10, 301, []), (42, 54, 216, 2, 7, 222, []), (45, 36, 70, 0, 0, 25, []), (48, 8, 0, 0, 0, 0, []), (49, 53, 64, 5, 10, 301, []), (52, 6, 1, 0, 0, 0, []), (53, 8, 0, 0, 0, 0, []), (54, 53, 64, 5, 10, 301, []), (57, 54, 170, 2, 0, 201, []), (60, 54, 219, 0, 5, 116, []), (63, 19, 0, 0, 0, 0, []), (64, 56, 222, 2, 10, 232, []), (67, 50, 126, 0, 0, 59, []), (70, 8, 0, 0, 0, 0, []), (71, 1, 0, 0, 0, 3, []), (72, 6, 1, 0, 0, 0, []), (73, 72, 152, 26, 0, 596, []), (76, 8, 0, 0, 0, 0, []), (77, 6, 1, 0, 0, 0, []), (78, 72, 225, 31, 0, 678, []), (81, 12, 2, 0, 0, 0, []), (82, 6, 2, 0, 0, 0, []), (83, 6, 1, 0, 0, 0, []), (84, 47, 106, 0, 0, 22, []), (87, 8, 0, 0, 0, 0, []), (88, 53, 9, 5, 0, 285, []), (91, 6, 2, 0, 0, 0, []), (92, 1, 0, 0, 0, 1, []), (93, 20, 0, 0, 0, 0, []), (94, 72, 188, 50, 0, 668, []), (97, 2, 0, 0, 0, 10, []), (99, 43, 106, 0, 0, 7, []), (102, 1, 0, 0, 0, 1, []), (103, 50, 107, 0, 0, 4, []), (106, 1, 0, 0, 0, 0, []), (107, 12, 3, 0, 0, 0, []), (108, 8, 0, 0, 0, 0, []), (109, 53, 64, 5, 10, 301, []), (112, 6, 3, 0, 0, 0, []), (113, 36, 122, 0, 0, 9, []), (116, 6, 2, 0, 0, 0, []), (117, 1, 0, 0, 0, 1, []), (118, 20, 0, 0, 0, 0, []), (119, 50, 123, 0, 0, 4, []), (122, 6, 2, 0, 0, 0, []), (123, 56, 222, 2, 10, 232, []), (126, 8, 0, 0, 0, 0, []), (127, 53, 64, 5, 10, 301, []), (130, 6, 2, 0, 0, 0, []), (131, 38, 138, 0, 0, 7, []), (134, 1, 0, 0, 0, 1, []), (135, 50, 139, 0, 0, 4, []), (138, 1, 0, 0, 0, 0, []), (139, 56, 228, 2, 8, 225, []), (142, 8, 0, 0, 0, 0, []), (143, 53, 64, 5, 10, 301, []), (146, 54, 228, 2, 8, 225, []), (149, 37, 174, 0, 0, 25, []), (152, 8, 0, 0, 0, 0, []), (153, 1, 0, 0, 0, 2, []), (154, 6, 1, 0, 0, 0, []), (155, 72, 152, 26, 0, 596, []), (158, 8, 0, 0, 0, 0, []), (159, 53, 64, 5, 10, 301, []), (162, 8, 0, 0, 0, 0, []), (163, 53, 19, 5, 2, 287, []), (166, 56, 222, 2, 10, 232, []), (169, 8, 0, 0, 0, 0, []), (170, 53, 19, 5, 2, 287, []), (173, 83, 0, 0, 0, 0, []), (174, 6, 2, 0, 0, 0, []), (175, 70, 231, 24, 0, 0, []), (177, 78, 233, 0, 0, 682, []), (180, 19, 0, 0, 0, 0, []), (181, 83, 0, 0, 0, 0, [])]
def zc_30 : List (Nat × MI) := [(0, 8, 0, 0, 0, 0, []), (1, 53, 64, 5, 10, 301, []), (4, 54, 170, 2, 0, 201, []), (7, 54, 219, 0, 5, 116, []), (10, 12, 2, 0, 0, 0, []), (11, 6, 2, 0, 0, 0, []), (12, 38, 25, 0, 0, 13, []), (15, 6, 2, 0, 0, 0, []), (16, 8, 0, 0, 0, 0, []), (17, 53, 19, 5, 2, 287, []), (20, 6, 1, 0, 0, 0, []), (21, 20, 0, 0, 0, 0, []), (22, 47, 27, 0, 0, 5, []), (25, 1, 0, 0, 0, (-1), []), (26, 83, 0, 0, 0, 0, []), (27, 6, 1, 0, 0, 0, []), (28, 6, 2, 0, 0, 0, []), (29, 19, 0, 0, 0, 0, []), (30, 12, 3, 0, 0, 0, []), (31, 8, 0, 0, 0, 0, []), (32, 53, 9, 5, 0, 285, []), (35, 6, 3, 0, 0, 0, []), (36, 70, 231, 24, 0, 0, []), (38, 72, 148, 58, 0, 595, []), (41, 36, 46, 0, 0, 5, []), (44, 6, 3, 0, 0, 0, []), (45, 83, 0, 0, 0, 0, []), (46, 8, 0, 0, 0, 0, []), (47, 53, 9, 5, 0, 285, []), (50, 6, 3, 0, 0, 0, []), (51, 72, 188, 50, 0, 668, []), (54, 2, 0, 0, 0, 10, []), (56, 43, 78, 0, 0, 22, []), (59, 8, 0, 0, 0, 0, []), (60, 53, 9, 5, 0, 285, []), (63, 6, 3, 0, 0, 0, []), (64, 1, 0, 0, 0, 1, []), (65, 19, 0, 0, 0, 0, []), (66, 70, 231, 24, 0, 0, []), (68, 72, 148, 58, 0, 595, []), (71, 36, 78, 0, 0, 7, []), (74, 1, 0, 0, 0, 1, []), (75, 50, 79, 0, 0, 4, []), (78, 1, 0, 0, 0, 0, []), (79, 13, 4, 0, 0, 0, []), (81, 7, 4, 0, 0, 0, []), (83, 36, 92, 0, 0, 9, []), (86, 6, 3, 0, 0, 0, []), (87, 1, 0, 0, 0, 1, []), (88, 19, 0, 0, 0, 0, []), (89, 50, 93, 0, 0, 4, []), (92, 1, 0, 0, 0, (-1), []), (93, 83, 0, 0, 0, 0, [])]
def zc_31 : List (Nat × MI) := [(0, 6, 1, 0, 0, 0, []), (1, 12, 2, 0, 0, 0, []), (2, 6, 2, 0, 0, 0, []), (3, 8, 0, 0, 0, 0, []), (4, 53, 19, 5, 2, 287, []), (7, 70, 231, 24, 0, 0, []), (9, 78, 233, 0, 0, 682, []), (12, 20, 0, 0, 0, 0, []), (13, 46, 37, 0, 0, 24, []), (16, 8, 0, 0, 0, 0, []), (17, 53, 9, 5, 0, 285, []), (20, 6, 2, 0, 0, 0, []), (21, 70, 231, 24, 0, 0, []), (23, 72, 148, 58, 0, 595, []), (26, 36, 31, 0, 0, 5, []), (29, 6, 2, 0, 0, 0, []), (30, 83, 0, 0, 0, 0, []), (31, 18, 2, 0, 0, 1, []), (34, 50, 2, 0, 0, (-32), []), (37, 1, 0, 0, 0, (-1), []), (38, 83, 0, 0, 0, 0, [])]
def zc_32 : List (Nat × MI) := [(0, 8, 0, 0, 0, 0, []), (1, 53, 9, 5, 0, 285, []), (4, 6, 2, 0, 0, 0, []), (5, 72, 85, 53, 0, 605, []), (8, 12, 3, 0, 0, 0, []), (9, 8, 0, 0, 0, 0, []), (10, 53, 64, 5, 10, 301, []), (13, 6, 2, 0, 0, 0, []), (14, 56, 238, 2, 4, 213, []), (17, 8, 0, 0, 0, 0, []), (18, 53, 64, 5, 10, 301, []), (21, 6, 3, 0, 0, 0, []), (22, 2, 0, 0, 0, 6, []), (24, 43, 31, 0, 0, 7, []), (27, 1, 0, 0, 0, 1, []), (28, 50, 32, 0, 0, 4, []), (31, 1, 0, 0, 0, 0, []), (32, 56, 241, 2, 5, 215, []), (35, 6, 3, 0, 0, 0, []), (36, 37, 68, 0, 0, 32, []), (39, 8, 0, 0, 0, 0, []), (40, 53, 64, 5, 10, 301, []), (43, 54, 207, 2, 6, 219, []), (46, 37, 68, 0, 0, 22, []), (49, 8, 0, 0, 0, 0, []), (50, 6, 1, 0, 0, 0, []), (51, 55, 134, 5, 12, 304, []), (54, 8, 0, 0, 0, 0, []), (55, 2, 0, 0, 0, 10, []), (57, 8, 0, 0, 0, 0, []), (58, 53, 64, 5, 10, 301, []), (61, 54, 244, 2, 2, 206, []), (64, 72, 152, 26, 0, 596, []), (67, 86, 0, 0, 0, 0, []), (68, 6, 3, 0, 0, 0, []), (69, 2, 0, 0, 0, 6, []), (71, 42, 100, 0, 0, 29, []), (74, 8, 0, 0, 0, 0, []), (75, 53, 64, 5, 10, 301, []), (78, 54, 207, 2, 6, 219, []), (81, 36, 94, 0, 0, 13, []), (84, 8, 0, 0, 0, 0, []), (85, 53, 64, 5, 10, 301, []), (88, 54, 228, 2, 8, 225, []), (91, 36, 100, 0, 0, 9, []), (94, 8, 0, 0, 0, 0, []), (95, 1, 0, 0, 0, 1, []), (96, 6, 2, 0, 0, 0, []), (97, 72, 152, 26, 0, 596, []), (100, 8, 0, 0, 0, 0, []), (101, 6, 1, 0, 0, 0, []), (102, 72, 247, 33, 0, 693, []), (105, 86, 0, 0, 0, 0, [])]
def zc_33 : List (Nat × MI) := [(0, 6, 1, 0, 0, 0, []), (1, 1, 0, 0, 0, 1, []), (2, 44, 14, 0, 0, 12, []), (5, 6, 1, 0, 0, 0, []), (6, 8, 0, 0, 0, 0, []), (7, 53, 59, 5, 9, 300, []), (10, 66, 0, 0, 0, 0, []), (11, 44, 15, 0, 0, 4, []), (14, 86, 0, 0, 0, 0, []), (15, 8, 0, 0, 0, 0, []), (16, 53, 59, 5, 9, 300, []), (19, 6, 1, 0, 0, 0, []), (20, 64, 0, 0, 0, 0, []), (21, 14, 2, 0, 0, 0, []), (22, 8, 2, 0, 0, 0, []), (23, 54, 127, 2, 1, 203, []), (26, 36, 63, 0, 0, 37, []), (29, 8, 0, 0, 0, 0, []), (30, 1, 0, 0, 0, 4, []), (31, 8, 2, 0, 0, 0, []), (32, 54, 244, 2, 2, 206, []), (35, 72, 152, 26, 0, 596, []), (38, 8, 0, 0, 0, 0, []), (39, 53, 38, 5, 6, 296, []), (42, 6, 1, 0, 0, 0, []), (43, 8, 0, 0, 0, 0, []), (44, 53, 64, 5, 10, 301, []), (47, 54, 244, 2, 2, 206, []), (50, 8, 0, 0, 0, 0, []), (51, 53, 64, 5, 10, 301, []), (54, 54, 238, 2, 4, 213, []), (57, 72, 156, 11, 0, 600, []), (60, 50, 73, 0, 0, 13, []), (63, 8, 0, 0, 0, 0, []), (64, 33, 0, 0, 0, 0, []), (65, 53, 131, 5, 11, 303, []), (68, 1, 0, 0, 0, 1, []), (69, 19, 0, 0, 0, 0, []), (70, 55, 131, 5, 11, 303, []), (73, 8, 0, 0, 0, 0, []), (74, 53, 64, 5, 10, 301, []), (77, 1, 0, 0, 0, 1, []), (78, 56, 127, 2, 1, 203, []), (81, 8, 0, 0, 0, 0, []), (82, 53, 59, 5, 9, 300, []), (85, 6, 1, 0, 0, 0, []), (86, 8, 0, 0, 0, 0, []), (87, 53, 64, 5, 10, 301, []), (90, 65, 0, 0, 0, 0, []), (91, 8, 0, 0, 0, 0, []), (92, 8, 2, 0, 0, 0, []), (93, 55, 64, 5, 10, 301, []), (96, 86, 0, 0, 0, 0, [])]
def zc_34 : List (Nat × MI) := [(0, 8, 0, 0, 0, 0, []), (1, 53, 9, 5, 0, 285, []), (4, 6, 1, 0, 0, 0, []), (5, 72, 94, 55, 0, 687, []), (8, 12, 2, 0, 0, 0, []), (9, 8, 0, 0, 0, 0, []), (10, 53, 9, 5, 0, 285, []), (13, 6, 2, 0, 0, 0, []), (14, 72, 85, 53, 0, 605, []), (17, 2, 0, 0, 0, 9, []), (19, 42, 23, 0, 0, 4, []), (22, 86, 0, 0, 0, 0, []), (23, 8, 0, 0, 0, 0, []), (24, 53, 28, 5, 3, 289, []), (27, 54, 163, 3, 3, 77, []), (30, 12, 3, 0, 0, 0, []), (31, 8, 0, 0, 0, 0, []), (32, 53, 32, 5, 4, 292, []), (35, 54, 163, 3, 3, 77, []), (38, 13, 4, 0, 0, 0, []), (40, 8, 0, 0, 0, 0, []), (41, 53, 46, 5, 7, 298, []), (44, 8, 0, 0, 0, 0, []), (45, 53, 53, 5, 8, 299, []), (48, 6, 2, 0, 0, 0, []), (49, 1, 0, 0, 0, 0, []), (50, 72, 173, 4, 0, 625, []), (53, 35, 0, 0, 0, 0, []), (54, 8, 0, 0, 0, 0, []), (55, 53, 28, 5, 3, 289, []), (58, 6, 3, 0, 0, 0, []), (59, 72, 124, 12, 0, 588, []), (62, 8, 0, 0, 0, 0, []), (63, 53, 32, 5, 4, 292, []), (66, 7, 4, 0, 0, 0, []), (68, 72, 124, 12, 0, 588, []), (71, 8, 0, 0, 0, 0, []), (72, 53, 53, 5, 8, 299, []), (75, 54, 250, 0, 6, 119, []), (78, 41, 92, 0, 0, 14, []), (81, 8, 0, 0, 0, 0, []), (82, 8, 0, 0, 0, 0, []), (83, 53, 53, 5, 8, 299, []), (86, 54, 250, 0, 6, 119, []), (89, 55, 137, 5, 13, 306, []), (92, 8, 0, 0, 0, 0, []), (93, 53, 53, 5, 8, 299, []), (96, 54, 253, 0, 7, 122, []), (99, 38, 113, 0, 0, 14, []), (102, 8, 0, 0, 0, 0, []), (103, 8, 0, 0, 0, 0, []), (104, 53, 53, 5, 8, 299, []), (107, 54, 253, 0, 7, 122, []), (110, 55, 140, 5, 14, 308, []), (113, 86, 0, 0, 0, 0, [])]
def zc_35 : List (Nat × MI) := [(0, 6, 1, 0, 0, 0, []), (1, 1, 0, 0, 0, 1, []), (2, 44, 14, 0, 0, 12, []), (5, 6, 1, 0, 0, 0, []), (6, 8, 0, 0, 0, 0, []), (7, 53, 59, 5, 9, 300, []), (10, 66, 0, 0, 0, 0, []), (11, 44, 16, 0, 0, 5, []), (14, 71, 0, 0, 0, 0, []), (15, 85, 0, 0, 0, 0, []), (16, 8, 0, 0, 0, 0, []), (17, 53, 59, 5, 9, 300, []), (20, 6, 1, 0, 0, 0, []), (21, 64, 0, 0, 0, 0, []), (22, 54, 127, 2, 1, 203, []), (25, 36, 37, 0, 0, 12, []), (28, 8, 0, 0, 0, 0, []), (29, 53, 59, 5, 9, 300, []), (32, 6, 1, 0, 0, 0, []), (33, 64, 0, 0, 0, 0, []), (34, 50, 38, 0, 0, 4, []), (37, 71, 0, 0, 0, 0, []), (38, 85, 0, 0, 0, 0, [])]
def zc_36 : List (Nat × MI) := [(0, 8, 0, 0, 0, 0, []), (1, 6, 1, 0, 0, 0, []), (2, 72, 256, 35, 0, 705, []), (5, 14, 2, 0, 0, 0, []), (6, 8, 2, 0, 0, 0, []), (7, 49, 14, 0, 0, 7, []), (10, 1, 0, 0, 0, 0, []), (11, 50, 21, 0, 0, 10, []), (14, 8, 2, 0, 0, 0, []), (15, 54, 170, 2, 0, 201, []), (18, 54, 260, 0, 3, 110, []), (21, 83, 0, 0, 0, 0, [])]
def zc_37 : List (Nat × MI) := [(0, 6, 1, 0, 0, 0, []), (1, 38, 34, 0, 0, 33, []), (4, 6, 1, 0, 0, 0, []), (5, 8, 0, 0, 0, 0, []), (6, 53, 19, 5, 2, 287, []), (9, 45, 34, 0, 0, 25, []), (12, 6, 1, 0, 0, 0, []), (13, 8, 0, 0, 0, 0, []), (14, 53, 15, 5, 1, 286, []), (17, 66, 0, 0, 0, 0, []), (18, 45, 34, 0, 0, 16, []), (21, 8, 0, 0, 0, 0, []), (22, 53, 15, 5, 1, 286, []), (25, 6, 1, 0, 0, 0, []), (26, 60, 0, 0, 0, 0, []), (27, 3, 0, 0, 0, 255, []), (30, 24, 0, 0, 0, 0, []), (31, 50, 35, 0, 0, 4, []), (34, 1, 0, 0, 0, (-1), []), (35, 83, 0, 0, 0, 0, [])]
def zc_38 : List (Nat × MI) := [(0, 1, 0, 0, 0, 1, []), (1, 12, 1, 0, 0, 0, []), (2, 6, 1, 0, 0, 0, []), (3, 2, 0, 0, 0, 60, []), (5, 46, 76, 0, 0, 71, []), (8, 8, 0, 0, 0, 0, []), (9, 6, 1, 0, 0, 0, []), (10, 72, 256, 35, 0, 705, []), (13, 14, 2, 0, 0, 0, []), (14, 8, 2, 0, 0, 0, []), (15, 49, 21, 0, 0, 6, []), (18, 50, 70, 0, 0, 52, []), (21, 8, 2, 0, 0, 0, []), (22, 54, 170, 2, 0, 201, []), (25, 54, 263, 0, 10, 132, []), (28, 12, 3, 0, 0, 0, []), (29, 6, 3, 0, 0, 0, []), (30, 8, 2, 0, 0, 0, []), (31, 54, 170, 2, 0, 201, []), (34, 54, 266, 0, 11, 136, []), (37, 45, 70, 0, 0, 33, []), (40, 8, 0, 0, 0, 0, []), (41, 8, 0, 0, 0, 0, []), (42, 53, 28, 5, 3, 289, []), (45, 6, 3, 0, 0, 0, []), (46, 72, 269, 13, 0, 706, []), (49, 72, 256, 35, 0, 705, []), (52, 49, 64, 0, 0, 12, []), (55, 8, 0, 0, 0, 0, []), (56, 1, 0, 0, 0, 5, []), (57, 8, 2, 0, 0, 0, []), (58, 54, 244, 2, 2, 206, []), (61, 72, 152, 26, 0, 596, []), (64, 18, 3, 0, 0, 1, []), (67, 50, 29, 0, 0, (-38), []), (70, 18, 1, 0, 0, 1, []), (73, 50, 2, 0, 0, (-71), []), (76, 86, 0, 0, 0, 0, [])]
def zc_39 : List (Nat × MI) := [(0, 8, 0, 0, 0, 0, []), (1, 8, 0, 0, 0, 0, []), (2, 53, 137, 5, 13, 306, []), (5, 72, 270, 36, 0, 711, []), (8, 1, 0, 0, 0, 1, []), (9, 43, 21, 0, 0, 12, []), (12, 8, 0, 0, 0, 0, []), (13, 8, 0, 0, 0, 0, []), (14, 53, 137, 5, 13, 306, []), (17, 55, 143, 5, 15, 311, []), (20, 86, 0, 0, 0, 0, []), (21, 8, 0, 0, 0, 0, []), (22, 2, 0, 0, 0, 6, []), (24, 1, 0, 0, 0, 0, []), (25, 72, 152, 26, 0, 596, []), (28, 8, 0, 0, 0, 0, []), (29, 1, 0, 0, 0, 1, []), (30, 72, 273, 40, 0, 715, []), (33, 12, 1, 0, 0, 0, []), (34, 8, 0, 0, 0, 0, []), (35, 6, 1, 0, 0, 0, []), (36, 41, 43, 0, 0, 7, []), (39, 6, 1, 0, 0, 0, []), (40, 50, 48, 0, 0, 8, []), (43, 8, 0, 0, 0, 0, []), (44, 1, 0, 0, 0, 0, []), (45, 72, 273, 40, 0, 715, []), (48, 55, 143, 5, 15, 311, []), (51, 8, 0, 0, 0, 0, []), (52, 8, 0, 0, 0, 0, []), (53, 53, 143, 5, 15, 311, []), (56, 72, 256, 35, 0, 705, []), (59, 14, 2, 0, 0, 0, []), (60, 8, 2, 0, 0, 0, []), (61, 48, 74, 0, 0, 13, []), (64, 8, 0, 0, 0, 0, []), (65, 2, 0, 0, 0, 7, []), (67, 8, 2, 0, 0, 0, []), (68, 54, 244, 2, 2, 206, []), (71, 72, 152, 26, 0, 596, []), (74, 86, 0, 0, 0, 0, [])]
def zc_40 : List (Nat × MI) := [(0, 1, 0, 0, 0, 0, []), (1, 12, 2, 0, 0, 0, []), (2, 1, 0, 0, 0, (-1), []), (3, 12, 3, 0, 0, 0, []), (4, 1, 0, 0, 0, 1, []), (5, 13, 4, 0, 0, 0, []), (7, 7, 4, 0, 0, 0, []), (9, 2, 0, 0, 0, 60, []), (11, 46, 86, 0, 0, 75, []), (14, 8, 0, 0, 0, 0, []), (15, 7, 4, 0, 0, 0, []), (17, 72, 256, 35, 0, 705, []), (20, 15, 5, 0, 0, 0, []), (22, 9, 5, 0, 0, 0, []), (24, 48, 80, 0, 0, 56, []), (27, 9, 5, 0, 0, 0, []), (29, 54, 170, 2, 0, 201, []), (32, 54, 260, 0, 3, 110, []), (35, 1, 0, 0, 0, 1, []), (36, 43, 80, 0, 0, 44, []), (39, 9, 5, 0, 0, 0, []), (41, 54, 244, 2, 2, 206, []), (44, 6, 3, 0, 0, 0, []), (45, 45, 51, 0, 0, 6, []), (48, 50, 80, 0, 0, 32, []), (51, 6, 1, 0, 0, 0, []), (52, 36, 71, 0, 0, 19, []), (55, 8, 0, 0, 0, 0, []), (56, 9, 5, 0, 0, 0, []), (58, 54, 170, 2, 0, 201, []), (61, 54, 277, 0, 4, 113, []), (64, 72, 270, 36, 0, 711, []), (67, 1, 0, 0, 0, 2, []), (68, 43, 80, 0, 0, 12, []), (71, 7, 4, 0, 0, 0, []), (73, 12, 2, 0, 0, 0, []), (74, 9, 5, 0, 0, 0, []), (76, 54, 244, 2, 2, 206, []), (79, 12, 3, 0, 0, 0, []), (80, 18, 4, 0, 0, 1, []), (83, 50, 7, 0, 0, (-76), []), (86, 6, 2, 0, 0, 0, []), (87, 83, 0, 0, 0, 0, [])]
def zc_41 : List (Nat × MI) := [(0, 8, 0, 0, 0, 0, []), (1, 53, 71, 5, 16, 313, []), (4, 72, 280, 17, 0, 723, []), (7, 8, 0, 0, 0, 0, []), (8, 8, 0, 0, 0, 0, []), (9, 53, 143, 5, 15, 311, []), (12, 72, 256, 35, 0, 705, []), (15, 14, 1, 0, 0, 0, []), (16, 8, 1, 0, 0, 0, []), (17, 48, 35, 0, 0, 18, []), (20, 8, 0, 0, 0, 0, []), (21, 53, 71, 5, 16, 313, []), (24, 8, 0, 0, 0, 0, []), (25, 8, 1, 0, 0, 0, []), (26, 54, 170, 2, 0, 201, []), (29, 54, 277, 0, 4, 113, []), (32, 72, 283, 19, 0, 727, []), (35, 1, 0, 0, 0, 0, []), (36, 12, 2, 0, 0, 0, []), (37, 1, 0, 0, 0, 1, []), (38, 12, 3, 0, 0, 0, []), (39, 6, 3, 0, 0, 0, []), (40, 2, 0, 0, 0, 60, []), (42, 46, 68, 0, 0, 26, []), (45, 6, 2, 0, 0, 0, []), (46, 8, 0, 0, 0, 0, []), (47, 6, 3, 0, 0, 0, []), (48, 72, 270, 36, 0, 711, []), (51, 1, 0, 0, 0, 3, []), (52, 43, 59, 0, 0, 7, []), (55, 1, 0, 0, 0, 1, []), (56, 50, 60, 0, 0, 4, []), (59, 1, 0, 0, 0, 0, []), (60, 19, 0, 0, 0, 0, []), (61, 12, 2, 0, 0, 0, []), (62, 18, 3, 0, 0, 1, []), (65, 50, 39, 0, 0, (-26), []), (68, 6, 2, 0, 0, 0, []), (69, 8, 0, 0, 0, 0, []), (70, 53, 71, 5, 16, 313, []), (73, 54, 287, 4, 1, 266, []), (76, 42, 94, 0, 0, 18, []), (79, 8, 0, 0, 0, 0, []), (80, 53, 71, 5, 16, 313, []), (83, 8, 0, 0, 0, 0, []), (84, 72, 288, 21, 0, 742, []), (87, 8, 0, 0, 0, 0, []), (88, 2, 0, 0, 0, 8, []), (90, 1, 0, 0, 0, 0, []), (91, 72, 152, 26, 0, 596, []), (94, 86, 0, 0, 0, 0, [])]
def zc_42 : List (Nat × MI) := [(0, 8, 0, 0, 0, 0, []), (1, 77, 3, 0, 0, 37, []), (4, 8, 0, 0, 0, 0, []), (5, 6, 1, 0, 0, 0, []), (6, 1, 0, 0, 0, 1, []), (7, 19, 0, 0, 0, 0, []), (8, 67, 0, 0, 0, 0, []), (10, 57, 9, 6, 0, 38, []), (13, 8, 0, 0, 0, 0, []), (14, 6, 1, 0, 0, 0, []), (15, 1, 0, 0, 0, 1, []), (16, 19, 0, 0, 0, 0, []), (17, 67, 0, 0, 0, 0, []), (19, 57, 15, 6, 1, 39, []), (22, 8, 0, 0, 0, 0, []), (23, 6, 1, 0, 0, 0, []), (24, 1, 0, 0, 0, 1, []), (25, 19, 0, 0, 0, 0, []), (26, 67, 0, 0, 0, 0, []), (28, 57, 18, 6, 2, 40, []), (31, 8, 0, 0, 0, 0, []), (32, 6, 1, 0, 0, 0, []), (33, 1, 0, 0, 0, 1, []), (34, 19, 0, 0, 0, 0, []), (35, 67, 0, 0, 0, 0, []), (37, 57, 21, 6, 3, 41, []), (40, 8, 0, 0, 0, 0, []), (41, 1, 0, 0, 0, 0, []), (42, 67, 1, 0, 0, 0, []), (44, 55, 24, 6, 4, 42, []), (47, 8, 0, 0, 0, 0, []), (48, 1, 0, 0, 0, 0, []), (49, 55, 28, 6, 5, 43, []), (52, 86, 0, 0, 0, 0, [])]
def zc_43 : List (Nat × MI) := [(0, 8, 0, 0, 0, 0, []), (1, 8, 1, 0, 0, 0, []), (2, 55, 24, 6, 4, 42, []), (5, 8, 0, 0, 0, 0, []), (6, 1, 0, 0, 0, 0, []), (7, 6, 2, 0, 0, 0, []), (8, 8, 1, 0, 0, 0, []), (9, 66, 0, 0, 0, 0, []), (10, 8, 0, 0, 0, 0, []), (11, 53, 9, 6, 0, 38, []), (14, 66, 0, 0, 0, 0, []), (15, 1, 0, 0, 0, 1, []), (16, 20, 0, 0, 0, 0, []), (17, 81, 32, 0, 0, 529, []), (20, 81, 32, 0, 0, 529, []), (23, 80, 38, 0, 0, 530, []), (26, 55, 28, 6, 5, 43, []), (29, 8, 0, 0, 0, 0, []), (30, 8, 0, 0, 0, 0, []), (31, 53, 28, 6, 5, 43, []), (34, 8, 0, 0, 0, 0, []), (35, 53, 28, 6, 5, 43, []), (38, 8, 0, 0, 0, 0, []), (39, 53, 28, 6, 5, 43, []), (42, 1, 0, 0, 0, 0, []), (43, 72, 41, 44, 0, 531, []), (46, 8, 0, 0, 0, 0, []), (47, 53, 28, 6, 5, 43, []), (50, 12, 3, 0, 0, 0, []), (51, 8, 0, 0, 0, 0, []), (52, 53, 28, 6, 5, 43, []), (55, 13, 4, 0, 0, 0, []), (57, 8, 0, 0, 0, 0, []), (58, 53, 28, 6, 5, 43, []), (61, 1, 0, 0, 0, 1, []), (62, 20, 0, 0, 0, 0, []), (63, 13, 5, 0, 0, 0, []), (65, 7, 5, 0, 0, 0, []), (67, 38, 246, 0, 0, 179, []), (70, 8, 1, 0, 0, 0, []), (71, 7, 5, 0, 0, 0, []), (73, 60, 0, 0, 0, 0, []), (74, 3, 0, 0, 0, 255, []), (77, 24, 0, 0, 0, 0, []), (78, 13, 6, 0, 0, 0, []), (80, 7, 6, 0, 0, 0, []), (82, 2, 0, 0, 0, 10, []), (84, 43, 92, 0, 0, 8, []), (87, 7, 5, 0, 0, 0, []), (89, 50, 93, 0, 0, 4, []), (92, 6, 3, 0, 0, 0, []), (93, 12, 3, 0, 0, 0, []), (94, 7, 6, 0, 0, 0, []), (96, 2, 0, 0, 0, 41, []), (98, 43, 108, 0, 0, 10, []), (101, 7, 5, 0, 0, 0, []), (103, 1, 0, 0, 0, 1, []), (104, 19, 0, 0, 0, 0, []), (105, 50, 110, 0, 0, 5, []), (108, 7, 4, 0, 0, 0, []), (110, 13, 4, 0, 0, 0, []), (112, 7, 6, 0, 0, 0, []), (114, 2, 0, 0, 0, 32, []), (116, 46, 141, 0, 0, 25, []), (119, 8, 0, 0, 0, 0, []), (120, 7, 5, 0, 0, 0, []), (122, 8, 0, 0, 0, 0, []), (123, 7, 5, 0, 0, 0, []), (125, 1, 0, 0, 0, 1, []), (126, 19, 0, 0, 0, 0, []), (127, 72, 45, 51, 0, 535, []), (130, 7, 5, 0, 0, 0, []), (132, 1, 0, 0, 0, 1, []), (133, 19, 0, 0, 0, 0, []), (134, 1, 0, 0, 0, 0, []), (135, 72, 41, 44, 0, 531, []), (138, 50, 240, 0, 0, 102, []), (141, 7, 6, 0, 0, 0, []), (143, 2, 0, 0, 0, 37, []), (145, 43, 164, 0, 0, 19, []), (148, 8, 0, 0, 0, 0, []), (149, 7, 5, 0, 0, 0, []), (151, 8, 0, 0, 0, 0, []), (152, 6, 3, 0, 0, 0, []), (153, 72, 45, 51, 0, 535, []), (156, 6, 3, 0, 0, 0, []), (157, 1, 0, 0, 0, 0, []), (158, 72, 41, 44, 0, 531, []), (161, 50, 240, 0, 0, 79, []), (164, 8, 0, 0, 0, 0, []), (165, 7, 5, 0, 0, 0, []), (167, 7, 5, 0, 0, 0, []), (169, 7, 6, 0, 0, 0, []), (171, 2, 0, 0, 0, 40, []), (173, 43, 181, 0, 0, 8, []), (176, 7, 4, 0, 0, 0, []), (178, 50, 189, 0, 0, 11, []), (181, 8, 0, 0, 0, 0, []), (182, 7, 5, 0, 0, 0, []), (184, 7, 6, 0, 0, 0, []), (186, 72, 49, 45, 0, 539, []), (189, 1, 0, 0, 0, 1, []), (190, 72, 41, 44, 0, 531, []), (193, 8, 0, 0, 0, 0, []), (194, 53, 21, 6, 3, 41, []), (197, 7, 5, 0, 0, 0, []), (199, 8, 0, 0, 0, 0, []), (200, 7, 5, 0, 0, 0, []), (202, 72, 52, 46, 0, 554, []), (205, 59, 0, 0, 0, 0, []), (206, 8, 0, 0, 0, 0, []), (207, 53, 18, 6, 2, 40, []), (210, 7, 5, 0, 0, 0, []), (212, 8, 0, 0, 0, 0, []), (213, 53, 21, 6, 3, 41, []), (216, 7, 5, 0, 0, 0, []), (218, 58, 0, 0, 0, 0, []), (219, 38, 231, 0, 0, 12, []), (222, 8, 0, 0, 0, 0, []), (223, 7, 5, 0, 0, 0, []), (225, 72, 55, 48, 0, 558, []), (228, 50, 239, 0, 0, 11, []), (231, 8, 0, 0, 0, 0, []), (232, 7, 5, 0, 0, 0, []), (234, 7, 6, 0, 0, 0, []), (236, 72, 58, 47, 0, 582, []), (239, 59, 0, 0, 0, 0, []), (240, 18, 5, 0, 0, (-1), []), (243, 50, 65, 0, 0, (-178), []), (246, 86, 0, 0, 0, 0, [])]
def zc_44 : List (Nat × MI) := [(0, 8, 0, 0, 0, 0, []), (1, 53, 9, 6, 0, 38, []), (4, 6, 1, 0, 0, 0, []), (5, 6, 2, 0, 0, 0, []), (6, 59, 0, 0, 0, 0, []), (7, 8, 0, 0, 0, 0, []), (8, 53, 15, 6, 1, 39, []), (11, 6, 1, 0, 0, 0, []), (12, 6, 3, 0, 0, 0, []), (13, 59, 0, 0, 0, 0, []), (14, 8, 0, 0, 0, 0, []), (15, 53, 18, 6, 2, 40, []), (18, 6, 1, 0, 0, 0, []), (19, 7, 4, 0, 0, 0, []), (21, 59, 0, 0, 0, 0, []), (22, 8, 0, 0, 0, 0, []), (23, 53, 21, 6, 3, 41, []), (26, 6, 1, 0, 0, 0, []), (27, 1, 0, 0, 0, (-1), []), (28, 59, 0, 0, 0, 0, []), (29, 86, 0, 0, 0, 0, [])]
def zc_45 : List (Nat × MI) := [(0, 8, 0, 0, 0, 0, []), (1, 6, 1, 0, 0, 0, []), (2, 1, 0, 0, 0, 1, []), (3, 19, 0, 0, 0, 0, []), (4, 72, 61, 50, 0, 543, []), (7, 12, 3, 0, 0, 0, []), (8, 6, 2, 0, 0, 0, []), (9, 2, 0, 0, 0, 47, []), (11, 42, 21, 0, 0, 10, []), (14, 6, 2, 0, 0, 0, []), (15, 75, 64, 49, 0, 547, []), (18, 36, 42, 0, 0, 24, []), (21, 6, 3, 0, 0, 0, []), (22, 75, 64, 49, 0, 547, []), (25, 36, 38, 0, 0, 13, []), (28, 8, 0, 0, 0, 0, []), (29, 6, 1, 0, 0, 0, []), (30, 1, 0, 0, 0, 1, []), (31, 19, 0, 0, 0, 0, []), (32, 72, 68, 52, 0, 550, []), (35, 50, 41, 0, 0, 6, []), (38, 6, 1, 0, 0, 0, []), (39, 1, 0, 0, 0, 1, []), (40, 19, 0, 0, 0, 0, []), (41, 83, 0, 0, 0, 0, []), (42, 6, 2, 0, 0, 0, []), (43, 2, 0, 0, 0, 60, []), (45, 42, 54, 0, 0, 9, []), (48, 6, 2, 0, 0, 0, []), (49, 2, 0, 0, 0, 62, []), (51, 43, 65, 0, 0, 14, []), (54, 6, 3, 0, 0, 0, []), (55, 6, 2, 0, 0, 0, []), (56, 43, 65, 0, 0, 9, []), (59, 6, 1, 0, 0, 0, []), (60, 1, 0, 0, 0, 2, []), (61, 19, 0, 0, 0, 0, []), (62, 50, 68, 0, 0, 6, []), (65, 6, 1, 0, 0, 0, []), (66, 1, 0, 0, 0, 1, []), (67, 19, 0, 0, 0, 0, []), (68, 83, 0, 0, 0, 0, [])]
def zc_46 : List (Nat × MI) := [(0, 1, 0, 0, 0, 0, []), (1, 12, 2, 0, 0, 0, []), (2, 8, 0, 0, 0, 0, []), (3, 6, 1, 0, 0, 0, []), (4, 72, 68, 52, 0, 550, []), (7, 12, 3, 0, 0, 0, []), (8, 6, 3, 0, 0, 0, []), (9, 6, 1, 0, 0, 0, []), (10, 20, 0, 0, 0, 0, []), (11, 2, 0, 0, 0, 6, []), (13, 47, 18, 0, 0, 5, []), (16, 1, 0, 0, 0, (-1), []), (17, 83, 0, 0, 0, 0, []), (18, 6, 1, 0, 0, 0, []), (19, 13, 4, 0, 0, 0, []), (21, 7, 4, 0, 0, 0, []), (23, 6, 3, 0, 0, 0, []), (24, 45, 66, 0, 0, 42, []), (27, 8, 0, 0, 0, 0, []), (28, 7, 4, 0, 0, 0, []), (30, 72, 61, 50, 0, 543, []), (33, 2, 0, 0, 0, 48, []), (35, 20, 0, 0, 0, 0, []), (36, 13, 5, 0, 0, 0, []), (38, 7, 5, 0, 0, 0, []), (40, 38, 50, 0, 0, 10, []), (43, 7, 5, 0, 0, 0, []), (45, 2, 0, 0, 0, 9, []), (47, 47, 52, 0, 0, 5, []), (50, 1, 0, 0, 0, (-1), []), (51, 83, 0, 0, 0, 0, []), (52, 6, 2, 0, 0, 0, []), (53, 2, 0, 0, 0, 10, []), (55, 21, 0, 0, 0, 0, []), (56, 7, 5, 0, 0, 0, []), (58, 19, 0, 0, 0, 0, []), (59, 12, 2, 0, 0, 0, []), (60, 18, 4, 0, 0, 1, []), (63, 50, 21, 0, 0, (-42), []), (66, 6, 2, 0, 0, 0, []), (67, 83, 0, 0, 0, 0, [])]
def zc_47 : List (Nat × MI) := [(0, 6, 2, 0, 0, 0, []), (1, 75, 64, 49, 0, 547, []), (4, 36, 39, 0, 0, 35, []), (7, 8, 0, 0, 0, 0, []), (8, 6, 1, 0, 0, 0, []), (9, 70, 71, 12, 0, 0, []), (11, 72, 73, 57, 0, 571, []), (14, 36, 22, 0, 0, 8, []), (17, 2, 0, 0, 0, 6, []), (19, 50, 38, 0, 0, 19, []), (22, 8, 0, 0, 0, 0, []), (23, 6, 1, 0, 0, 0, []), (24, 70, 77, 13, 0, 0, []), (26, 72, 73, 57, 0, 571, []), (29, 36, 37, 0, 0, 8, []), (32, 2, 0, 0, 0, 7, []), (34, 50, 38, 0, 0, 4, []), (37, 1, 0, 0, 0, 2, []), (38, 83, 0, 0, 0, 0, []), (39, 8, 0, 0, 0, 0, []), (40, 6, 1, 0, 0, 0, []), (41, 72, 68, 52, 0, 550, []), (44, 6, 1, 0, 0, 0, []), (45, 1, 0, 0, 0, 2, []), (46, 19, 0, 0, 0, 0, []), (47, 43, 54, 0, 0, 7, []), (50, 1, 0, 0, 0, 1, []), (51, 50, 55, 0, 0, 4, []), (54, 1, 0, 0, 0, 0, []), (55, 12, 3, 0, 0, 0, []), (56, 6, 2, 0, 0, 0, []), (57, 52, 139, 51, 0, 0, [(47, 108), (60, 111), (62, 122), (91, 133), (93, 136)]), (108, 2, 0, 0, 0, 8, []), (110, 83, 0, 0, 0, 0, []), (111, 6, 3, 0, 0, 0, []), (112, 36, 120, 0, 0, 8, []), (115, 2, 0, 0, 0, 9, []), (117, 50, 121, 0, 0, 4, []), (120, 1, 0, 0, 0, 1, []), (121, 83, 0, 0, 0, 0, []), (122, 6, 3, 0, 0, 0, []), (123, 36, 131, 0, 0, 8, []), (126, 2, 0, 0, 0, 10, []), (128, 50, 132, 0, 0, 4, []), (131, 1, 0, 0, 0, 1, []), (132, 83, 0, 0, 0, 0, []), (133, 2, 0, 0, 0, 11, []), (135, 83, 0, 0, 0, 0, []), (136, 2, 0, 0, 0, 12, []), (138, 83, 0, 0, 0, 0, []), (139, 1, 0, 0, 0, 1, []), (140, 83, 0, 0, 0, 0, [])]
def zc_48 : List (Nat × MI) := [(0, 8, 0, 0, 0, 0, []), (1, 6, 1, 0, 0, 0, []), (2, 72, 79, 54, 0, 562, []), (5, 12, 2, 0, 0, 0, []), (6, 8, 0, 0, 0, 0, []), (7, 6, 1, 0, 0, 0, []), (8, 72, 82, 55, 0, 566, []), (11, 12, 3, 0, 0, 0, []), (12, 8, 0, 0, 0, 0, []), (13, 6, 3, 0, 0, 0, []), (14, 72, 79, 54, 0, 562, []), (17, 39, 22, 0, 0, 5, []), (20, 1, 0, 0, 0, 3, []), (21, 83, 0, 0, 0, 0, []), (22, 8, 0, 0, 0, 0, []), (23, 6, 3, 0, 0, 0, []), (24, 72, 82, 55, 0, 566, []), (27, 13, 4, 0, 0, 0, []), (29, 8, 0, 0, 0, 0, []), (30, 7, 4, 0, 0, 0, []), (32, 70, 85, 10, 0, 0, []), (34, 72, 73, 57, 0, 571, []), (37, 36, 42, 0, 0, 5, []), (40, 1, 0, 0, 0, 4, []), (41, 83, 0, 0, 0, 0, []), (42, 6, 2, 0, 0, 0, []), (43, 1, 0, 0, 0, 1, []), (44, 44, 57, 0, 0, 13, []), (47, 6, 2, 0, 0, 0, []), (48, 2, 0, 0, 0, 60, []), (50, 46, 57, 0, 0, 7, []), (53, 1, 0, 0, 0, 1, []), (54, 50, 58, 0, 0, 4, []), (57, 1, 0, 0, 0, 0, []), (58, 13, 5, 0, 0, 0, []), (60, 7, 5, 0, 0, 0, []), (62, 36, 80, 0, 0, 18, []), (65, 8, 0, 0, 0, 0, []), (66, 7, 4, 0, 0, 0, []), (68, 70, 87, 11, 0, 0, []), (70, 72, 73, 57, 0, 571, []), (73, 36, 80, 0, 0, 7, []), (76, 1, 0, 0, 0, 5, []), (77, 50, 81, 0, 0, 4, []), (80, 1, 0, 0, 0, 3, []), (81, 83, 0, 0, 0, 0, [])]
def zc_49 : List (Nat × MI) := [(0, 6, 0, 0, 0, 0, []), (1, 52, 94, 91, 0, 0, [(37, 92), (40, 92), (41, 92), (47, 92), (60, 92), (62, 92), (91, 92), (93, 92), (123, 92), (125, 92)]), (92, 1, 0, 0, 0, 0, []), (93, 83, 0, 0, 0, 0, []), (94, 6, 0, 0, 0, 0, []), (95, 2, 0, 0, 0, 32, []), (97, 47, 104, 0, 0, 7, []), (100, 1, 0, 0, 0, 1, []), (101, 50, 105, 0, 0, 4, []), (104, 1, 0, 0, 0, 0, []), (105, 83, 0, 0, 0, 0, [])]
def zc_50 : List (Nat × MI) := [(0, 6, 1, 0, 0, 0, []), (1, 38, 25, 0, 0, 24, []), (4, 6, 1, 0, 0, 0, []), (5, 8, 0, 0, 0, 0, []), (6, 53, 28, 6, 5, 43, []), (9, 45, 25, 0, 0, 16, []), (12, 8, 0, 0, 0, 0, []), (13, 53, 24, 6, 4, 42, []), (16, 6, 1, 0, 0, 0, []), (17, 60, 0, 0, 0, 0, []), (18, 3, 0, 0, 0, 255, []), (21, 24, 0, 0, 0, 0, []), (22, 50, 26, 0, 0, 4, []), (25, 1, 0, 0, 0, (-1), []), (26, 83, 0, 0, 0, 0, [])]
def zc_51 : List (Nat × MI) := [(0, 6, 1, 0, 0, 0, []), (1, 38, 21, 0, 0, 20, []), (4, 6, 1, 0, 0, 0, []), (5, 8, 0, 0, 0, 0, []), (6, 53, 28, 6, 5, 43, []), (9, 46, 21, 0, 0, 12, []), (12, 8, 0, 0, 0, 0, []), (13, 53, 9, 6, 0, 38, []), (16, 6, 1, 0, 0, 0, []), (17, 58, 0, 0, 0, 0, []), (18, 50, 25, 0, 0, 7, []), (21, 8, 0, 0, 0, 0, []), (22, 53, 28, 6, 5, 43, []), (25, 83, 0, 0, 0, 0, [])]
def zc_52 : List (Nat × MI) := [(0, 6, 1, 0, 0, 0, []), (1, 38, 21, 0, 0, 20, []), (4, 6, 1, 0, 0, 0, []), (5, 8, 0, 0, 0, 0, []), (6, 53, 28, 6, 5, 43, []), (9, 46, 21, 0, 0, 12, []), (12, 8, 0, 0, 0, 0, []), (13, 53, 15, 6, 1, 39, []), (16, 6, 1, 0, 0, 0, []), (17, 58, 0, 0, 0, 0, []), (18, 50, 25, 0, 0, 7, []), (21, 8, 0, 0, 0, 0, []), (22, 53, 28, 6, 5, 43, []), (25, 83, 0, 0, 0, 0, [])]
def zc_53 : List (Nat × MI) := [(0, 6, 1, 0, 0, 0, []), (1, 38, 21, 0, 0, 20, []), (4, 6, 1, 0, 0, 0, []), (5, 8, 0, 0, 0, 0, []), (6, 53, 28, 6, 5, 43, []), (9, 46, 21, 0, 0, 12, []), (12, 8, 0, 0, 0, 0, []), (13, 53, 18, 6, 2, 40, []), (16, 6, 1, 0, 0, 0, []), (17, 58, 0, 0, 0, 0, []), (18, 50, 22, 0, 0, 4, []), (21, 1, 0, 0, 0, 0, []), (22, 83, 0, 0, 0, 0, [])]
def zc_54 : List (Nat × MI) := [(0, 6, 1, 0, 0, 0, []), (1, 38, 21, 0, 0, 20, []), (4, 6, 1, 0, 0, 0, []), (5, 8, 0, 0, 0, 0, []), (6, 53, 28, 6, 5, 43, []), (9, 46, 21, 0, 0, 12, []), (12, 8, 0, 0, 0, 0, []), (13, 53, 21, 6, 3, 41, []), (16, 6, 1, 0, 0, 0, []), (17, 58, 0, 0, 0, 0, []), (18, 50, 22, 0, 0, 4, []), (21, 1, 0, 0, 0, (-1), []), (22, 83, 0, 0, 0, 0, [])]
def zc_55 : List (Nat × MI) := [(0, 8, 0, 0, 0, 0, []), (1, 8, 0, 0, 0, 0, []), (2, 6, 1, 0, 0, 0, []), (3, 72, 68, 52, 0, 550, []), (6, 72, 45, 51, 0, 535, []), (9, 83, 0, 0, 0, 0, [])]
def zc_56 : List (Nat × MI) := [(0, 8, 0, 0, 0, 0, []), (1, 8, 0, 0, 0, 0, []), (2, 8, 0, 0, 0, 0, []), (3, 6, 1, 0, 0, 0, []), (4, 72, 82, 55, 0, 566, []), (7, 72, 82, 55, 0, 566, []), (10, 72, 68, 52, 0, 550, []), (13, 83, 0, 0, 0, 0, [])]
def zc_57 : List (Nat × MI) := [(0, 8, 0, 0, 0, 0, []), (1, 6, 1, 0, 0, 0, []), (2, 72, 68, 52, 0, 550, []), (5, 6, 1, 0, 0, 0, []), (6, 20, 0, 0, 0, 0, []), (7, 8, 2, 0, 0, 0, []), (8, 78, 89, 0, 0, 575, []), (11, 43, 27, 0, 0, 16, []), (14, 8, 0, 0, 0, 0, []), (15, 6, 1, 0, 0, 0, []), (16, 8, 2, 0, 0, 0, []), (17, 72, 95, 58, 0, 576, []), (20, 36, 27, 0, 0, 7, []), (23, 1, 0, 0, 0, 1, []), (24, 50, 28, 0, 0, 4, []), (27, 1, 0, 0, 0, 0, []), (28, 83, 0, 0, 0, 0, [])]
def zc_58 : List (Nat × MI) := [(0, 6, 1, 0, 0, 0, []), (1, 38, 17, 0, 0, 16, []), (4, 6, 1, 0, 0, 0, []), (5, 8, 0, 0, 0, 0, []), (6, 53, 28, 6, 5, 43, []), (9, 8, 2, 0, 0, 0, []), (10, 78, 89, 0, 0, 575, []), (13, 20, 0, 0, 0, 0, []), (14, 47, 19, 0, 0, 5, []), (17, 1, 0, 0, 0, 0, []), (18, 83, 0, 0, 0, 0, []), (19, 1, 0, 0, 0, 0, []), (20, 12, 3, 0, 0, 0, []), (21, 6, 3, 0, 0, 0, []), (22, 8, 2, 0, 0, 0, []), (23, 78, 89, 0, 0, 575, []), (26, 45, 57, 0, 0, 31, []), (29, 8, 0, 0, 0, 0, []), (30, 53, 24, 6, 4, 42, []), (33, 6, 1, 0, 0, 0, []), (34, 6, 3, 0, 0, 0, []), (35, 19, 0, 0, 0, 0, []), (36, 60, 0, 0, 0, 0, []), (37, 3, 0, 0, 0, 255, []), (40, 24, 0, 0, 0, 0, []), (41, 8, 2, 0, 0, 0, []), (42, 6, 3, 0, 0, 0, []), (43, 79, 98, 0, 0, 580, []), (46, 42, 51, 0, 0, 5, []), (49, 1, 0, 0, 0, 0, []), (50, 83, 0, 0, 0, 0, []), (51, 18, 3, 0, 0, 1, []), (54, 50, 21, 0, 0, (-33), []), (57, 1, 0, 0, 0, 1, []), (58, 83, 0, 0, 0, 0, [])]
def zc_59 : List (Nat × MI) := [(0, 8, 0, 0, 0, 0, []), (1, 77, 3, 0, 0, 355, []), (4, 8, 0, 0, 0, 0, []), (5, 3, 0, 0, 0, 3000, []), (8, 67, 1, 0, 0, 0, []), (10, 57, 9, 7, 0, 356, []), (13, 8, 0, 0, 0, 0, []), (14, 1, 0, 0, 0, 0, []), (15, 55, 15, 7, 1, 358, []), (18, 86, 0, 0, 0, 0, [])]
def zc_60 : List (Nat × MI) := [(0, 6, 1, 0, 0, 0, []), (1, 38, 34, 0, 0, 33, []), (4, 6, 1, 0, 0, 0, []), (5, 8, 0, 0, 0, 0, []), (6, 53, 15, 7, 1, 358, []), (9, 45, 34, 0, 0, 25, []), (12, 6, 1, 0, 0, 0, []), (13, 8, 0, 0, 0, 0, []), (14, 53, 9, 7, 0, 356, []), (17, 66, 0, 0, 0, 0, []), (18, 45, 34, 0, 0, 16, []), (21, 8, 0, 0, 0, 0, []), (22, 53, 9, 7, 0, 356, []), (25, 6, 1, 0, 0, 0, []), (26, 60, 0, 0, 0, 0, []), (27, 3, 0, 0, 0, 255, []), (30, 24, 0, 0, 0, 0, []), (31, 50, 35, 0, 0, 4, []), (34, 1, 0, 0, 0, (-1), []), (35, 83, 0, 0, 0, 0, [])]
def zc_61 : List (Nat × MI) := [(0, 8, 0, 0, 0, 0, []), (1, 1, 0, 0, 0, 0, []), (2, 55, 15, 7, 1, 358, []), (5, 8, 0, 0, 0, 0, []), (6, 70, 19, 0, 0, 0, []), (8, 72, 21, 67, 0, 402, []), (11, 1, 0, 0, 0, 1, []), (12, 12, 2, 0, 0, 0, []), (13, 6, 2, 0, 0, 0, []), (14, 2, 0, 0, 0, 60, []), (16, 46, 42, 0, 0, 26, []), (19, 8, 1, 0, 0, 0, []), (20, 6, 2, 0, 0, 0, []), (21, 72, 25, 35, 0, 458, []), (24, 14, 3, 0, 0, 0, []), (25, 8, 3, 0, 0, 0, []), (26, 48, 36, 0, 0, 10, []), (29, 8, 0, 0, 0, 0, []), (30, 8, 1, 0, 0, 0, []), (31, 8, 3, 0, 0, 0, []), (32, 6, 2, 0, 0, 0, []), (33, 72, 31, 62, 0, 462, []), (36, 18, 2, 0, 0, 1, []), (39, 50, 13, 0, 0, (-26), []), (42, 8, 1, 0, 0, 0, []), (43, 54, 35, 5, 15, 310, []), (46, 41, 69, 0, 0, 23, []), (49, 8, 0, 0, 0, 0, []), (50, 70, 38, 8, 0, 0, []), (52, 72, 21, 67, 0, 402, []), (55, 8, 0, 0, 0, 0, []), (56, 8, 1, 0, 0, 0, []), (57, 54, 35, 5, 15, 310, []), (60, 72, 40, 68, 0, 466, []), (63, 8, 0, 0, 0, 0, []), (64, 70, 44, 9, 0, 0, []), (66, 72, 21, 67, 0, 402, []), (69, 86, 0, 0, 0, 0, [])]
def zc_62 : List (Nat × MI) := [(0, 8, 0, 0, 0, 0, []), (1, 6, 3, 0, 0, 0, []), (2, 72, 40, 68, 0, 466, []), (5, 8, 0, 0, 0, 0, []), (6, 70, 46, 1, 0, 0, []), (8, 72, 21, 67, 0, 402, []), (11, 8, 2, 0, 0, 0, []), (12, 54, 48, 2, 6, 218, []), (15, 36, 27, 0, 0, 12, []), (18, 8, 0, 0, 0, 0, []), (19, 8, 1, 0, 0, 0, []), (20, 8, 2, 0, 0, 0, []), (21, 72, 54, 64, 0, 471, []), (24, 50, 33, 0, 0, 9, []), (27, 8, 0, 0, 0, 0, []), (28, 8, 1, 0, 0, 0, []), (29, 8, 2, 0, 0, 0, []), (30, 72, 58, 63, 0, 503, []), (33, 8, 0, 0, 0, 0, []), (34, 70, 61, 7, 0, 0, []), (36, 72, 21, 67, 0, 402, []), (39, 86, 0, 0, 0, 0, [])]
def zc_63 : List (Nat × MI) := [(0, 8, 2, 0, 0, 0, []), (1, 54, 63, 2, 3, 209, []), (4, 12, 3, 0, 0, 0, []), (5, 8, 2, 0, 0, 0, []), (6, 54, 66, 2, 4, 212, []), (9, 13, 4, 0, 0, 0, []), (11, 6, 3, 0, 0, 0, []), (12, 7, 4, 0, 0, 0, []), (14, 45, 33, 0, 0, 19, []), (17, 8, 1, 0, 0, 0, []), (18, 6, 3, 0, 0, 0, []), (19, 72, 69, 37, 0, 497, []), (22, 2, 0, 0, 0, 32, []), (24, 46, 33, 0, 0, 9, []), (27, 18, 3, 0, 0, 1, []), (30, 50, 11, 0, 0, (-19), []), (33, 6, 3, 0, 0, 0, []), (34, 7, 4, 0, 0, 0, []), (36, 45, 58, 0, 0, 22, []), (39, 8, 1, 0, 0, 0, []), (40, 7, 4, 0, 0, 0, []), (42, 1, 0, 0, 0, 1, []), (43, 20, 0, 0, 0, 0, []), (44, 72, 69, 37, 0, 497, []), (47, 2, 0, 0, 0, 32, []), (49, 46, 58, 0, 0, 9, []), (52, 18, 4, 0, 0, (-1), []), (55, 50, 33, 0, 0, (-22), []), (58, 8, 0, 0, 0, 0, []), (59, 8, 1, 0, 0, 0, []), (60, 8, 2, 0, 0, 0, []), (61, 54, 73, 2, 0, 200, []), (64, 6, 3, 0, 0, 0, []), (65, 7, 4, 0, 0, 0, []), (67, 1, 0, 0, 0, 0, []), (68, 72, 77, 65, 0, 477, []), (71, 86, 0, 0, 0, 0, [])]
def zc_64 : List (Nat × MI) := [(0, 8, 0, 0, 0, 0, []), (1, 70, 81, 2, 0, 0, []), (3, 72, 21, 67, 0, 402, []), (6, 8, 0, 0, 0, 0, []), (7, 8, 2, 0, 0, 0, []), (8, 54, 83, 2, 10, 231, []), (11, 8, 2, 0, 0, 0, []), (12, 54, 86, 2, 9, 227, []), (15, 20, 0, 0, 0, 0, []), (16, 72, 40, 68, 0, 466, []), (19, 8, 0, 0, 0, 0, []), (20, 70, 89, 3, 0, 0, []), (22, 72, 21, 67, 0, 402, []), (25, 8, 0, 0, 0, 0, []), (26, 8, 1, 0, 0, 0, []), (27, 8, 2, 0, 0, 0, []), (28, 54, 73, 2, 0, 200, []), (31, 8, 2, 0, 0, 0, []), (32, 54, 73, 2, 0, 200, []), (35, 54, 91, 0, 0, 100, []), (38, 8, 2, 0, 0, 0, []), (39, 54, 73, 2, 0, 200, []), (42, 54, 96, 0, 1, 102, []), (45, 1, 0, 0, 0, 1, []), (46, 72, 77, 65, 0, 477, []), (49, 8, 0, 0, 0, 0, []), (50, 70, 99, 5, 0, 0, []), (52, 72, 21, 67, 0, 402, []), (55, 8, 2, 0, 0, 0, []), (56, 54, 86, 2, 9, 227, []), (59, 12, 3, 0, 0, 0, []), (60, 6, 3, 0, 0, 0, []), (61, 8, 2, 0, 0, 0, []), (62, 54, 83, 2, 10, 231, []), (65, 45, 83, 0, 0, 18, []), (68, 8, 0, 0, 0, 0, []), (69, 8, 1, 0, 0, 0, []), (70, 6, 3, 0, 0, 0, []), (71, 72, 69, 37, 0, 497, []), (74, 72, 101, 66, 0, 454, []), (77, 18, 3, 0, 0, 1, []), (80, 50, 60, 0, 0, (-20), []), (83, 8, 0, 0, 0, 0, []), (84, 70, 104, 6, 0, 0, []), (86, 72, 21, 67, 0, 402, []), (89, 86, 0, 0, 0, 0, [])]
def zc_65 : List (Nat × MI) := [(0, 8, 2, 0, 0, 0, []), (1, 54, 106, 0, 10, 131, []), (4, 13, 6, 0, 0, 0, []), (6, 8, 2, 0, 0, 0, []), (7, 54, 109, 0, 12, 138, []), (10, 13, 7, 0, 0, 0, []), (12, 6, 3, 0, 0, 0, []), (13, 13, 8, 0, 0, 0, []), (15, 7, 8, 0, 0, 0, []), (17, 7, 4, 0, 0, 0, []), (19, 45, 235, 0, 0, 216, []), (22, 7, 6, 0, 0, 0, []), (24, 8, 2, 0, 0, 0, []), (25, 54, 112, 0, 11, 135, []), (28, 45, 51, 0, 0, 23, []), (31, 8, 1, 0, 0, 0, []), (32, 54, 115, 5, 3, 291, []), (35, 7, 6, 0, 0, 0, []), (37, 72, 119, 14, 0, 481, []), (40, 7, 8, 0, 0, 0, []), (42, 45, 51, 0, 0, 9, []), (45, 18, 6, 0, 0, 1, []), (48, 50, 22, 0, 0, (-26), []), (51, 7, 7, 0, 0, 0, []), (53, 8, 2, 0, 0, 0, []), (54, 54, 124, 0, 13, 140, []), (57, 45, 80, 0, 0, 23, []), (60, 8, 1, 0, 0, 0, []), (61, 54, 127, 5, 4, 293, []), (64, 7, 7, 0, 0, 0, []), (66, 72, 119, 14, 0, 481, []), (69, 7, 8, 0, 0, 0, []), (71, 45, 80, 0, 0, 9, []), (74, 18, 7, 0, 0, 1, []), (77, 50, 51, 0, 0, (-26), []), (80, 7, 6, 0, 0, 0, []), (82, 8, 2, 0, 0, 0, []), (83, 54, 112, 0, 11, 135, []), (86, 45, 107, 0, 0, 21, []), (89, 8, 1, 0, 0, 0, []), (90, 54, 115, 5, 3, 291, []), (93, 7, 6, 0, 0, 0, []), (95, 72, 119, 14, 0, 481, []), (98, 7, 8, 0, 0, 0, []), (100, 43, 107, 0, 0, 7, []), (103, 1, 0, 0, 0, 1, []), (104, 50, 108, 0, 0, 4, []), (107, 1, 0, 0, 0, 0, []), (108, 13, 9, 0, 0, 0, []), (110, 7, 7, 0, 0, 0, []), (112, 8, 2, 0, 0, 0, []), (113, 54, 124, 0, 13, 140, []), (116, 45, 137, 0, 0, 21, []), (119, 8, 1, 0, 0, 0, []), (120, 54, 127, 5, 4, 293, []), (123, 7, 7, 0, 0, 0, []), (125, 72, 119, 14, 0, 481, []), (128, 7, 8, 0, 0, 0, []), (130, 43, 137, 0, 0, 7, []), (133, 1, 0, 0, 0, 1, []), (134, 50, 138, 0, 0, 4, []), (137, 1, 0, 0, 0, 0, []), (138, 13, 10, 0, 0, 0, []), (140, 7, 5, 0, 0, 0, []), (142, 36, 171, 0, 0, 29, []), (145, 7, 10, 0, 0, 0, []), (147, 36, 171, 0, 0, 24, []), (150, 7, 8, 0, 0, 0, []), (152, 1, 0, 0, 0, 1, []), (153, 19, 0, 0, 0, 0, []), (154, 8, 1, 0, 0, 0, []), (155, 54, 127, 5, 4, 293, []), (158, 7, 7, 0, 0, 0, []), (160, 72, 130, 15, 0, 485, []), (163, 80, 133, 0, 0, 489, []), (166, 13, 8, 0, 0, 0, []), (168, 50, 232, 0, 0, 64, []), (171, 7, 9, 0, 0, 0, []), (173, 36, 219, 0, 0, 46, []), (176, 8, 1, 0, 0, 0, []), (177, 8, 1, 0, 0, 0, []), (178, 54, 115, 5, 3, 291, []), (181, 7, 6, 0, 0, 0, []), (183, 72, 139, 13, 0, 492, []), (186, 72, 25, 35, 0, 458, []), (189, 49, 219, 0, 0, 30, []), (192, 8, 0, 0, 0, 0, []), (193, 70, 142, 4, 0, 0, []), (195, 72, 21, 67, 0, 402, []), (198, 7, 8, 0, 0, 0, []), (200, 1, 0, 0, 0, 1, []), (201, 19, 0, 0, 0, 0, []), (202, 8, 1, 0, 0, 0, []), (203, 54, 115, 5, 3, 291, []), (206, 7, 6, 0, 0, 0, []), (208, 72, 130, 15, 0, 485, []), (211, 80, 133, 0, 0, 489, []), (214, 13, 8, 0, 0, 0, []), (216, 50, 232, 0, 0, 16, []), (219, 8, 0, 0, 0, 0, []), (220, 8, 1, 0, 0, 0, []), (221, 7, 8, 0, 0, 0, []), (223, 72, 69, 37, 0, 497, []), (226, 72, 101, 66, 0, 454, []), (229, 18, 8, 0, 0, 1, []), (232, 50, 15, 0, 0, (-217), []), (235, 86, 0, 0, 0, 0, [])]
def zc_66 : List (Nat × MI) := [(0, 8, 0, 0, 0, 0, []), (1, 53, 15, 7, 1, 358, []), (4, 38, 40, 0, 0, 36, []), (7, 8, 0, 0, 0, 0, []), (8, 53, 15, 7, 1, 358, []), (11, 8, 0, 0, 0, 0, []), (12, 53, 9, 7, 0, 356, []), (15, 66, 0, 0, 0, 0, []), (16, 45, 40, 0, 0, 24, []), (19, 8, 0, 0, 0, 0, []), (20, 53, 9, 7, 0, 356, []), (23, 8, 0, 0, 0, 0, []), (24, 53, 15, 7, 1, 358, []), (27, 6, 1, 0, 0, 0, []), (28, 27, 0, 0, 0, 0, []), (29, 61, 0, 0, 0, 0, []), (30, 8, 0, 0, 0, 0, []), (31, 33, 0, 0, 0, 0, []), (32, 53, 15, 7, 1, 358, []), (35, 1, 0, 0, 0, 1, []), (36, 19, 0, 0, 0, 0, []), (37, 55, 15, 7, 1, 358, []), (40, 86, 0, 0, 0, 0, [])]
def zc_67 : List (Nat × MI) := [(0, 1, 0, 0, 0, 0, []), (1, 12, 2, 0, 0, 0, []), (2, 6, 2, 0, 0, 0, []), (3, 8, 1, 0, 0, 0, []), (4, 78, 144, 0, 0, 406, []), (7, 45, 25, 0, 0, 18, []), (10, 8, 0, 0, 0, 0, []), (11, 8, 1, 0, 0, 0, []), (12, 6, 2, 0, 0, 0, []), (13, 79, 150, 0, 0, 416, []), (16, 72, 101, 66, 0, 454, []), (19, 18, 2, 0, 0, 1, []), (22, 50, 2, 0, 0, (-20), []), (25, 86, 0, 0, 0, 0, [])]
def zc_68 : List (Nat × MI) := [(0, 1, 0, 0, 0, 0, []), (1, 12, 2, 0, 0, 0, []), (2, 3, 0, 0, 0, 10000, []), (5, 12, 3, 0, 0, 0, []), (6, 6, 3, 0, 0, 0, []), (7, 41, 59, 0, 0, 52, []), (10, 6, 1, 0, 0, 0, []), (11, 6, 3, 0, 0, 0, []), (12, 22, 0, 0, 0, 0, []), (13, 2, 0, 0, 0, 10, []), (15, 23, 0, 0, 0, 0, []), (16, 13, 4, 0, 0, 0, []), (18, 6, 2, 0, 0, 0, []), (19, 37, 32, 0, 0, 13, []), (22, 7, 4, 0, 0, 0, []), (24, 40, 32, 0, 0, 8, []), (27, 6, 3, 0, 0, 0, []), (28, 1, 0, 0, 0, 1, []), (29, 43, 36, 0, 0, 7, []), (32, 1, 0, 0, 0, 1, []), (33, 50, 37, 0, 0, 4, []), (36, 1, 0, 0, 0, 0, []), (37, 12, 2, 0, 0, 0, []), (38, 6, 2, 0, 0, 0, []), (39, 36, 51, 0, 0, 12, []), (42, 8, 0, 0, 0, 0, []), (43, 2, 0, 0, 0, 48, []), (45, 7, 4, 0, 0, 0, []), (47, 19, 0, 0, 0, 0, []), (48, 72, 101, 66, 0, 454, []), (51, 6, 3, 0, 0, 0, []), (52, 2, 0, 0, 0, 10, []), (54, 22, 0, 0, 0, 0, []), (55, 12, 3, 0, 0, 0, []), (56, 50, 6, 0, 0, (-50), []), (59, 86, 0, 0, 0, 0, [])]
def zc_69 : List (Nat × MI) := [(0, 8, 0, 0, 0, 0, []), (1, 77, 1, 0, 0, 29, []), (4, 69, 7, 6, 0, 32, []), (7, 33, 0, 0, 0, 0, []), (8, 3, 0, 0, 0, 3000, []), (11, 73, 11, 42, 0, 34, []), (14, 14, 1, 0, 0, 0, []), (15, 8, 0, 0, 0, 0, []), (16, 3, 0, 0, 0, 1500, []), (19, 67, 1, 0, 0, 0, []), (21, 57, 14, 8, 0, 365, []), (24, 8, 0, 0, 0, 0, []), (25, 1, 0, 0, 0, 0, []), (26, 55, 18, 8, 1, 366, []), (29, 8, 0, 0, 0, 0, []), (30, 69, 22, 5, 0, 59, []), (33, 33, 0, 0, 0, 0, []), (34, 8, 1, 0, 0, 0, []), (35, 3, 0, 0, 0, 1500, []), (38, 73, 24, 23, 0, 61, []), (41, 57, 27, 8, 2, 367, []), (44, 8, 0, 0, 0, 0, []), (45, 69, 22, 5, 0, 59, []), (48, 33, 0, 0, 0, 0, []), (49, 8, 1, 0, 0, 0, []), (50, 3, 0, 0, 0, 3000, []), (53, 73, 24, 23, 0, 61, []), (56, 57, 31, 8, 3, 368, []), (59, 8, 0, 0, 0, 0, []), (60, 69, 34, 7, 0, 350, []), (63, 33, 0, 0, 0, 0, []), (64, 73, 36, 59, 0, 352, []), (67, 57, 37, 8, 4, 369, []), (70, 86, 0, 0, 0, 0, [])]
def zc_70 : List (Nat × MI) := [(0, 8, 0, 0, 0, 0, []), (1, 53, 18, 8, 1, 366, []), (4, 38, 17, 0, 0, 13, []), (7, 8, 0, 0, 0, 0, []), (8, 53, 18, 8, 1, 366, []), (11, 3, 0, 0, 0, 1500, []), (14, 44, 25, 0, 0, 11, []), (17, 87, 41, 0, 43, 754, []), (20, 33, 0, 0, 0, 0, []), (21, 99, 43, 0, 0, 796, []), (24, 98, 0, 0, 0, 0, []), (25, 8, 0, 0, 0, 0, []), (26, 53, 14, 8, 0, 365, []), (29, 8, 0, 0, 0, 0, []), (30, 53, 18, 8, 1, 366, []), (33, 6, 1, 0, 0, 0, []), (34, 61, 0, 0, 0, 0, []), (35, 8, 0, 0, 0, 0, []), (36, 33, 0, 0, 0, 0, []), (37, 53, 18, 8, 1, 366, []), (40, 1, 0, 0, 0, 1, []), (41, 19, 0, 0, 0, 0, []), (42, 55, 18, 8, 1, 366, []), (45, 86, 0, 0, 0, 0, [])]
def zc_71 : List (Nat × MI) := [(0, 8, 0, 0, 0, 0, []), (1, 53, 18, 8, 1, 366, []), (4, 37, 15, 0, 0, 11, []), (7, 87, 44, 1, 46, 826, []), (10, 33, 0, 0, 0, 0, []), (11, 99, 46, 0, 0, 835, []), (14, 98, 0, 0, 0, 0, []), (15, 8, 0, 0, 0, 0, []), (16, 53, 27, 8, 2, 367, []), (19, 8, 0, 0, 0, 0, []), (20, 53, 14, 8, 0, 365, []), (23, 8, 0, 0, 0, 0, []), (24, 53, 18, 8, 1, 366, []), (27, 72, 47, 24, 0, 510, []), (30, 8, 0, 0, 0, 0, []), (31, 1, 0, 0, 0, 0, []), (32, 55, 18, 8, 1, 366, []), (35, 8, 0, 0, 0, 0, []), (36, 53, 27, 8, 2, 367, []), (39, 54, 51, 5, 11, 302, []), (42, 83, 0, 0, 0, 0, [])]
def zc_72 : List (Nat × MI) := [(0, 8, 0, 0, 0, 0, []), (1, 53, 27, 8, 2, 367, []), (4, 6, 1, 0, 0, 0, []), (5, 72, 54, 35, 0, 850, []), (8, 14, 3, 0, 0, 0, []), (9, 8, 3, 0, 0, 0, []), (10, 49, 21, 0, 0, 11, []), (13, 87, 58, 2, 60, 851, []), (16, 33, 0, 0, 0, 0, []), (17, 99, 60, 0, 0, 860, []), (20, 98, 0, 0, 0, 0, []), (21, 6, 2, 0, 0, 0, []), (22, 51, 100, 34, 0, 0, [(0, 56), (1, 62), (2, 68), (3, 74), (4, 83)]), (56, 8, 3, 0, 0, 0, []), (57, 54, 61, 2, 2, 205, []), (60, 25, 0, 0, 0, 0, []), (61, 84, 0, 0, 0, 0, []), (62, 8, 3, 0, 0, 0, []), (63, 54, 66, 2, 3, 208, []), (66, 25, 0, 0, 0, 0, []), (67, 84, 0, 0, 0, 0, []), (68, 8, 3, 0, 0, 0, []), (69, 54, 69, 2, 4, 211, []), (72, 25, 0, 0, 0, 0, []), (73, 84, 0, 0, 0, 0, []), (74, 8, 3, 0, 0, 0, []), (75, 54, 72, 2, 0, 198, []), (78, 54, 76, 0, 3, 107, []), (81, 25, 0, 0, 0, 0, []), (82, 84, 0, 0, 0, 0, []), (83, 8, 3, 0, 0, 0, []), (84, 54, 72, 2, 0, 198, []), (87, 54, 81, 0, 11, 134, []), (90, 8, 3, 0, 0, 0, []), (91, 54, 72, 2, 0, 198, []), (94, 54, 84, 0, 10, 130, []), (97, 20, 0, 0, 0, 0, []), (98, 25, 0, 0, 0, 0, []), (99, 84, 0, 0, 0, 0, []), (100, 87, 87, 3, 89, 866, []), (103, 33, 0, 0, 0, 0, []), (104, 99, 89, 0, 0, 875, []), (107, 98, 0, 0, 0, 0, [])]
def zc_73 : List (Nat × MI) := [(0, 6, 1, 0, 0, 0, []), (1, 1, 0, 0, 0, (-1), []), (2, 43, 16, 0, 0, 14, []), (5, 8, 0, 0, 0, 0, []), (6, 53, 27, 8, 2, 367, []), (9, 54, 90, 5, 5, 295, []), (12, 54, 94, 3, 3, 76, []), (15, 83, 0, 0, 0, 0, []), (16, 6, 1, 0, 0, 0, []), (17, 38, 43, 0, 0, 26, []), (20, 6, 1, 0, 0, 0, []), (21, 8, 0, 0, 0, 0, []), (22, 53, 27, 8, 2, 367, []), (25, 54, 90, 5, 5, 295, []), (28, 54, 94, 3, 3, 76, []), (31, 45, 43, 0, 0, 12, []), (34, 6, 2, 0, 0, 0, []), (35, 38, 43, 0, 0, 8, []), (38, 6, 2, 0, 0, 0, []), (39, 1, 0, 0, 0, 1, []), (40, 47, 51, 0, 0, 11, []), (43, 87, 87, 3, 89, 866, []), (46, 33, 0, 0, 0, 0, []), (47, 99, 89, 0, 0, 875, []), (50, 98, 0, 0, 0, 0, []), (51, 6, 2, 0, 0, 0, []), (52, 37, 69, 0, 0, 17, []), (55, 8, 0, 0, 0, 0, []), (56, 53, 27, 8, 2, 367, []), (59, 54, 90, 5, 5, 295, []), (62, 6, 1, 0, 0, 0, []), (63, 72, 99, 13, 0, 888, []), (66, 50, 80, 0, 0, 14, []), (69, 8, 0, 0, 0, 0, []), (70, 53, 27, 8, 2, 367, []), (73, 54, 90, 5, 5, 295, []), (76, 6, 1, 0, 0, 0, []), (77, 72, 103, 14, 0, 889, []), (80, 83, 0, 0, 0, 0, [])]
def zc_74 : List (Nat × MI) := [(0, 8, 0, 0, 0, 0, []), (1, 53, 27, 8, 2, 367, []), (4, 54, 106, 5, 15, 312, []), (7, 83, 0, 0, 0, 0, [])]
def zc_75 : List (Nat × MI) := [(0, 8, 0, 0, 0, 0, []), (1, 53, 27, 8, 2, 367, []), (4, 54, 109, 5, 16, 314, []), (7, 54, 113, 4, 1, 265, []), (10, 83, 0, 0, 0, 0, [])]
def zc_76 : List (Nat × MI) := [(0, 6, 1, 0, 0, 0, []), (1, 38, 18, 0, 0, 17, []), (4, 6, 1, 0, 0, 0, []), (5, 8, 0, 0, 0, 0, []), (6, 53, 27, 8, 2, 367, []), (9, 54, 109, 5, 16, 314, []), (12, 54, 113, 4, 1, 265, []), (15, 44, 26, 0, 0, 11, []), (18, 87, 87, 3, 89, 866, []), (21, 33, 0, 0, 0, 0, []), (22, 99, 89, 0, 0, 875, []), (25, 98, 0, 0, 0, 0, []), (26, 8, 0, 0, 0, 0, []), (27, 53, 27, 8, 2, 367, []), (30, 54, 109, 5, 16, 314, []), (33, 6, 1, 0, 0, 0, []), (34, 72, 116, 18, 0, 897, []), (37, 83, 0, 0, 0, 0, [])]
def zc_77 : List (Nat × MI) := [(0, 8, 0, 0, 0, 0, []), (1, 53, 27, 8, 2, 367, []), (4, 54, 119, 5, 12, 305, []), (7, 83, 0, 0, 0, 0, [])]
def zc_78 : List (Nat × MI) := [(0, 6, 1, 0, 0, 0, []), (1, 38, 9, 0, 0, 8, []), (4, 6, 1, 0, 0, 0, []), (5, 1, 0, 0, 0, 1, []), (6, 47, 17, 0, 0, 11, []), (9, 87, 87, 3, 89, 866, []), (12, 33, 0, 0, 0, 0, []), (13, 99, 89, 0, 0, 875, []), (16, 98, 0, 0, 0, 0, []), (17, 6, 1, 0, 0, 0, []), (18, 37, 31, 0, 0, 13, []), (21, 8, 0, 0, 0, 0, []), (22, 53, 27, 8, 2, 367, []), (25, 54, 122, 5, 13, 307, []), (28, 50, 38, 0, 0, 10, []), (31, 8, 0, 0, 0, 0, []), (32, 53, 27, 8, 2, 367, []), (35, 54, 125, 5, 14, 309, []), (38, 83, 0, 0, 0, 0, [])]
def zc_79 : List (Nat × MI) := [(0, 8, 0, 0, 0, 0, []), (1, 53, 27, 8, 2, 367, []), (4, 6, 1, 0, 0, 0, []), (5, 72, 54, 35, 0, 850, []), (8, 14, 3, 0, 0, 0, []), (9, 8, 3, 0, 0, 0, []), (10, 48, 20, 0, 0, 10, []), (13, 8, 3, 0, 0, 0, []), (14, 54, 128, 2, 6, 220, []), (17, 37, 28, 0, 0, 11, []), (20, 87, 58, 2, 60, 851, []), (23, 33, 0, 0, 0, 0, []), (24, 99, 60, 0, 0, 860, []), (27, 98, 0, 0, 0, 0, []), (28, 6, 2, 0, 0, 0, []), (29, 1, 0, 0, 0, (-1), []), (30, 43, 43, 0, 0, 13, []), (33, 8, 3, 0, 0, 0, []), (34, 54, 132, 2, 10, 233, []), (37, 8, 3, 0, 0, 0, []), (38, 54, 135, 2, 9, 229, []), (41, 20, 0, 0, 0, 0, []), (42, 83, 0, 0, 0, 0, []), (43, 6, 2, 0, 0, 0, []), (44, 38, 60, 0, 0, 16, []), (47, 6, 2, 0, 0, 0, []), (48, 8, 3, 0, 0, 0, []), (49, 54, 132, 2, 10, 233, []), (52, 8, 3, 0, 0, 0, []), (53, 54, 135, 2, 9, 229, []), (56, 20, 0, 0, 0, 0, []), (57, 44, 68, 0, 0, 11, []), (60, 87, 87, 3, 89, 866, []), (63, 33, 0, 0, 0, 0, []), (64, 99, 89, 0, 0, 875, []), (67, 98, 0, 0, 0, 0, []), (68, 8, 0, 0, 0, 0, []), (69, 53, 27, 8, 2, 367, []), (72, 8, 3, 0, 0, 0, []), (73, 54, 135, 2, 9, 229, []), (76, 6, 2, 0, 0, 0, []), (77, 19, 0, 0, 0, 0, []), (78, 72, 138, 37, 0, 915, []), (81, 83, 0, 0, 0, 0, [])]
def zc_80 : List (Nat × MI) := [(0, 8, 0, 0, 0, 0, []), (1, 53, 27, 8, 2, 367, []), (4, 6, 1, 0, 0, 0, []), (5, 72, 54, 35, 0, 850, []), (8, 14, 2, 0, 0, 0, []), (9, 8, 2, 0, 0, 0, []), (10, 49, 21, 0, 0, 11, []), (13, 87, 58, 2, 60, 851, []), (16, 33, 0, 0, 0, 0, []), (17, 99, 60, 0, 0, 860, []), (20, 98, 0, 0, 0, 0, []), (21, 8, 2, 0, 0, 0, []), (22, 54, 141, 2, 5, 216, []), (25, 36, 46, 0, 0, 21, []), (28, 8, 2, 0, 0, 0, []), (29, 54, 128, 2, 6, 220, []), (32, 36, 42, 0, 0, 10, []), (35, 8, 2, 0, 0, 0, []), (36, 54, 144, 2, 7, 223, []), (39, 36, 46, 0, 0, 7, []), (42, 1, 0, 0, 0, 1, []), (43, 50, 47, 0, 0, 4, []), (46, 1, 0, 0, 0, 0, []), (47, 83, 0, 0, 0, 0, [])]
def zc_81 : List (Nat × MI) := [(0, 6, 1, 0, 0, 0, []), (1, 1, 0, 0, 0, (-1), []), (2, 43, 16, 0, 0, 14, []), (5, 8, 0, 0, 0, 0, []), (6, 53, 27, 8, 2, 367, []), (9, 54, 147, 5, 6, 297, []), (12, 54, 94, 3, 3, 76, []), (15, 83, 0, 0, 0, 0, []), (16, 6, 1, 0, 0, 0, []), (17, 38, 34, 0, 0, 17, []), (20, 6, 1, 0, 0, 0, []), (21, 8, 0, 0, 0, 0, []), (22, 53, 27, 8, 2, 367, []), (25, 54, 147, 5, 6, 297, []), (28, 54, 94, 3, 3, 76, []), (31, 44, 42, 0, 0, 11, []), (34, 87, 87, 3, 89, 866, []), (37, 33, 0, 0, 0, 0, []), (38, 99, 89, 0, 0, 875, []), (41, 98, 0, 0, 0, 0, []), (42, 8, 0, 0, 0, 0, []), (43, 53, 27, 8, 2, 367, []), (46, 54, 147, 5, 6, 297, []), (49, 6, 1, 0, 0, 0, []), (50, 72, 99, 13, 0, 888, []), (53, 83, 0, 0, 0, 0, [])]
def zc_82 : List (Nat × MI) := [(0, 8, 0, 0, 0, 0, []), (1, 53, 27, 8, 2, 367, []), (4, 54, 150, 5, 2, 288, []), (7, 37, 12, 0, 0, 5, []), (10, 1, 0, 0, 0, 0, []), (11, 83, 0, 0, 0, 0, []), (12, 8, 0, 0, 0, 0, []), (13, 53, 37, 8, 4, 369, []), (16, 8, 0, 0, 0, 0, []), (17, 53, 27, 8, 2, 367, []), (20, 72, 153, 61, 0, 397, []), (23, 8, 0, 0, 0, 0, []), (24, 53, 31, 8, 3, 368, []), (27, 8, 0, 0, 0, 0, []), (28, 53, 37, 8, 4, 369, []), (31, 54, 157, 7, 0, 357, []), (34, 8, 0, 0, 0, 0, []), (35, 53, 37, 8, 4, 369, []), (38, 54, 160, 7, 1, 359, []), (41, 72, 47, 24, 0, 510, []), (44, 8, 0, 0, 0, 0, []), (45, 53, 31, 8, 3, 368, []), (48, 54, 90, 5, 5, 295, []), (51, 54, 94, 3, 3, 76, []), (54, 83, 0, 0, 0, 0, [])]
def zc_83 : List (Nat × MI) := [(0, 6, 1, 0, 0, 0, []), (1, 1, 0, 0, 0, (-1), []), (2, 43, 13, 0, 0, 11, []), (5, 8, 0, 0, 0, 0, []), (6, 53, 37, 8, 4, 369, []), (9, 54, 160, 7, 1, 359, []), (12, 83, 0, 0, 0, 0, []), (13, 6, 1, 0, 0, 0, []), (14, 38, 28, 0, 0, 14, []), (17, 6, 1, 0, 0, 0, []), (18, 8, 0, 0, 0, 0, []), (19, 53, 37, 8, 4, 369, []), (22, 54, 160, 7, 1, 359, []), (25, 44, 36, 0, 0, 11, []), (28, 87, 87, 3, 89, 866, []), (31, 33, 0, 0, 0, 0, []), (32, 99, 89, 0, 0, 875, []), (35, 98, 0, 0, 0, 0, []), (36, 8, 0, 0, 0, 0, []), (37, 53, 37, 8, 4, 369, []), (40, 6, 1, 0, 0, 0, []), (41, 72, 161, 60, 0, 937, []), (44, 83, 0, 0, 0, 0, [])]
def zc_84 : List (Nat × MI) := [(0, 6, 0, 0, 0, 0, []), (1, 2, 0, 0, 0, 6, []), (3, 42, 17, 0, 0, 14, []), (6, 6, 0, 0, 0, 0, []), (7, 2, 0, 0, 0, 7, []), (9, 42, 17, 0, 0, 8, []), (12, 6, 0, 0, 0, 0, []), (13, 1, 0, 0, 0, 5, []), (14, 43, 21, 0, 0, 7, []), (17, 1, 0, 0, 0, 1, []), (18, 50, 22, 0, 0, 4, []), (21, 1, 0, 0, 0, 0, []), (22, 83, 0, 0, 0, 0, [])]
def zc_85 : List (Nat × MI) := [(0, 8, 0, 0, 0, 0, []), (1, 77, 1, 0, 0, 946, []), (4, 8, 0, 0, 0, 0, []), (5, 3, 0, 0, 0, 1500, []), (8, 67, 0, 0, 0, 0, []), (10, 57, 7, 9, 2, 949, []), (13, 8, 0, 0, 0, 0, []), (14, 1, 0, 0, 0, 2, []), (15, 67, 0, 0, 0, 0, []), (17, 57, 13, 9, 5, 952, []), (20, 8, 0, 0, 0, 0, []), (21, 3, 0, 0, 0, 6000, []), (24, 67, 0, 0, 0, 0, []), (26, 57, 16, 9, 6, 953, []), (29, 8, 0, 0, 0, 0, []), (30, 2, 0, 0, 0, 122, []), (32, 67, 2, 0, 0, 0, []), (34, 57, 19, 9, 7, 954, []), (37, 8, 0, 0, 0, 0, []), (38, 2, 0, 0, 0, 122, []), (40, 67, 0, 0, 0, 0, []), (42, 57, 23, 9, 8, 955, []), (45, 8, 0, 0, 0, 0, []), (46, 2, 0, 0, 0, 122, []), (48, 67, 0, 0, 0, 0, []), (50, 57, 26, 9, 9, 956, []), (53, 8, 0, 0, 0, 0, []), (54, 2, 0, 0, 0, 122, []), (56, 67, 0, 0, 0, 0, []), (58, 57, 29, 9, 10, 957, []), (61, 8, 0, 0, 0, 0, []), (62, 2, 0, 0, 0, 122, []), (64, 67, 2, 0, 0, 0, []), (66, 57, 32, 9, 11, 958, []), (69, 8, 0, 0, 0, 0, []), (70, 2, 0, 0, 0, 122, []), (72, 67, 0, 0, 0, 0, []), (74, 57, 35, 9, 12, 959, []), (77, 8, 0, 0, 0, 0, []), (78, 2, 0, 0, 0, 122, []), (80, 67, 0, 0, 0, 0, []), (82, 57, 38, 9, 13, 960, []), (85, 8, 0, 0, 0, 0, []), (86, 1, 0, 0, 0, 2, []), (87, 67, 0, 0, 0, 0, []), (89, 57, 41, 9, 14, 961, []), (92, 8, 0, 0, 0, 0, []), (93, 3, 0, 0, 0, 4000, []), (96, 67, 0, 0, 0, 0, []), (98, 57, 44, 9, 15, 962, []), (101, 8, 0, 0, 0, 0, []), (102, 3, 0, 0, 0, 4000, []), (105, 67, 0, 0, 0, 0, []), (107, 57, 47, 9, 16, 963, []), (110, 8, 0, 0, 0, 0, []), (111, 3, 0, 0, 0, 800, []), (114, 67, 0, 0, 0, 0, []), (116, 57, 50, 9, 18, 965, []), (119, 8, 0, 0, 0, 0, []), (120, 1, 0, 0, 0, 2, []), (121, 67, 0, 0, 0, 0, []), (123, 57, 53, 9, 19, 966, []), (126, 8, 0, 0, 0, 0, []), (127, 1, 0, 0, 0, 2, []), (128, 67, 0, 0, 0, 0, []), (130, 57, 56, 9, 20, 967, []), (133, 8, 0, 0, 0, 0, []), (134, 1, 0, 0, 0, 2, []), (135, 67, 0, 0, 0, 0, []), (137, 57, 59, 9, 21, 968, []), (140, 8, 0, 0, 0, 0, []), (141, 1, 0, 0, 0, 2, []), (142, 67, 0, 0, 0, 0, []), (144, 57, 62, 9, 22, 969, []), (147, 8, 0, 0, 0, 0, []), (148, 1, 0, 0, 0, 2, []), (149, 67, 0, 0, 0, 0, []), (151, 57, 65, 9, 23, 970, []), (154, 8, 0, 0, 0, 0, []), (155, 2, 0, 0, 0, 122, []), (157, 67, 0, 0, 0, 0, []), (159, 57, 68, 9, 24, 971, []), (162, 8, 0, 0, 0, 0, []), (163, 3, 0, 0, 0, 700, []), (166, 67, 0, 0, 0, 0, []), (168, 57, 71, 9, 39, 986, []), (171, 8, 0, 0, 0, 0, []), (172, 3, 0, 0, 0, 700, []), (175, 67, 0, 0, 0, 0, []), (177, 57, 74, 9, 40, 987, []), (180, 8, 0, 0, 0, 0, []), (181, 3, 0, 0, 0, 700, []), (184, 67, 0, 0, 0, 0, []), (186, 57, 77, 9, 41, 988, []), (189, 8, 0, 0, 0, 0, []), (190, 3, 0, 0, 0, 700, []), (193, 67, 0, 0, 0, 0, []), (195, 57, 80, 9, 43, 990, []), (198, 8, 0, 0, 0, 0, []), (199, 3, 0, 0, 0, 700, []), (202, 67, 0, 0, 0, 0, []), (204, 57, 83, 9, 44, 991, []), (207, 8, 0, 0, 0, 0, []), (208, 2, 0, 0, 0, 61, []), (210, 67, 2, 0, 0, 0, []), (212, 57, 86, 9, 52, 999, []), (215, 8, 0, 0, 0, 0, []), (216, 3, 0, 0, 0, 1400, []), (219, 67, 0, 0, 0, 0, []), (221, 57, 89, 9, 53, 1000, []), (224, 8, 0, 0, 0, 0, []), (225, 3, 0, 0, 0, 3000, []), (228, 67, 0, 0, 0, 0, []), (230, 57, 92, 9, 55, 1002, []), (233, 86, 0, 0, 0, 0, [])]
def zc_86 : List (Nat × MI) := [(0, 8, 0, 0, 0, 0, []), (1, 53, 95, 9, 0, 947, []), (4, 83, 0, 0, 0, 0, [])]
def zc_87 : List (Nat × MI) := [(0, 8, 0, 0, 0, 0, []), (1, 8, 0, 0, 0, 0, []), (2, 53, 99, 9, 1, 948, []), (5, 3, 0, 0, 0, 1500, []), (8, 43, 15, 0, 0, 7, []), (11, 1, 0, 0, 0, 1, []), (12, 50, 16, 0, 0, 4, []), (15, 1, 0, 0, 0, 0, []), (16, 55, 95, 9, 0, 947, []), (19, 8, 0, 0, 0, 0, []), (20, 53, 95, 9, 0, 947, []), (23, 37, 50, 0, 0, 27, []), (26, 8, 0, 0, 0, 0, []), (27, 53, 7, 9, 2, 949, []), (30, 8, 0, 0, 0, 0, []), (31, 53, 99, 9, 1, 948, []), (34, 6, 1, 0, 0, 0, []), (35, 3, 0, 0, 0, 255, []), (38, 24, 0, 0, 0, 0, []), (39, 59, 0, 0, 0, 0, []), (40, 8, 0, 0, 0, 0, []), (41, 33, 0, 0, 0, 0, []), (42, 53, 99, 9, 1, 948, []), (45, 1, 0, 0, 0, 1, []), (46, 19, 0, 0, 0, 0, []), (47, 55, 99, 9, 1, 948, []), (50, 86, 0, 0, 0, 0, [])]
def zc_88 : List (Nat × MI) := [(0, 8, 0, 0, 0, 0, []), (1, 53, 16, 9, 6, 953, []), (4, 3, 0, 0, 0, 3000, []), (7, 8, 0, 0, 0, 0, []), (8, 53, 102, 9, 4, 951, []), (11, 21, 0, 0, 0, 0, []), (12, 6, 1, 0, 0, 0, []), (13, 19, 0, 0, 0, 0, []), (14, 58, 0, 0, 0, 0, []), (15, 83, 0, 0, 0, 0, [])]
def zc_89 : List (Nat × MI) := [(0, 6, 0, 0, 0, 0, []), (1, 2, 0, 0, 0, 40, []), (3, 42, 60, 0, 0, 57, []), (6, 6, 0, 0, 0, 0, []), (7, 2, 0, 0, 0, 41, []), (9, 42, 60, 0, 0, 51, []), (12, 6, 0, 0, 0, 0, []), (13, 2, 0, 0, 0, 60, []), (15, 42, 60, 0, 0, 45, []), (18, 6, 0, 0, 0, 0, []), (19, 2, 0, 0, 0, 62, []), (21, 42, 60, 0, 0, 39, []), (24, 6, 0, 0, 0, 0, []), (25, 2, 0, 0, 0, 91, []), (27, 42, 60, 0, 0, 33, []), (30, 6, 0, 0, 0, 0, []), (31, 2, 0, 0, 0, 93, []), (33, 42, 60, 0, 0, 27, []), (36, 6, 0, 0, 0, 0, []), (37, 2, 0, 0, 0, 123, []), (39, 42, 60, 0, 0, 21, []), (42, 6, 0, 0, 0, 0, []), (43, 2, 0, 0, 0, 125, []), (45, 42, 60, 0, 0, 15, []), (48, 6, 0, 0, 0, 0, []), (49, 2, 0, 0, 0, 47, []), (51, 42, 60, 0, 0, 9, []), (54, 6, 0, 0, 0, 0, []), (55, 2, 0, 0, 0, 37, []), (57, 43, 64, 0, 0, 7, []), (60, 1, 0, 0, 0, 1, []), (61, 50, 65, 0, 0, 4, []), (64, 1, 0, 0, 0, 0, []), (65, 12, 1, 0, 0, 0, []), (66, 6, 0, 0, 0, 0, []), (67, 2, 0, 0, 0, 32, []), (69, 47, 80, 0, 0, 11, []), (72, 6, 1, 0, 0, 0, []), (73, 37, 80, 0, 0, 7, []), (76, 1, 0, 0, 0, 1, []), (77, 50, 81, 0, 0, 4, []), (80, 1, 0, 0, 0, 0, []), (81, 83, 0, 0, 0, 0, [])]
def zc_90 : List (Nat × MI) := [(0, 1, 0, 0, 0, 1, []), (1, 12, 1, 0, 0, 0, []), (2, 6, 1, 0, 0, 0, []), (3, 36, 98, 0, 0, 95, []), (6, 8, 0, 0, 0, 0, []), (7, 53, 105, 9, 31, 978, []), (10, 8, 0, 0, 0, 0, []), (11, 53, 108, 9, 32, 979, []), (14, 45, 98, 0, 0, 84, []), (17, 8, 0, 0, 0, 0, []), (18, 8, 0, 0, 0, 0, []), (19, 53, 105, 9, 31, 978, []), (22, 72, 111, 88, 0, 1141, []), (25, 2, 0, 0, 0, 37, []), (27, 43, 67, 0, 0, 40, []), (30, 8, 0, 0, 0, 0, []), (31, 53, 105, 9, 31, 978, []), (34, 8, 0, 0, 0, 0, []), (35, 53, 108, 9, 32, 979, []), (38, 45, 2, 0, 0, (-36), []), (41, 8, 0, 0, 0, 0, []), (42, 8, 0, 0, 0, 0, []), (43, 53, 105, 9, 31, 978, []), (46, 72, 111, 88, 0, 1141, []), (49, 2, 0, 0, 0, 10, []), (51, 42, 2, 0, 0, (-49), []), (54, 8, 0, 0, 0, 0, []), (55, 33, 0, 0, 0, 0, []), (56, 53, 105, 9, 31, 978, []), (59, 1, 0, 0, 0, 1, []), (60, 19, 0, 0, 0, 0, []), (61, 55, 105, 9, 31, 978, []), (64, 50, 30, 0, 0, (-34), []), (67, 8, 0, 0, 0, 0, []), (68, 8, 0, 0, 0, 0, []), (69, 53, 105, 9, 31, 978, []), (72, 72, 111, 88, 0, 1141, []), (75, 2, 0, 0, 0, 32, []), (77, 46, 93, 0, 0, 16, []), (80, 8, 0, 0, 0, 0, []), (81, 33, 0, 0, 0, 0, []), (82, 53, 105, 9, 31, 978, []), (85, 1, 0, 0, 0, 1, []), (86, 19, 0, 0, 0, 0, []), (87, 55, 105, 9, 31, 978, []), (90, 50, 2, 0, 0, (-88), []), (93, 1, 0, 0, 0, 0, []), (94, 12, 1, 0, 0, 0, []), (95, 50, 2, 0, 0, (-93), []), (98, 86, 0, 0, 0, 0, [])]
def zc_91 : List (Nat × MI) := [(0, 8, 0, 0, 0, 0, []), (1, 72, 115, 90, 0, 1158, []), (4, 8, 0, 0, 0, 0, []), (5, 53, 105, 9, 31, 978, []), (8, 8, 0, 0, 0, 0, []), (9, 53, 108, 9, 32, 979, []), (12, 44, 17, 0, 0, 5, []), (15, 1, 0, 0, 0, 0, []), (16, 83, 0, 0, 0, 0, []), (17, 8, 0, 0, 0, 0, []), (18, 8, 0, 0, 0, 0, []), (19, 53, 105, 9, 31, 978, []), (22, 55, 118, 9, 33, 980, []), (25, 8, 0, 0, 0, 0, []), (26, 8, 0, 0, 0, 0, []), (27, 53, 105, 9, 31, 978, []), (30, 72, 111, 88, 0, 1141, []), (33, 12, 1, 0, 0, 0, []), (34, 8, 0, 0, 0, 0, []), (35, 33, 0, 0, 0, 0, []), (36, 53, 105, 9, 31, 978, []), (39, 1, 0, 0, 0, 1, []), (40, 19, 0, 0, 0, 0, []), (41, 55, 105, 9, 31, 978, []), (44, 6, 1, 0, 0, 0, []), (45, 2, 0, 0, 0, 40, []), (47, 43, 118, 0, 0, 71, []), (50, 8, 0, 0, 0, 0, []), (51, 53, 105, 9, 31, 978, []), (54, 8, 0, 0, 0, 0, []), (55, 53, 108, 9, 32, 979, []), (58, 45, 87, 0, 0, 29, []), (61, 8, 0, 0, 0, 0, []), (62, 8, 0, 0, 0, 0, []), (63, 53, 105, 9, 31, 978, []), (66, 72, 111, 88, 0, 1141, []), (69, 2, 0, 0, 0, 41, []), (71, 42, 87, 0, 0, 16, []), (74, 8, 0, 0, 0, 0, []), (75, 33, 0, 0, 0, 0, []), (76, 53, 105, 9, 31, 978, []), (79, 1, 0, 0, 0, 1, []), (80, 19, 0, 0, 0, 0, []), (81, 55, 105, 9, 31, 978, []), (84, 50, 50, 0, 0, (-34), []), (87, 8, 0, 0, 0, 0, []), (88, 8, 0, 0, 0, 0, []), (89, 53, 105, 9, 31, 978, []), (92, 8, 0, 0, 0, 0, []), (93, 53, 108, 9, 32, 979, []), (96, 45, 108, 0, 0, 12, []), (99, 8, 0, 0, 0, 0, []), (100, 53, 105, 9, 31, 978, []), (103, 1, 0, 0, 0, 1, []), (104, 19, 0, 0, 0, 0, []), (105, 50, 112, 0, 0, 7, []), (108, 8, 0, 0, 0, 0, []), (109, 53, 105, 9, 31, 978, []), (112, 55, 105, 9, 31, 978, []), (115, 50, 224, 0, 0, 109, []), (118, 6, 1, 0, 0, 0, []), (119, 2, 0, 0, 0, 60, []), (121, 42, 130, 0, 0, 9, []), (124, 6, 1, 0, 0, 0, []), (125, 2, 0, 0, 0, 62, []), (127, 43, 173, 0, 0, 46, []), (130, 8, 0, 0, 0, 0, []), (131, 8, 0, 0, 0, 0, []), (132, 53, 105, 9, 31, 978, []), (135, 8, 0, 0, 0, 0, []), (136, 53, 108, 9, 32, 979, []), (139, 45, 163, 0, 0, 24, []), (142, 8, 0, 0, 0, 0, []), (143, 8, 0, 0, 0, 0, []), (144, 53, 105, 9, 31, 978, []), (147, 72, 111, 88, 0, 1141, []), (150, 6, 1, 0, 0, 0, []), (151, 43, 163, 0, 0, 12, []), (154, 8, 0, 0, 0, 0, []), (155, 53, 105, 9, 31, 978, []), (158, 1, 0, 0, 0, 1, []), (159, 19, 0, 0, 0, 0, []), (160, 50, 167, 0, 0, 7, []), (163, 8, 0, 0, 0, 0, []), (164, 53, 105, 9, 31, 978, []), (167, 55, 105, 9, 31, 978, []), (170, 50, 224, 0, 0, 54, []), (173, 6, 1, 0, 0, 0, []), (174, 2, 0, 0, 0, 47, []), (176, 42, 186, 0, 0, 10, []), (179, 6, 1, 0, 0, 0, []), (180, 75, 121, 89, 0, 1162, []), (183, 36, 224, 0, 0, 41, []), (186, 8, 0, 0, 0, 0, []), (187, 53, 105, 9, 31, 978, []), (190, 8, 0, 0, 0, 0, []), (191, 53, 108, 9, 32, 979, []), (194, 45, 224, 0, 0, 30, []), (197, 8, 0, 0, 0, 0, []), (198, 8, 0, 0, 0, 0, []), (199, 53, 105, 9, 31, 978, []), (202, 72, 111, 88, 0, 1141, []), (205, 75, 121, 89, 0, 1162, []), (208, 36, 224, 0, 0, 16, []), (211, 8, 0, 0, 0, 0, []), (212, 33, 0, 0, 0, 0, []), (213, 53, 105, 9, 31, 978, []), (216, 1, 0, 0, 0, 1, []), (217, 19, 0, 0, 0, 0, []), (218, 55, 105, 9, 31, 978, []), (221, 50, 186, 0, 0, (-35), []), (224, 8, 0, 0, 0, 0, []), (225, 8, 0, 0, 0, 0, []), (226, 53, 105, 9, 31, 978, []), (229, 55, 125, 9, 34, 981, []), (232, 1, 0, 0, 0, 1, []), (233, 83, 0, 0, 0, 0, [])]
def zc_92 : List (Nat × MI) := [(0, 6, 1, 0, 0, 0, []), (1, 7, 4, 0, 0, 0, []), (3, 19, 0, 0, 0, 0, []), (4, 8, 0, 0, 0, 0, []), (5, 53, 13, 9, 5, 952, []), (8, 8, 0, 0, 0, 0, []), (9, 53, 102, 9, 4, 951, []), (12, 58, 0, 0, 0, 0, []), (13, 47, 18, 0, 0, 5, []), (16, 1, 0, 0, 0, 0, []), (17, 83, 0, 0, 0, 0, []), (18, 1, 0, 0, 0, 0, []), (19, 13, 5, 0, 0, 0, []), (21, 7, 5, 0, 0, 0, []), (23, 7, 4, 0, 0, 0, []), (25, 45, 59, 0, 0, 34, []), (28, 8, 0, 0, 0, 0, []), (29, 6, 1, 0, 0, 0, []), (30, 7, 5, 0, 0, 0, []), (32, 19, 0, 0, 0, 0, []), (33, 72, 111, 88, 0, 1141, []), (36, 10, 2, 0, 0, 0, []), (37, 2, 0, 0, 0, 8, []), (39, 7, 5, 0, 0, 0, []), (41, 21, 0, 0, 0, 0, []), (42, 31, 0, 0, 0, 0, []), (43, 5, 128, 1145, 0, 255, []), (46, 32, 0, 0, 0, 0, []), (47, 26, 0, 0, 0, 0, []), (48, 42, 53, 0, 0, 5, []), (51, 1, 0, 0, 0, 0, []), (52, 83, 0, 0, 0, 0, []), (53, 18, 5, 0, 0, 1, []), (56, 50, 21, 0, 0, (-35), []), (59, 1, 0, 0, 0, 1, []), (60, 83, 0, 0, 0, 0, [])]
def zc_93 : List (Nat × MI) := [(0, 8, 0, 0, 0, 0, []), (1, 6, 1, 0, 0, 0, []), (2, 5, 130, 1229, 0, 7018141438804520549, []), (5, 2, 0, 0, 0, 8, []), (7, 72, 132, 92, 0, 1137, []), (10, 36, 46, 0, 0, 36, []), (13, 6, 1, 0, 0, 0, []), (14, 2, 0, 0, 0, 9, []), (16, 19, 0, 0, 0, 0, []), (17, 8, 0, 0, 0, 0, []), (18, 53, 13, 9, 5, 952, []), (21, 8, 0, 0, 0, 0, []), (22, 53, 102, 9, 4, 951, []), (25, 58, 0, 0, 0, 0, []), (26, 46, 46, 0, 0, 20, []), (29, 8, 0, 0, 0, 0, []), (30, 6, 1, 0, 0, 0, []), (31, 2, 0, 0, 0, 8, []), (33, 19, 0, 0, 0, 0, []), (34, 72, 111, 88, 0, 1141, []), (37, 2, 0, 0, 0, 109, []), (39, 43, 46, 0, 0, 7, []), (42, 1, 0, 0, 0, 1, []), (43, 50, 47, 0, 0, 4, []), (46, 1, 0, 0, 0, 0, []), (47, 83, 0, 0, 0, 0, [])]
def zc_94 : List (Nat × MI) := [(0, 6, 2, 0, 0, 0, []), (1, 6, 1, 0, 0, 0, []), (2, 20, 0, 0, 0, 0, []), (3, 7, 5, 0, 0, 0, []), (5, 43, 23, 0, 0, 18, []), (8, 8, 0, 0, 0, 0, []), (9, 6, 1, 0, 0, 0, []), (10, 10, 3, 0, 0, 0, []), (11, 7, 5, 0, 0, 0, []), (13, 72, 132, 92, 0, 1137, []), (16, 36, 23, 0, 0, 7, []), (19, 1, 0, 0, 0, 1, []), (20, 50, 24, 0, 0, 4, []), (23, 1, 0, 0, 0, 0, []), (24, 83, 0, 0, 0, 0, [])]
def zc_95 : List (Nat × MI) := [(0, 6, 2, 0, 0, 0, []), (1, 6, 1, 0, 0, 0, []), (2, 20, 0, 0, 0, 0, []), (3, 2, 0, 0, 0, 6, []), (5, 47, 10, 0, 0, 5, []), (8, 1, 0, 0, 0, (-1), []), (9, 83, 0, 0, 0, 0, []), (10, 1, 0, 0, 0, 0, []), (11, 12, 3, 0, 0, 0, []), (12, 6, 1, 0, 0, 0, []), (13, 13, 4, 0, 0, 0, []), (15, 7, 4, 0, 0, 0, []), (17, 6, 2, 0, 0, 0, []), (18, 45, 62, 0, 0, 44, []), (21, 8, 0, 0, 0, 0, []), (22, 7, 4, 0, 0, 0, []), (24, 72, 111, 88, 0, 1141, []), (27, 13, 5, 0, 0, 0, []), (29, 7, 5, 0, 0, 0, []), (31, 2, 0, 0, 0, 48, []), (33, 44, 43, 0, 0, 10, []), (36, 7, 5, 0, 0, 0, []), (38, 2, 0, 0, 0, 57, []), (40, 47, 45, 0, 0, 5, []), (43, 1, 0, 0, 0, (-1), []), (44, 83, 0, 0, 0, 0, []), (45, 2, 0, 0, 0, 10, []), (47, 6, 3, 0, 0, 0, []), (48, 21, 0, 0, 0, 0, []), (49, 7, 5, 0, 0, 0, []), (51, 19, 0, 0, 0, 0, []), (52, 2, 0, 0, 0, 48, []), (54, 20, 0, 0, 0, 0, []), (55, 12, 3, 0, 0, 0, []), (56, 18, 4, 0, 0, 1, []), (59, 50, 15, 0, 0, (-44), []), (62, 6, 3, 0, 0, 0, []), (63, 83, 0, 0, 0, 0, [])]
def zc_96 : List (Nat × MI) := [(0, 8, 0, 0, 0, 0, []), (1, 6, 1, 0, 0, 0, []), (2, 6, 2, 0, 0, 0, []), (3, 72, 136, 95, 0, 1165, []), (6, 39, 11, 0, 0, 5, []), (9, 1, 0, 0, 0, 0, []), (10, 83, 0, 0, 0, 0, []), (11, 8, 0, 0, 0, 0, []), (12, 53, 105, 9, 31, 978, []), (15, 12, 3, 0, 0, 0, []), (16, 8, 0, 0, 0, 0, []), (17, 72, 140, 91, 0, 1154, []), (20, 36, 42, 0, 0, 22, []), (23, 8, 0, 0, 0, 0, []), (24, 8, 0, 0, 0, 0, []), (25, 53, 118, 9, 33, 980, []), (28, 8, 0, 0, 0, 0, []), (29, 53, 125, 9, 34, 981, []), (32, 72, 136, 95, 0, 1165, []), (35, 38, 42, 0, 0, 7, []), (38, 1, 0, 0, 0, 1, []), (39, 50, 43, 0, 0, 4, []), (42, 1, 0, 0, 0, 0, []), (43, 13, 4, 0, 0, 0, []), (45, 7, 4, 0, 0, 0, []), (47, 36, 80, 0, 0, 33, []), (50, 8, 0, 0, 0, 0, []), (51, 72, 140, 91, 0, 1154, []), (54, 36, 80, 0, 0, 26, []), (57, 8, 0, 0, 0, 0, []), (58, 8, 0, 0, 0, 0, []), (59, 53, 118, 9, 33, 980, []), (62, 8, 0, 0, 0, 0, []), (63, 53, 125, 9, 34, 981, []), (66, 5, 144, 1210, 0, 82, []), (69, 1, 0, 0, 0, 1, []), (70, 72, 146, 94, 0, 1170, []), (73, 36, 80, 0, 0, 7, []), (76, 1, 0, 0, 0, 1, []), (77, 50, 81, 0, 0, 4, []), (80, 1, 0, 0, 0, 0, []), (81, 13, 5, 0, 0, 0, []), (83, 8, 0, 0, 0, 0, []), (84, 7, 5, 0, 0, 0, []), (86, 36, 96, 0, 0, 10, []), (89, 8, 0, 0, 0, 0, []), (90, 53, 105, 9, 31, 978, []), (93, 50, 97, 0, 0, 4, []), (96, 6, 3, 0, 0, 0, []), (97, 55, 105, 9, 31, 978, []), (100, 7, 5, 0, 0, 0, []), (102, 83, 0, 0, 0, 0, [])]
def zc_97 : List (Nat × MI) := [(0, 8, 0, 0, 0, 0, []), (1, 53, 71, 9, 39, 986, []), (4, 8, 0, 0, 0, 0, []), (5, 53, 150, 9, 38, 985, []), (8, 6, 1, 0, 0, 0, []), (9, 59, 0, 0, 0, 0, []), (10, 8, 0, 0, 0, 0, []), (11, 53, 74, 9, 40, 987, []), (14, 8, 0, 0, 0, 0, []), (15, 53, 150, 9, 38, 985, []), (18, 8, 0, 0, 0, 0, []), (19, 53, 105, 9, 31, 978, []), (22, 59, 0, 0, 0, 0, []), (23, 8, 0, 0, 0, 0, []), (24, 53, 77, 9, 41, 988, []), (27, 8, 0, 0, 0, 0, []), (28, 53, 150, 9, 38, 985, []), (31, 6, 2, 0, 0, 0, []), (32, 59, 0, 0, 0, 0, []), (33, 8, 0, 0, 0, 0, []), (34, 33, 0, 0, 0, 0, []), (35, 53, 150, 9, 38, 985, []), (38, 1, 0, 0, 0, 1, []), (39, 19, 0, 0, 0, 0, []), (40, 55, 150, 9, 38, 985, []), (43, 86, 0, 0, 0, 0, [])]
def zc_98 : List (Nat × MI) := [(0, 8, 0, 0, 0, 0, []), (1, 6, 1, 0, 0, 0, []), (2, 55, 105, 9, 31, 978, []), (5, 8, 0, 0, 0, 0, []), (6, 6, 2, 0, 0, 0, []), (7, 55, 108, 9, 32, 979, []), (10, 8, 0, 0, 0, 0, []), (11, 1, 0, 0, 0, 0, []), (12, 55, 150, 9, 38, 985, []), (15, 8, 0, 0, 0, 0, []), (16, 1, 0, 0, 0, 0, []), (17, 55, 153, 9, 42, 989, []), (20, 8, 0, 0, 0, 0, []), (21, 1, 0, 0, 0, 0, []), (22, 55, 156, 9, 45, 992, []), (25, 8, 0, 0, 0, 0, []), (26, 1, 0, 0, 0, (-1), []), (27, 55, 160, 9, 37, 984, []), (30, 8, 0, 0, 0, 0, []), (31, 8, 0, 0, 0, 0, []), (32, 72, 140, 91, 0, 1154, []), (35, 36, 61, 0, 0, 26, []), (38, 8, 0, 0, 0, 0, []), (39, 8, 0, 0, 0, 0, []), (40, 53, 118, 9, 33, 980, []), (43, 8, 0, 0, 0, 0, []), (44, 53, 125, 9, 34, 981, []), (47, 5, 163, 1193, 0, 15420, []), (50, 1, 0, 0, 0, 2, []), (51, 72, 146, 94, 0, 1170, []), (54, 36, 61, 0, 0, 7, []), (57, 1, 0, 0, 0, 1, []), (58, 50, 62, 0, 0, 4, []), (61, 1, 0, 0, 0, 0, []), (62, 55, 165, 9, 35, 982, []), (65, 8, 0, 0, 0, 0, []), (66, 53, 165, 9, 35, 982, []), (69, 37, 73, 0, 0, 4, []), (72, 86, 0, 0, 0, 0, []), (73, 8, 0, 0, 0, 0, []), (74, 8, 0, 0, 0, 0, []), (75, 53, 125, 9, 34, 981, []), (78, 55, 168, 9, 36, 983, []), (81, 1, 0, 0, 0, 1, []), (82, 13, 6, 0, 0, 0, []), (84, 7, 6, 0, 0, 0, []), (86, 36, 152, 0, 0, 66, []), (89, 8, 0, 0, 0, 0, []), (90, 72, 140, 91, 0, 1154, []), (93, 36, 152, 0, 0, 59, []), (96, 8, 0, 0, 0, 0, []), (97, 8, 0, 0, 0, 0, []), (98, 53, 118, 9, 33, 980, []), (101, 8, 0, 0, 0, 0, []), (102, 53, 125, 9, 34, 981, []), (105, 5, 171, 1194, 0, 15934, []), (108, 1, 0, 0, 0, 2, []), (109, 72, 146, 94, 0, 1170, []), (112, 36, 129, 0, 0, 17, []), (115, 8, 0, 0, 0, 0, []), (116, 8, 0, 0, 0, 0, []), (117, 53, 125, 9, 34, 981, []), (120, 55, 160, 9, 37, 984, []), (123, 1, 0, 0, 0, 0, []), (124, 13, 6, 0, 0, 0, []), (126, 50, 84, 0, 0, (-42), []), (129, 8, 0, 0, 0, 0, []), (130, 8, 0, 0, 0, 0, []), (131, 53, 118, 9, 33, 980, []), (134, 72, 111, 88, 0, 1141, []), (137, 2, 0, 0, 0, 47, []), (139, 43, 84, 0, 0, (-55), []), (142, 8, 0, 0, 0, 0, []), (143, 10, 3, 0, 0, 0, []), (144, 7, 5, 0, 0, 0, []), (146, 72, 173, 99, 0, 1195, []), (149, 50, 84, 0, 0, (-65), []), (152, 86, 0, 0, 0, 0, [])]
def zc_99 : List (Nat × MI) := [(0, 8, 0, 0, 0, 0, []), (1, 53, 118, 9, 33, 980, []), (4, 13, 4, 0, 0, 0, []), (6, 8, 0, 0, 0, 0, []), (7, 8, 0, 0, 0, 0, []), (8, 53, 118, 9, 33, 980, []), (11, 8, 0, 0, 0, 0, []), (12, 53, 125, 9, 34, 981, []), (15, 10, 1, 0, 0, 0, []), (16, 6, 3, 0, 0, 0, []), (17, 72, 146, 94, 0, 1170, []), (20, 13, 5, 0, 0, 0, []), (22, 8, 0, 0, 0, 0, []), (23, 8, 0, 0, 0, 0, []), (24, 53, 118, 9, 33, 980, []), (27, 8, 0, 0, 0, 0, []), (28, 53, 125, 9, 34, 981, []), (31, 5, 177, 1199, 0, 29401385160494127, []), (34, 2, 0, 0, 0, 7, []), (36, 72, 146, 94, 0, 1170, []), (39, 13, 6, 0, 0, 0, []), (41, 8, 0, 0, 0, 0, []), (42, 53, 105, 9, 31, 978, []), (45, 13, 7, 0, 0, 0, []), (47, 8, 0, 0, 0, 0, []), (48, 72, 140, 91, 0, 1154, []), (51, 37, 55, 0, 0, 4, []), (54, 86, 0, 0, 0, 0, []), (55, 8, 0, 0, 0, 0, []), (56, 8, 0, 0, 0, 0, []), (57, 53, 118, 9, 33, 980, []), (60, 8, 0, 0, 0, 0, []), (61, 53, 125, 9, 34, 981, []), (64, 5, 171, 1194, 0, 15934, []), (67, 1, 0, 0, 0, 2, []), (68, 72, 146, 94, 0, 1170, []), (71, 36, 81, 0, 0, 10, []), (74, 8, 0, 0, 0, 0, []), (75, 7, 7, 0, 0, 0, []), (77, 55, 105, 9, 31, 978, []), (80, 86, 0, 0, 0, 0, []), (81, 8, 0, 0, 0, 0, []), (82, 53, 118, 9, 33, 980, []), (85, 13, 8, 0, 0, 0, []), (87, 8, 0, 0, 0, 0, []), (88, 53, 125, 9, 34, 981, []), (91, 13, 9, 0, 0, 0, []), (93, 8, 0, 0, 0, 0, []), (94, 53, 150, 9, 38, 985, []), (97, 13, 10, 0, 0, 0, []), (99, 8, 0, 0, 0, 0, []), (100, 7, 8, 0, 0, 0, []), (102, 7, 9, 0, 0, 0, []), (104, 5, 179, 1200, 0, 91, []), (107, 1, 0, 0, 0, 1, []), (108, 72, 146, 94, 0, 1170, []), (111, 13, 11, 0, 0, 0, []), (113, 7, 11, 0, 0, 0, []), (115, 37, 133, 0, 0, 18, []), (118, 8, 0, 0, 0, 0, []), (119, 7, 8, 0, 0, 0, []), (121, 7, 9, 0, 0, 0, []), (123, 5, 163, 1193, 0, 15420, []), (126, 1, 0, 0, 0, 2, []), (127, 72, 146, 94, 0, 1170, []), (130, 36, 137, 0, 0, 7, []), (133, 1, 0, 0, 0, 1, []), (134, 50, 138, 0, 0, 4, []), (137, 1, 0, 0, 0, 0, []), (138, 13, 12, 0, 0, 0, []), (140, 1, 0, 0, 0, 0, []), (141, 13, 13, 0, 0, 0, []), (143, 7, 12, 0, 0, 0, []), (145, 36, 157, 0, 0, 12, []), (148, 8, 0, 0, 0, 0, []), (149, 7, 11, 0, 0, 0, []), (151, 72, 181, 100, 0, 1201, []), (154, 50, 185, 0, 0, 31, []), (157, 8, 0, 0, 0, 0, []), (158, 7, 8, 0, 0, 0, []), (160, 7, 9, 0, 0, 0, []), (162, 72, 185, 96, 0, 1206, []), (165, 36, 185, 0, 0, 20, []), (168, 1, 0, 0, 0, 1, []), (169, 13, 13, 0, 0, 0, []), (171, 8, 0, 0, 0, 0, []), (172, 7, 8, 0, 0, 0, []), (174, 8, 0, 0, 0, 0, []), (175, 7, 8, 0, 0, 0, []), (177, 7, 9, 0, 0, 0, []), (179, 72, 136, 95, 0, 1165, []), (182, 72, 189, 97, 0, 1211, []), (185, 7, 5, 0, 0, 0, []), (187, 36, 284, 0, 0, 97, []), (190, 8, 0, 0, 0, 0, []), (191, 1, 0, 0, 0, 1, []), (192, 55, 156, 9, 45, 992, []), (195, 8, 0, 0, 0, 0, []), (196, 7, 12, 0, 0, 0, []), (198, 37, 206, 0, 0, 8, []), (201, 7, 13, 0, 0, 0, []), (203, 36, 210, 0, 0, 7, []), (206, 1, 0, 0, 0, (-1), []), (207, 50, 218, 0, 0, 11, []), (210, 8, 0, 0, 0, 0, []), (211, 7, 8, 0, 0, 0, []), (213, 7, 9, 0, 0, 0, []), (215, 72, 136, 95, 0, 1165, []), (218, 55, 193, 9, 46, 993, []), (221, 8, 0, 0, 0, 0, []), (222, 7, 12, 0, 0, 0, []), (224, 37, 232, 0, 0, 8, []), (227, 7, 13, 0, 0, 0, []), (229, 36, 236, 0, 0, 7, []), (232, 1, 0, 0, 0, 0, []), (233, 50, 238, 0, 0, 5, []), (236, 7, 8, 0, 0, 0, []), (238, 55, 196, 9, 47, 994, []), (241, 8, 0, 0, 0, 0, []), (242, 7, 12, 0, 0, 0, []), (244, 37, 252, 0, 0, 8, []), (247, 7, 13, 0, 0, 0, []), (249, 36, 256, 0, 0, 7, []), (252, 1, 0, 0, 0, 0, []), (253, 50, 258, 0, 0, 5, []), (256, 7, 9, 0, 0, 0, []), (258, 55, 199, 9, 48, 995, []), (261, 8, 0, 0, 0, 0, []), (262, 7, 13, 0, 0, 0, []), (264, 55, 202, 9, 49, 996, []), (267, 8, 0, 0, 0, 0, []), (268, 7, 10, 0, 0, 0, []), (270, 55, 205, 9, 50, 997, []), (273, 8, 0, 0, 0, 0, []), (274, 8, 0, 0, 0, 0, []), (275, 53, 150, 9, 38, 985, []), (278, 7, 10, 0, 0, 0, []), (280, 20, 0, 0, 0, 0, []), (281, 55, 208, 9, 51, 998, []), (284, 7, 6, 0, 0, 0, []), (286, 36, 323, 0, 0, 37, []), (289, 8, 0, 0, 0, 0, []), (290, 53, 80, 9, 43, 990, []), (293, 8, 0, 0, 0, 0, []), (294, 53, 153, 9, 42, 989, []), (297, 7, 4, 0, 0, 0, []), (299, 59, 0, 0, 0, 0, []), (300, 8, 0, 0, 0, 0, []), (301, 53, 83, 9, 44, 991, []), (304, 8, 0, 0, 0, 0, []), (305, 53, 153, 9, 42, 989, []), (308, 8, 0, 0, 0, 0, []), (309, 53, 105, 9, 31, 978, []), (312, 59, 0, 0, 0, 0, []), (313, 8, 0, 0, 0, 0, []), (314, 33, 0, 0, 0, 0, []), (315, 53, 153, 9, 42, 989, []), (318, 1, 0, 0, 0, 1, []), (319, 19, 0, 0, 0, 0, []), (320, 55, 153, 9, 42, 989, []), (323, 86, 0, 0, 0, 0, [])]
def zc_100 : List (Nat × MI) := [(0, 1, 0, 0, 0, 1, []), (1, 12, 2, 0, 0, 0, []), (2, 6, 2, 0, 0, 0, []), (3, 41, 151, 0, 0, 148, []), (6, 8, 0, 0, 0, 0, []), (7, 72, 140, 91, 0, 1154, []), (10, 36, 151, 0, 0, 141, []), (13, 6, 1, 0, 0, 0, []), (14, 36, 39, 0, 0, 25, []), (17, 8, 0, 0, 0, 0, []), (18, 8, 0, 0, 0, 0, []), (19, 53, 118, 9, 33, 980, []), (22, 8, 0, 0, 0, 0, []), (23, 53, 125, 9, 34, 981, []), (26, 5, 179, 1200, 0, 91, []), (29, 1, 0, 0, 0, 1, []), (30, 72, 146, 94, 0, 1170, []), (33, 36, 64, 0, 0, 31, []), (36, 50, 58, 0, 0, 22, []), (39, 8, 0, 0, 0, 0, []), (40, 8, 0, 0, 0, 0, []), (41, 53, 118, 9, 33, 980, []), (44, 8, 0, 0, 0, 0, []), (45, 53, 125, 9, 34, 981, []), (48, 5, 163, 1193, 0, 15420, []), (51, 1, 0, 0, 0, 2, []), (52, 72, 146, 94, 0, 1170, []), (55, 36, 64, 0, 0, 9, []), (58, 18, 2, 0, 0, 1, []), (61, 50, 2, 0, 0, (-59), []), (64, 6, 1, 0, 0, 0, []), (65, 36, 90, 0, 0, 25, []), (68, 8, 0, 0, 0, 0, []), (69, 8, 0, 0, 0, 0, []), (70, 53, 118, 9, 33, 980, []), (73, 8, 0, 0, 0, 0, []), (74, 53, 125, 9, 34, 981, []), (77, 5, 211, 1205, 0, 93, []), (80, 1, 0, 0, 0, 1, []), (81, 72, 146, 94, 0, 1170, []), (84, 36, 115, 0, 0, 31, []), (87, 50, 109, 0, 0, 22, []), (90, 8, 0, 0, 0, 0, []), (91, 8, 0, 0, 0, 0, []), (92, 53, 118, 9, 33, 980, []), (95, 8, 0, 0, 0, 0, []), (96, 53, 125, 9, 34, 981, []), (99, 5, 171, 1194, 0, 15934, []), (102, 1, 0, 0, 0, 2, []), (103, 72, 146, 94, 0, 1170, []), (106, 36, 115, 0, 0, 9, []), (109, 18, 2, 0, 0, (-1), []), (112, 50, 2, 0, 0, (-110), []), (115, 8, 0, 0, 0, 0, []), (116, 53, 118, 9, 33, 980, []), (119, 12, 3, 0, 0, 0, []), (120, 8, 0, 0, 0, 0, []), (121, 53, 125, 9, 34, 981, []), (124, 13, 4, 0, 0, 0, []), (126, 8, 0, 0, 0, 0, []), (127, 6, 3, 0, 0, 0, []), (128, 7, 4, 0, 0, 0, []), (130, 72, 185, 96, 0, 1206, []), (133, 36, 148, 0, 0, 15, []), (136, 8, 0, 0, 0, 0, []), (137, 6, 3, 0, 0, 0, []), (138, 8, 0, 0, 0, 0, []), (139, 6, 3, 0, 0, 0, []), (140, 7, 4, 0, 0, 0, []), (142, 72, 136, 95, 0, 1165, []), (145, 72, 189, 97, 0, 1211, []), (148, 50, 2, 0, 0, (-146), []), (151, 86, 0, 0, 0, 0, [])]
def zc_101 : List (Nat × MI) := [(0, 8, 0, 0, 0, 0, []), (1, 53, 156, 9, 45, 992, []), (4, 36, 26, 0, 0, 22, []), (7, 8, 0, 0, 0, 0, []), (8, 53, 202, 9, 49, 996, []), (11, 36, 26, 0, 0, 15, []), (14, 8, 0, 0, 0, 0, []), (15, 53, 77, 9, 41, 988, []), (18, 8, 0, 0, 0, 0, []), (19, 53, 205, 9, 50, 997, []), (22, 58, 0, 0, 0, 0, []), (23, 50, 27, 0, 0, 4, []), (26, 1, 0, 0, 0, 0, []), (27, 83, 0, 0, 0, 0, [])]
def zc_102 : List (Nat × MI) := [(0, 2, 0, 0, 0, 61, []), (2, 8, 0, 0, 0, 0, []), (3, 53, 102, 9, 4, 951, []), (6, 21, 0, 0, 0, 0, []), (7, 6, 1, 0, 0, 0, []), (8, 19, 0, 0, 0, 0, []), (9, 83, 0, 0, 0, 0, [])]
def zc_103 : List (Nat × MI) := [(0, 6, 1, 0, 0, 0, []), (1, 41, 27, 0, 0, 26, []), (4, 6, 1, 0, 0, 0, []), (5, 2, 0, 0, 0, 60, []), (7, 46, 27, 0, 0, 20, []), (10, 8, 0, 0, 0, 0, []), (11, 53, 19, 9, 7, 954, []), (14, 8, 0, 0, 0, 0, []), (15, 6, 1, 0, 0, 0, []), (16, 72, 213, 102, 0, 1132, []), (19, 60, 0, 0, 0, 0, []), (20, 36, 27, 0, 0, 7, []), (23, 1, 0, 0, 0, 1, []), (24, 50, 28, 0, 0, 4, []), (27, 1, 0, 0, 0, 0, []), (28, 83, 0, 0, 0, 0, [])]
def zc_104 : List (Nat × MI) := [(0, 8, 0, 0, 0, 0, []), (1, 6, 1, 0, 0, 0, []), (2, 72, 213, 102, 0, 1132, []), (5, 13, 5, 0, 0, 0, []), (7, 8, 0, 0, 0, 0, []), (8, 8, 0, 0, 0, 0, []), (9, 53, 26, 9, 9, 956, []), (12, 7, 5, 0, 0, 0, []), (14, 58, 0, 0, 0, 0, []), (15, 8, 0, 0, 0, 0, []), (16, 53, 35, 9, 12, 959, []), (19, 7, 5, 0, 0, 0, []), (21, 58, 0, 0, 0, 0, []), (22, 39, 35, 0, 0, 13, []), (25, 8, 0, 0, 0, 0, []), (26, 53, 29, 9, 10, 957, []), (29, 7, 5, 0, 0, 0, []), (31, 58, 0, 0, 0, 0, []), (32, 50, 42, 0, 0, 10, []), (35, 8, 0, 0, 0, 0, []), (36, 53, 35, 9, 12, 959, []), (39, 7, 5, 0, 0, 0, []), (41, 58, 0, 0, 0, 0, []), (42, 10, 2, 0, 0, 0, []), (43, 7, 4, 0, 0, 0, []), (45, 72, 216, 98, 0, 1189, []), (48, 86, 0, 0, 0, 0, [])]
def zc_105 : List (Nat × MI) := [(0, 8, 0, 0, 0, 0, []), (1, 6, 1, 0, 0, 0, []), (2, 72, 220, 103, 0, 1234, []), (5, 37, 10, 0, 0, 5, []), (8, 1, 0, 0, 0, 0, []), (9, 83, 0, 0, 0, 0, []), (10, 8, 0, 0, 0, 0, []), (11, 6, 1, 0, 0, 0, []), (12, 5, 223, 1246, 0, 435678696495, []), (15, 1, 0, 0, 0, 5, []), (16, 72, 225, 104, 0, 1238, []), (19, 8, 0, 0, 0, 0, []), (20, 53, 156, 9, 45, 992, []), (23, 37, 28, 0, 0, 5, []), (26, 1, 0, 0, 0, 0, []), (27, 83, 0, 0, 0, 0, []), (28, 8, 0, 0, 0, 0, []), (29, 8, 0, 0, 0, 0, []), (30, 53, 196, 9, 47, 994, []), (33, 8, 0, 0, 0, 0, []), (34, 53, 199, 9, 48, 995, []), (37, 5, 229, 1247, 0, 7453295074141618991, []), (40, 2, 0, 0, 0, 8, []), (42, 72, 146, 94, 0, 1170, []), (45, 36, 50, 0, 0, 5, []), (48, 1, 0, 0, 0, 1, []), (49, 83, 0, 0, 0, 0, []), (50, 8, 0, 0, 0, 0, []), (51, 8, 0, 0, 0, 0, []), (52, 53, 196, 9, 47, 994, []), (55, 8, 0, 0, 0, 0, []), (56, 53, 199, 9, 48, 995, []), (59, 5, 231, 1248, 0, 126879363321903, []), (62, 2, 0, 0, 0, 6, []), (64, 72, 146, 94, 0, 1170, []), (67, 36, 72, 0, 0, 5, []), (70, 1, 0, 0, 0, 2, []), (71, 83, 0, 0, 0, 0, []), (72, 8, 0, 0, 0, 0, []), (73, 8, 0, 0, 0, 0, []), (74, 53, 196, 9, 47, 994, []), (77, 8, 0, 0, 0, 0, []), (78, 53, 199, 9, 48, 995, []), (81, 5, 233, 1249, 0, 435526127663, []), (84, 1, 0, 0, 0, 5, []), (85, 72, 146, 94, 0, 1170, []), (88, 36, 95, 0, 0, 7, []), (91, 1, 0, 0, 0, 3, []), (92, 50, 96, 0, 0, 4, []), (95, 1, 0, 0, 0, 0, []), (96, 83, 0, 0, 0, 0, [])]
def zc_106 : List (Nat × MI) := [(0, 8, 0, 0, 0, 0, []), (1, 53, 44, 9, 15, 962, []), (4, 3, 0, 0, 0, 2000, []), (7, 8, 0, 0, 0, 0, []), (8, 53, 102, 9, 4, 951, []), (11, 21, 0, 0, 0, 0, []), (12, 8, 0, 0, 0, 0, []), (13, 53, 41, 9, 14, 961, []), (16, 8, 0, 0, 0, 0, []), (17, 53, 102, 9, 4, 951, []), (20, 58, 0, 0, 0, 0, []), (21, 19, 0, 0, 0, 0, []), (22, 6, 1, 0, 0, 0, []), (23, 59, 0, 0, 0, 0, []), (24, 8, 0, 0, 0, 0, []), (25, 53, 47, 9, 16, 963, []), (28, 3, 0, 0, 0, 2000, []), (31, 8, 0, 0, 0, 0, []), (32, 53, 102, 9, 4, 951, []), (35, 21, 0, 0, 0, 0, []), (36, 8, 0, 0, 0, 0, []), (37, 53, 41, 9, 14, 961, []), (40, 8, 0, 0, 0, 0, []), (41, 53, 102, 9, 4, 951, []), (44, 58, 0, 0, 0, 0, []), (45, 19, 0, 0, 0, 0, []), (46, 6, 2, 0, 0, 0, []), (47, 59, 0, 0, 0, 0, []), (48, 8, 0, 0, 0, 0, []), (49, 53, 41, 9, 14, 961, []), (52, 8, 0, 0, 0, 0, []), (53, 53, 102, 9, 4, 951, []), (56, 34, 0, 0, 0, 0, []), (57, 58, 0, 0, 0, 0, []), (58, 1, 0, 0, 0, 1, []), (59, 19, 0, 0, 0, 0, []), (60, 59, 0, 0, 0, 0, []), (61, 86, 0, 0, 0, 0, [])]
def zc_107 : List (Nat × MI) := [(0, 8, 0, 0, 0, 0, []), (1, 8, 0, 0, 0, 0, []), (2, 53, 235, 9, 25, 972, []), (5, 72, 213, 102, 0, 1132, []), (8, 12, 3, 0, 0, 0, []), (9, 8, 0, 0, 0, 0, []), (10, 53, 19, 9, 7, 954, []), (13, 6, 3, 0, 0, 0, []), (14, 60, 0, 0, 0, 0, []), (15, 36, 59, 0, 0, 44, []), (18, 8, 0, 0, 0, 0, []), (19, 1, 0, 0, 0, 4, []), (20, 8, 0, 0, 0, 0, []), (21, 53, 23, 9, 8, 955, []), (24, 6, 3, 0, 0, 0, []), (25, 58, 0, 0, 0, 0, []), (26, 72, 238, 106, 0, 1146, []), (29, 8, 0, 0, 0, 0, []), (30, 53, 102, 9, 4, 951, []), (33, 37, 59, 0, 0, 26, []), (36, 8, 0, 0, 0, 0, []), (37, 53, 50, 9, 18, 965, []), (40, 8, 0, 0, 0, 0, []), (41, 53, 241, 9, 17, 964, []), (44, 8, 0, 0, 0, 0, []), (45, 53, 235, 9, 25, 972, []), (48, 59, 0, 0, 0, 0, []), (49, 8, 0, 0, 0, 0, []), (50, 33, 0, 0, 0, 0, []), (51, 53, 241, 9, 17, 964, []), (54, 1, 0, 0, 0, 1, []), (55, 19, 0, 0, 0, 0, []), (56, 55, 241, 9, 17, 964, []), (59, 8, 0, 0, 0, 0, []), (60, 53, 19, 9, 7, 954, []), (63, 6, 3, 0, 0, 0, []), (64, 1, 0, 0, 0, 1, []), (65, 61, 0, 0, 0, 0, []), (66, 8, 0, 0, 0, 0, []), (67, 53, 23, 9, 8, 955, []), (70, 6, 3, 0, 0, 0, []), (71, 8, 0, 0, 0, 0, []), (72, 53, 244, 9, 26, 973, []), (75, 59, 0, 0, 0, 0, []), (76, 8, 0, 0, 0, 0, []), (77, 53, 26, 9, 9, 956, []), (80, 6, 3, 0, 0, 0, []), (81, 8, 0, 0, 0, 0, []), (82, 53, 247, 9, 27, 974, []), (85, 59, 0, 0, 0, 0, []), (86, 8, 0, 0, 0, 0, []), (87, 53, 29, 9, 10, 957, []), (90, 6, 3, 0, 0, 0, []), (91, 6, 1, 0, 0, 0, []), (92, 59, 0, 0, 0, 0, []), (93, 8, 0, 0, 0, 0, []), (94, 53, 32, 9, 11, 958, []), (97, 6, 3, 0, 0, 0, []), (98, 8, 0, 0, 0, 0, []), (99, 53, 250, 9, 30, 977, []), (102, 36, 113, 0, 0, 11, []), (105, 6, 2, 0, 0, 0, []), (106, 36, 113, 0, 0, 7, []), (109, 1, 0, 0, 0, 1, []), (110, 50, 114, 0, 0, 4, []), (113, 1, 0, 0, 0, 0, []), (114, 61, 0, 0, 0, 0, []), (115, 8, 0, 0, 0, 0, []), (116, 53, 35, 9, 12, 959, []), (119, 6, 3, 0, 0, 0, []), (120, 8, 0, 0, 0, 0, []), (121, 53, 253, 9, 28, 975, []), (124, 59, 0, 0, 0, 0, []), (125, 8, 0, 0, 0, 0, []), (126, 53, 38, 9, 13, 960, []), (129, 6, 3, 0, 0, 0, []), (130, 8, 0, 0, 0, 0, []), (131, 53, 256, 9, 29, 976, []), (134, 59, 0, 0, 0, 0, []), (135, 8, 0, 0, 0, 0, []), (136, 1, 0, 0, 0, 0, []), (137, 55, 235, 9, 25, 972, []), (140, 86, 0, 0, 0, 0, [])]
def zc_108 : List (Nat × MI) := [(0, 8, 0, 0, 0, 0, []), (1, 53, 235, 9, 25, 972, []), (4, 41, 19, 0, 0, 15, []), (7, 8, 0, 0, 0, 0, []), (8, 1, 0, 0, 0, 1, []), (9, 6, 1, 0, 0, 0, []), (10, 72, 238, 106, 0, 1146, []), (13, 8, 0, 0, 0, 0, []), (14, 6, 1, 0, 0, 0, []), (15, 1, 0, 0, 0, 0, []), (16, 72, 259, 107, 0, 1178, []), (19, 86, 0, 0, 0, 0, [])]
def zc_109 : List (Nat × MI) := [(0, 8, 0, 0, 0, 0, []), (1, 8, 0, 0, 0, 0, []), (2, 53, 118, 9, 33, 980, []), (5, 72, 263, 108, 0, 1174, []), (8, 8, 0, 0, 0, 0, []), (9, 53, 105, 9, 31, 978, []), (12, 12, 1, 0, 0, 0, []), (13, 8, 0, 0, 0, 0, []), (14, 53, 108, 9, 32, 979, []), (17, 12, 2, 0, 0, 0, []), (18, 8, 0, 0, 0, 0, []), (19, 6, 1, 0, 0, 0, []), (20, 6, 2, 0, 0, 0, []), (21, 5, 267, 1188, 0, 500085772847, []), (24, 1, 0, 0, 0, 5, []), (25, 72, 216, 98, 0, 1189, []), (28, 8, 0, 0, 0, 0, []), (29, 72, 269, 101, 0, 1215, []), (32, 12, 3, 0, 0, 0, []), (33, 8, 0, 0, 0, 0, []), (34, 53, 53, 9, 19, 966, []), (37, 8, 0, 0, 0, 0, []), (38, 53, 102, 9, 4, 951, []), (41, 6, 3, 0, 0, 0, []), (42, 41, 49, 0, 0, 7, []), (45, 6, 3, 0, 0, 0, []), (46, 50, 58, 0, 0, 12, []), (49, 8, 0, 0, 0, 0, []), (50, 53, 53, 9, 19, 966, []), (53, 8, 0, 0, 0, 0, []), (54, 53, 102, 9, 4, 951, []), (57, 58, 0, 0, 0, 0, []), (58, 59, 0, 0, 0, 0, []), (59, 8, 0, 0, 0, 0, []), (60, 6, 1, 0, 0, 0, []), (61, 6, 2, 0, 0, 0, []), (62, 5, 273, 1219, 0, 435845419823, []), (65, 1, 0, 0, 0, 5, []), (66, 72, 216, 98, 0, 1189, []), (69, 8, 0, 0, 0, 0, []), (70, 53, 56, 9, 20, 967, []), (73, 8, 0, 0, 0, 0, []), (74, 53, 102, 9, 4, 951, []), (77, 8, 0, 0, 0, 0, []), (78, 53, 156, 9, 45, 992, []), (81, 36, 98, 0, 0, 17, []), (84, 8, 0, 0, 0, 0, []), (85, 53, 193, 9, 46, 993, []), (88, 38, 98, 0, 0, 10, []), (91, 8, 0, 0, 0, 0, []), (92, 53, 193, 9, 46, 993, []), (95, 50, 107, 0, 0, 12, []), (98, 8, 0, 0, 0, 0, []), (99, 53, 56, 9, 20, 967, []), (102, 8, 0, 0, 0, 0, []), (103, 53, 102, 9, 4, 951, []), (106, 58, 0, 0, 0, 0, []), (107, 59, 0, 0, 0, 0, []), (108, 8, 0, 0, 0, 0, []), (109, 6, 1, 0, 0, 0, []), (110, 55, 105, 9, 31, 978, []), (113, 8, 0, 0, 0, 0, []), (114, 6, 2, 0, 0, 0, []), (115, 55, 108, 9, 32, 979, []), (118, 86, 0, 0, 0, 0, [])]
def zc_110 : List (Nat × MI) := [(0, 8, 0, 0, 0, 0, []), (1, 53, 108, 9, 32, 979, []), (4, 13, 4, 0, 0, 0, []), (6, 8, 0, 0, 0, 0, []), (7, 53, 253, 9, 28, 975, []), (10, 39, 36, 0, 0, 26, []), (13, 6, 2, 0, 0, 0, []), (14, 8, 0, 0, 0, 0, []), (15, 53, 13, 9, 5, 952, []), (18, 8, 0, 0, 0, 0, []), (19, 53, 102, 9, 4, 951, []), (22, 58, 0, 0, 0, 0, []), (23, 45, 36, 0, 0, 13, []), (26, 8, 0, 0, 0, 0, []), (27, 6, 2, 0, 0, 0, []), (28, 72, 111, 88, 0, 1141, []), (31, 2, 0, 0, 0, 10, []), (33, 42, 37, 0, 0, 4, []), (36, 86, 0, 0, 0, 0, []), (37, 8, 0, 0, 0, 0, []), (38, 8, 0, 0, 0, 0, []), (39, 53, 247, 9, 27, 974, []), (42, 6, 1, 0, 0, 0, []), (43, 5, 177, 1199, 0, 29401385160494127, []), (46, 2, 0, 0, 0, 7, []), (48, 72, 216, 98, 0, 1189, []), (51, 8, 0, 0, 0, 0, []), (52, 53, 156, 9, 45, 992, []), (55, 36, 65, 0, 0, 10, []), (58, 8, 0, 0, 0, 0, []), (59, 53, 193, 9, 46, 993, []), (62, 50, 66, 0, 0, 4, []), (65, 1, 0, 0, 0, (-1), []), (66, 13, 5, 0, 0, 0, []), (68, 8, 0, 0, 0, 0, []), (69, 53, 160, 9, 37, 984, []), (72, 38, 87, 0, 0, 15, []), (75, 8, 0, 0, 0, 0, []), (76, 53, 160, 9, 37, 984, []), (79, 6, 3, 0, 0, 0, []), (80, 43, 87, 0, 0, 7, []), (83, 1, 0, 0, 0, 1, []), (84, 50, 88, 0, 0, 4, []), (87, 1, 0, 0, 0, 0, []), (88, 13, 6, 0, 0, 0, []), (90, 8, 0, 0, 0, 0, []), (91, 6, 2, 0, 0, 0, []), (92, 55, 105, 9, 31, 978, []), (95, 8, 0, 0, 0, 0, []), (96, 7, 4, 0, 0, 0, []), (98, 55, 108, 9, 32, 979, []), (101, 7, 6, 0, 0, 0, []), (103, 37, 107, 0, 0, 4, []), (106, 86, 0, 0, 0, 0, []), (107, 8, 0, 0, 0, 0, []), (108, 6, 2, 0, 0, 0, []), (109, 1, 0, 0, 0, 1, []), (110, 19, 0, 0, 0, 0, []), (111, 55, 253, 9, 28, 975, []), (114, 8, 0, 0, 0, 0, []), (115, 53, 253, 9, 28, 975, []), (118, 7, 5, 0, 0, 0, []), (120, 19, 0, 0, 0, 0, []), (121, 13, 7, 0, 0, 0, []), (123, 7, 5, 0, 0, 0, []), (125, 38, 155, 0, 0, 30, []), (128, 7, 7, 0, 0, 0, []), (130, 8, 0, 0, 0, 0, []), (131, 53, 13, 9, 5, 952, []), (134, 8, 0, 0, 0, 0, []), (135, 53, 102, 9, 4, 951, []), (138, 58, 0, 0, 0, 0, []), (139, 46, 155, 0, 0, 16, []), (142, 8, 0, 0, 0, 0, []), (143, 7, 7, 0, 0, 0, []), (145, 72, 275, 93, 0, 1225, []), (148, 36, 155, 0, 0, 7, []), (151, 1, 0, 0, 0, 1, []), (152, 50, 156, 0, 0, 4, []), (155, 1, 0, 0, 0, 0, []), (156, 13, 8, 0, 0, 0, []), (158, 7, 5, 0, 0, 0, []), (160, 38, 203, 0, 0, 43, []), (163, 7, 7, 0, 0, 0, []), (165, 8, 0, 0, 0, 0, []), (166, 53, 13, 9, 5, 952, []), (169, 8, 0, 0, 0, 0, []), (170, 53, 102, 9, 4, 951, []), (173, 58, 0, 0, 0, 0, []), (174, 45, 203, 0, 0, 29, []), (177, 8, 0, 0, 0, 0, []), (178, 7, 7, 0, 0, 0, []), (180, 72, 111, 88, 0, 1141, []), (183, 2, 0, 0, 0, 10, []), (185, 43, 203, 0, 0, 18, []), (188, 8, 0, 0, 0, 0, []), (189, 7, 7, 0, 0, 0, []), (191, 1, 0, 0, 0, 1, []), (192, 19, 0, 0, 0, 0, []), (193, 72, 275, 93, 0, 1225, []), (196, 36, 203, 0, 0, 7, []), (199, 1, 0, 0, 0, 1, []), (200, 50, 204, 0, 0, 4, []), (203, 1, 0, 0, 0, 0, []), (204, 13, 9, 0, 0, 0, []), (206, 7, 8, 0, 0, 0, []), (208, 37, 216, 0, 0, 8, []), (211, 7, 9, 0, 0, 0, []), (213, 36, 245, 0, 0, 32, []), (216, 8, 0, 0, 0, 0, []), (217, 7, 7, 0, 0, 0, []), (219, 55, 256, 9, 29, 976, []), (222, 8, 0, 0, 0, 0, []), (223, 7, 8, 0, 0, 0, []), (225, 36, 236, 0, 0, 11, []), (228, 7, 7, 0, 0, 0, []), (230, 2, 0, 0, 0, 9, []), (232, 19, 0, 0, 0, 0, []), (233, 50, 241, 0, 0, 8, []), (236, 7, 7, 0, 0, 0, []), (238, 2, 0, 0, 0, 10, []), (240, 19, 0, 0, 0, 0, []), (241, 55, 105, 9, 31, 978, []), (244, 86, 0, 0, 0, 0, []), (245, 8, 0, 0, 0, 0, []), (246, 1, 0, 0, 0, 3, []), (247, 8, 0, 0, 0, 0, []), (248, 53, 253, 9, 28, 975, []), (251, 72, 238, 106, 0, 1146, []), (254, 8, 0, 0, 0, 0, []), (255, 1, 0, 0, 0, 0, []), (256, 55, 250, 9, 30, 977, []), (259, 8, 0, 0, 0, 0, []), (260, 53, 253, 9, 28, 975, []), (263, 13, 10, 0, 0, 0, []), (265, 7, 10, 0, 0, 0, []), (267, 8, 0, 0, 0, 0, []), (268, 53, 13, 9, 5, 952, []), (271, 8, 0, 0, 0, 0, []), (272, 53, 102, 9, 4, 951, []), (275, 58, 0, 0, 0, 0, []), (276, 45, 294, 0, 0, 18, []), (279, 8, 0, 0, 0, 0, []), (280, 7, 10, 0, 0, 0, []), (282, 72, 275, 93, 0, 1225, []), (285, 37, 294, 0, 0, 9, []), (288, 18, 10, 0, 0, 1, []), (291, 50, 265, 0, 0, (-26), []), (294, 7, 10, 0, 0, 0, []), (296, 8, 0, 0, 0, 0, []), (297, 53, 13, 9, 5, 952, []), (300, 8, 0, 0, 0, 0, []), (301, 53, 102, 9, 4, 951, []), (304, 58, 0, 0, 0, 0, []), (305, 45, 353, 0, 0, 48, []), (308, 8, 0, 0, 0, 0, []), (309, 7, 10, 0, 0, 0, []), (311, 8, 0, 0, 0, 0, []), (312, 53, 253, 9, 28, 975, []), (315, 47, 338, 0, 0, 23, []), (318, 8, 0, 0, 0, 0, []), (319, 7, 10, 0, 0, 0, []), (321, 1, 0, 0, 0, 1, []), (322, 20, 0, 0, 0, 0, []), (323, 72, 111, 88, 0, 1141, []), (326, 2, 0, 0, 0, 10, []), (328, 43, 338, 0, 0, 10, []), (331, 7, 10, 0, 0, 0, []), (333, 1, 0, 0, 0, 1, []), (334, 20, 0, 0, 0, 0, []), (335, 50, 340, 0, 0, 5, []), (338, 7, 10, 0, 0, 0, []), (340, 55, 256, 9, 29, 976, []), (343, 8, 0, 0, 0, 0, []), (344, 7, 10, 0, 0, 0, []), (346, 2, 0, 0, 0, 9, []), (348, 19, 0, 0, 0, 0, []), (349, 55, 105, 9, 31, 978, []), (352, 86, 0, 0, 0, 0, []), (353, 8, 0, 0, 0, 0, []), (354, 8, 0, 0, 0, 0, []), (355, 53, 13, 9, 5, 952, []), (358, 8, 0, 0, 0, 0, []), (359, 53, 102, 9, 4, 951, []), (362, 58, 0, 0, 0, 0, []), (363, 55, 256, 9, 29, 976, []), (366, 8, 0, 0, 0, 0, []), (367, 1, 0, 0, 0, 2, []), (368, 8, 0, 0, 0, 0, []), (369, 53, 253, 9, 28, 975, []), (372, 72, 238, 106, 0, 1146, []), (375, 8, 0, 0, 0, 0, []), (376, 8, 0, 0, 0, 0, []), (377, 53, 13, 9, 5, 952, []), (380, 8, 0, 0, 0, 0, []), (381, 53, 102, 9, 4, 951, []), (384, 58, 0, 0, 0, 0, []), (385, 55, 105, 9, 31, 978, []), (388, 8, 0, 0, 0, 0, []), (389, 8, 0, 0, 0, 0, []), (390, 53, 13, 9, 5, 952, []), (393, 8, 0, 0, 0, 0, []), (394, 53, 102, 9, 4, 951, []), (397, 58, 0, 0, 0, 0, []), (398, 1, 0, 0, 0, 0, []), (399, 72, 259, 107, 0, 1178, []), (402, 86, 0, 0, 0, 0, [])]
def zc_111 : List (Nat × MI) := [(0, 8, 0, 0, 0, 0, []), (1, 1, 0, 0, 0, 0, []), (2, 55, 105, 9, 31, 978, []), (5, 8, 0, 0, 0, 0, []), (6, 8, 0, 0, 0, 0, []), (7, 53, 13, 9, 5, 952, []), (10, 8, 0, 0, 0, 0, []), (11, 53, 102, 9, 4, 951, []), (14, 58, 0, 0, 0, 0, []), (15, 55, 108, 9, 32, 979, []), (18, 1, 0, 0, 0, (-1), []), (19, 12, 1, 0, 0, 0, []), (20, 1, 0, 0, 0, (-1), []), (21, 12, 2, 0, 0, 0, []), (22, 1, 0, 0, 0, (-1), []), (23, 12, 3, 0, 0, 0, []), (24, 1, 0, 0, 0, (-1), []), (25, 13, 4, 0, 0, 0, []), (27, 8, 0, 0, 0, 0, []), (28, 72, 140, 91, 0, 1154, []), (31, 36, 244, 0, 0, 213, []), (34, 8, 0, 0, 0, 0, []), (35, 53, 118, 9, 33, 980, []), (38, 13, 5, 0, 0, 0, []), (40, 8, 0, 0, 0, 0, []), (41, 53, 125, 9, 34, 981, []), (44, 13, 6, 0, 0, 0, []), (46, 6, 1, 0, 0, 0, []), (47, 39, 54, 0, 0, 7, []), (50, 1, 0, 0, 0, (-1), []), (51, 50, 60, 0, 0, 9, []), (54, 8, 0, 0, 0, 0, []), (55, 6, 1, 0, 0, 0, []), (56, 6, 2, 0, 0, 0, []), (57, 72, 136, 95, 0, 1165, []), (60, 13, 7, 0, 0, 0, []), (62, 8, 0, 0, 0, 0, []), (63, 7, 5, 0, 0, 0, []), (65, 7, 6, 0, 0, 0, []), (67, 5, 278, 1169, 0, 6972015, []), (70, 1, 0, 0, 0, 3, []), (71, 72, 146, 94, 0, 1170, []), (74, 36, 140, 0, 0, 66, []), (77, 7, 7, 0, 0, 0, []), (79, 1, 0, 0, 0, 1, []), (80, 44, 140, 0, 0, 60, []), (83, 7, 7, 0, 0, 0, []), (85, 2, 0, 0, 0, 60, []), (87, 46, 140, 0, 0, 53, []), (90, 8, 0, 0, 0, 0, []), (91, 6, 3, 0, 0, 0, []), (92, 7, 4, 0, 0, 0, []), (94, 72, 136, 95, 0, 1165, []), (97, 38, 140, 0, 0, 43, []), (100, 8, 0, 0, 0, 0, []), (101, 6, 1, 0, 0, 0, []), (102, 72, 263, 108, 0, 1174, []), (105, 8, 0, 0, 0, 0, []), (106, 7, 7, 0, 0, 0, []), (108, 55, 235, 9, 25, 972, []), (111, 8, 0, 0, 0, 0, []), (112, 6, 1, 0, 0, 0, []), (113, 55, 244, 9, 26, 973, []), (116, 8, 0, 0, 0, 0, []), (117, 7, 6, 0, 0, 0, []), (119, 55, 247, 9, 27, 974, []), (122, 8, 0, 0, 0, 0, []), (123, 1, 0, 0, 0, (-1), []), (124, 55, 253, 9, 28, 975, []), (127, 8, 0, 0, 0, 0, []), (128, 1, 0, 0, 0, 0, []), (129, 55, 256, 9, 29, 976, []), (132, 8, 0, 0, 0, 0, []), (133, 1, 0, 0, 0, 1, []), (134, 55, 250, 9, 30, 977, []), (137, 50, 229, 0, 0, 92, []), (140, 8, 0, 0, 0, 0, []), (141, 7, 5, 0, 0, 0, []), (143, 7, 6, 0, 0, 0, []), (145, 5, 280, 1182, 0, 116971008192101, []), (148, 2, 0, 0, 0, 6, []), (150, 72, 146, 94, 0, 1170, []), (153, 36, 173, 0, 0, 20, []), (156, 8, 0, 0, 0, 0, []), (157, 53, 235, 9, 25, 972, []), (160, 41, 173, 0, 0, 13, []), (163, 8, 0, 0, 0, 0, []), (164, 7, 5, 0, 0, 0, []), (166, 1, 0, 0, 0, 1, []), (167, 72, 259, 107, 0, 1178, []), (170, 50, 229, 0, 0, 59, []), (173, 8, 0, 0, 0, 0, []), (174, 7, 5, 0, 0, 0, []), (176, 7, 6, 0, 0, 0, []), (178, 5, 282, 1183, 0, 32199663643882100, []), (181, 2, 0, 0, 0, 7, []), (183, 72, 146, 94, 0, 1170, []), (186, 36, 196, 0, 0, 10, []), (189, 8, 0, 0, 0, 0, []), (190, 72, 284, 109, 0, 1184, []), (193, 50, 229, 0, 0, 36, []), (196, 8, 0, 0, 0, 0, []), (197, 7, 5, 0, 0, 0, []), (199, 7, 6, 0, 0, 0, []), (201, 5, 287, 1220, 0, 120265081255027, []), (204, 2, 0, 0, 0, 6, []), (206, 72, 146, 94, 0, 1170, []), (209, 36, 229, 0, 0, 20, []), (212, 8, 0, 0, 0, 0, []), (213, 53, 235, 9, 25, 972, []), (216, 41, 229, 0, 0, 13, []), (219, 8, 0, 0, 0, 0, []), (220, 7, 5, 0, 0, 0, []), (222, 7, 6, 0, 0, 0, []), (224, 7, 4, 0, 0, 0, []), (226, 72, 289, 110, 0, 1221, []), (229, 6, 3, 0, 0, 0, []), (230, 12, 1, 0, 0, 0, []), (231, 7, 4, 0, 0, 0, []), (233, 12, 2, 0, 0, 0, []), (234, 7, 5, 0, 0, 0, []), (236, 12, 3, 0, 0, 0, []), (237, 7, 6, 0, 0, 0, []), (239, 13, 4, 0, 0, 0, []), (241, 50, 27, 0, 0, (-214), []), (244, 86, 0, 0, 0, 0, [])]
def zc_112 : List (Nat × MI) := [(0, 1, 0, 0, 0, 1, []), (1, 12, 1, 0, 0, 0, []), (2, 6, 1, 0, 0, 0, []), (3, 2, 0, 0, 0, 61, []), (5, 45, 73, 0, 0, 68, []), (8, 8, 0, 0, 0, 0, []), (9, 6, 1, 0, 0, 0, []), (10, 72, 220, 103, 0, 1234, []), (13, 36, 67, 0, 0, 54, []), (16, 8, 0, 0, 0, 0, []), (17, 6, 1, 0, 0, 0, []), (18, 4, 0, 0, 0, 0, []), (19, 1, 0, 0, 0, 0, []), (20, 72, 225, 104, 0, 1238, []), (23, 1, 0, 0, 0, 0, []), (24, 12, 2, 0, 0, 0, []), (25, 6, 2, 0, 0, 0, []), (26, 8, 0, 0, 0, 0, []), (27, 53, 150, 9, 38, 985, []), (30, 45, 67, 0, 0, 37, []), (33, 8, 0, 0, 0, 0, []), (34, 8, 0, 0, 0, 0, []), (35, 53, 77, 9, 41, 988, []), (38, 6, 2, 0, 0, 0, []), (39, 58, 0, 0, 0, 0, []), (40, 72, 220, 103, 0, 1234, []), (43, 37, 61, 0, 0, 18, []), (46, 8, 0, 0, 0, 0, []), (47, 1, 0, 0, 0, 5, []), (48, 8, 0, 0, 0, 0, []), (49, 53, 23, 9, 8, 955, []), (52, 8, 0, 0, 0, 0, []), (53, 6, 1, 0, 0, 0, []), (54, 72, 213, 102, 0, 1132, []), (57, 58, 0, 0, 0, 0, []), (58, 72, 238, 106, 0, 1146, []), (61, 18, 2, 0, 0, 1, []), (64, 50, 25, 0, 0, (-39), []), (67, 18, 1, 0, 0, 1, []), (70, 50, 2, 0, 0, (-68), []), (73, 86, 0, 0, 0, 0, [])]
def zc_113 : List (Nat × MI) := [(0, 8, 0, 0, 0, 0, []), (1, 6, 1, 0, 0, 0, []), (2, 5, 231, 1248, 0, 126879363321903, []), (5, 2, 0, 0, 0, 6, []), (7, 72, 225, 104, 0, 1238, []), (10, 8, 0, 0, 0, 0, []), (11, 72, 269, 101, 0, 1215, []), (14, 83, 0, 0, 0, 0, [])]
def zc_114 : List (Nat × MI) := [(0, 8, 0, 0, 0, 0, []), (1, 2, 0, 0, 0, 6, []), (3, 1, 0, 0, 0, 0, []), (4, 72, 238, 106, 0, 1146, []), (7, 1, 0, 0, 0, 0, []), (8, 12, 1, 0, 0, 0, []), (9, 1, 0, 0, 0, 0, []), (10, 12, 2, 0, 0, 0, []), (11, 1, 0, 0, 0, 1, []), (12, 12, 3, 0, 0, 0, []), (13, 6, 3, 0, 0, 0, []), (14, 2, 0, 0, 0, 61, []), (16, 45, 126, 0, 0, 110, []), (19, 8, 0, 0, 0, 0, []), (20, 6, 3, 0, 0, 0, []), (21, 72, 293, 105, 0, 1242, []), (24, 1, 0, 0, 0, 1, []), (25, 43, 120, 0, 0, 95, []), (28, 8, 0, 0, 0, 0, []), (29, 8, 0, 0, 0, 0, []), (30, 6, 3, 0, 0, 0, []), (31, 72, 296, 113, 0, 1254, []), (34, 72, 293, 105, 0, 1242, []), (37, 1, 0, 0, 0, 2, []), (38, 43, 45, 0, 0, 7, []), (41, 1, 0, 0, 0, 1, []), (42, 50, 46, 0, 0, 4, []), (45, 1, 0, 0, 0, 0, []), (46, 13, 4, 0, 0, 0, []), (48, 6, 1, 0, 0, 0, []), (49, 36, 90, 0, 0, 41, []), (52, 7, 4, 0, 0, 0, []), (54, 36, 61, 0, 0, 7, []), (57, 6, 2, 0, 0, 0, []), (58, 36, 90, 0, 0, 32, []), (61, 7, 4, 0, 0, 0, []), (63, 6, 2, 0, 0, 0, []), (64, 43, 94, 0, 0, 30, []), (67, 8, 0, 0, 0, 0, []), (68, 53, 23, 9, 8, 955, []), (71, 8, 0, 0, 0, 0, []), (72, 6, 3, 0, 0, 0, []), (73, 72, 213, 102, 0, 1132, []), (76, 58, 0, 0, 0, 0, []), (77, 8, 0, 0, 0, 0, []), (78, 53, 23, 9, 8, 955, []), (81, 8, 0, 0, 0, 0, []), (82, 6, 1, 0, 0, 0, []), (83, 72, 213, 102, 0, 1132, []), (86, 58, 0, 0, 0, 0, []), (87, 47, 94, 0, 0, 7, []), (90, 1, 0, 0, 0, 1, []), (91, 50, 95, 0, 0, 4, []), (94, 1, 0, 0, 0, 0, []), (95, 13, 5, 0, 0, 0, []), (97, 7, 5, 0, 0, 0, []), (99, 36, 106, 0, 0, 7, []), (102, 6, 3, 0, 0, 0, []), (103, 50, 107, 0, 0, 4, []), (106, 6, 1, 0, 0, 0, []), (107, 12, 1, 0, 0, 0, []), (108, 7, 5, 0, 0, 0, []), (110, 36, 118, 0, 0, 8, []), (113, 7, 4, 0, 0, 0, []), (115, 50, 119, 0, 0, 4, []), (118, 6, 2, 0, 0, 0, []), (119, 12, 2, 0, 0, 0, []), (120, 18, 3, 0, 0, 1, []), (123, 50, 13, 0, 0, (-110), []), (126, 6, 1, 0, 0, 0, []), (127, 41, 146, 0, 0, 19, []), (130, 8, 0, 0, 0, 0, []), (131, 2, 0, 0, 0, 7, []), (133, 8, 0, 0, 0, 0, []), (134, 53, 23, 9, 8, 955, []), (137, 8, 0, 0, 0, 0, []), (138, 6, 1, 0, 0, 0, []), (139, 72, 213, 102, 0, 1132, []), (142, 58, 0, 0, 0, 0, []), (143, 72, 238, 106, 0, 1146, []), (146, 6, 1, 0, 0, 0, []), (147, 83, 0, 0, 0, 0, [])]
def zc_115 : List (Nat × MI) := [(0, 8, 0, 0, 0, 0, []), (1, 53, 68, 9, 24, 971, []), (4, 2, 0, 0, 0, 61, []), (6, 8, 0, 0, 0, 0, []), (7, 53, 102, 9, 4, 951, []), (10, 21, 0, 0, 0, 0, []), (11, 8, 0, 0, 0, 0, []), (12, 53, 65, 9, 23, 970, []), (15, 8, 0, 0, 0, 0, []), (16, 53, 102, 9, 4, 951, []), (19, 58, 0, 0, 0, 0, []), (20, 19, 0, 0, 0, 0, []), (21, 6, 1, 0, 0, 0, []), (22, 59, 0, 0, 0, 0, []), (23, 8, 0, 0, 0, 0, []), (24, 53, 65, 9, 23, 970, []), (27, 8, 0, 0, 0, 0, []), (28, 53, 102, 9, 4, 951, []), (31, 34, 0, 0, 0, 0, []), (32, 58, 0, 0, 0, 0, []), (33, 1, 0, 0, 0, 1, []), (34, 19, 0, 0, 0, 0, []), (35, 59, 0, 0, 0, 0, []), (36, 86, 0, 0, 0, 0, [])]
def zc_116 : List (Nat × MI) := [(0, 1, 0, 0, 0, 0, []), (1, 12, 2, 0, 0, 0, []), (2, 6, 2, 0, 0, 0, []), (3, 2, 0, 0, 0, 61, []), (5, 45, 21, 0, 0, 16, []), (8, 8, 0, 0, 0, 0, []), (9, 53, 86, 9, 52, 999, []), (12, 6, 2, 0, 0, 0, []), (13, 1, 0, 0, 0, 0, []), (14, 61, 0, 0, 0, 0, []), (15, 18, 2, 0, 0, 1, []), (18, 50, 2, 0, 0, (-16), []), (21, 1, 0, 0, 0, 1, []), (22, 12, 2, 0, 0, 0, []), (23, 8, 0, 0, 0, 0, []), (24, 53, 89, 9, 53, 1000, []), (27, 1, 0, 0, 0, 0, []), (28, 6, 1, 0, 0, 0, []), (29, 59, 0, 0, 0, 0, []), (30, 6, 2, 0, 0, 0, []), (31, 41, 154, 0, 0, 123, []), (34, 18, 2, 0, 0, (-1), []), (37, 8, 0, 0, 0, 0, []), (38, 53, 89, 9, 53, 1000, []), (41, 6, 2, 0, 0, 0, []), (42, 58, 0, 0, 0, 0, []), (43, 12, 3, 0, 0, 0, []), (44, 8, 0, 0, 0, 0, []), (45, 6, 3, 0, 0, 0, []), (46, 72, 220, 103, 0, 1234, []), (49, 36, 151, 0, 0, 102, []), (52, 8, 0, 0, 0, 0, []), (53, 53, 86, 9, 52, 999, []), (56, 6, 3, 0, 0, 0, []), (57, 60, 0, 0, 0, 0, []), (58, 37, 151, 0, 0, 93, []), (61, 8, 0, 0, 0, 0, []), (62, 53, 86, 9, 52, 999, []), (65, 6, 3, 0, 0, 0, []), (66, 1, 0, 0, 0, 1, []), (67, 61, 0, 0, 0, 0, []), (68, 8, 0, 0, 0, 0, []), (69, 6, 3, 0, 0, 0, []), (70, 72, 293, 105, 0, 1242, []), (73, 13, 4, 0, 0, 0, []), (75, 7, 4, 0, 0, 0, []), (77, 1, 0, 0, 0, 3, []), (78, 43, 89, 0, 0, 11, []), (81, 8, 0, 0, 0, 0, []), (82, 6, 3, 0, 0, 0, []), (83, 72, 299, 115, 0, 1262, []), (86, 50, 151, 0, 0, 65, []), (89, 7, 4, 0, 0, 0, []), (91, 1, 0, 0, 0, 2, []), (92, 43, 151, 0, 0, 59, []), (95, 8, 0, 0, 0, 0, []), (96, 6, 3, 0, 0, 0, []), (97, 5, 302, 1266, 0, 495605861167, []), (100, 1, 0, 0, 0, 5, []), (101, 72, 225, 104, 0, 1238, []), (104, 8, 0, 0, 0, 0, []), (105, 53, 208, 9, 51, 998, []), (108, 1, 0, 0, 0, 1, []), (109, 20, 0, 0, 0, 0, []), (110, 13, 5, 0, 0, 0, []), (112, 8, 0, 0, 0, 0, []), (113, 53, 156, 9, 45, 992, []), (116, 36, 151, 0, 0, 35, []), (119, 7, 5, 0, 0, 0, []), (121, 38, 151, 0, 0, 30, []), (124, 8, 0, 0, 0, 0, []), (125, 53, 89, 9, 53, 1000, []), (128, 6, 2, 0, 0, 0, []), (129, 8, 0, 0, 0, 0, []), (130, 53, 77, 9, 41, 988, []), (133, 8, 0, 0, 0, 0, []), (134, 53, 205, 9, 50, 997, []), (137, 7, 5, 0, 0, 0, []), (139, 19, 0, 0, 0, 0, []), (140, 58, 0, 0, 0, 0, []), (141, 59, 0, 0, 0, 0, []), (142, 18, 2, 0, 0, 1, []), (145, 18, 5, 0, 0, (-1), []), (148, 50, 112, 0, 0, (-36), []), (151, 50, 30, 0, 0, (-121), []), (154, 86, 0, 0, 0, 0, [])]
def zc_117 : List (Nat × MI) := [(0, 8, 0, 0, 0, 0, []), (1, 53, 41, 9, 14, 961, []), (4, 8, 0, 0, 0, 0, []), (5, 53, 102, 9, 4, 951, []), (8, 1, 0, 0, 0, 0, []), (9, 59, 0, 0, 0, 0, []), (10, 8, 0, 0, 0, 0, []), (11, 53, 53, 9, 19, 966, []), (14, 8, 0, 0, 0, 0, []), (15, 53, 102, 9, 4, 951, []), (18, 1, 0, 0, 0, 0, []), (19, 59, 0, 0, 0, 0, []), (20, 8, 0, 0, 0, 0, []), (21, 53, 56, 9, 20, 967, []), (24, 8, 0, 0, 0, 0, []), (25, 53, 102, 9, 4, 951, []), (28, 1, 0, 0, 0, 0, []), (29, 59, 0, 0, 0, 0, []), (30, 8, 0, 0, 0, 0, []), (31, 53, 59, 9, 21, 968, []), (34, 8, 0, 0, 0, 0, []), (35, 53, 102, 9, 4, 951, []), (38, 1, 0, 0, 0, 0, []), (39, 59, 0, 0, 0, 0, []), (40, 8, 0, 0, 0, 0, []), (41, 53, 65, 9, 23, 970, []), (44, 8, 0, 0, 0, 0, []), (45, 53, 102, 9, 4, 951, []), (48, 1, 0, 0, 0, 0, []), (49, 59, 0, 0, 0, 0, []), (50, 8, 0, 0, 0, 0, []), (51, 1, 0, 0, 0, 0, []), (52, 55, 235, 9, 25, 972, []), (55, 1, 0, 0, 0, 0, []), (56, 12, 1, 0, 0, 0, []), (57, 6, 1, 0, 0, 0, []), (58, 2, 0, 0, 0, 61, []), (60, 45, 80, 0, 0, 20, []), (63, 8, 0, 0, 0, 0, []), (64, 53, 19, 9, 7, 954, []), (67, 8, 0, 0, 0, 0, []), (68, 6, 1, 0, 0, 0, []), (69, 72, 213, 102, 0, 1132, []), (72, 1, 0, 0, 0, 0, []), (73, 61, 0, 0, 0, 0, []), (74, 18, 1, 0, 0, 1, []), (77, 50, 57, 0, 0, (-20), []), (80, 8, 0, 0, 0, 0, []), (81, 1, 0, 0, 0, 0, []), (82, 5, 304, 1136, 0, 20517, []), (85, 1, 0, 0, 0, 2, []), (86, 72, 132, 92, 0, 1137, []), (89, 37, 99, 0, 0, 10, []), (92, 8, 0, 0, 0, 0, []), (93, 2, 0, 0, 0, 9, []), (95, 1, 0, 0, 0, 0, []), (96, 72, 238, 106, 0, 1146, []), (99, 8, 0, 0, 0, 0, []), (100, 72, 306, 111, 0, 1150, []), (103, 8, 0, 0, 0, 0, []), (104, 53, 235, 9, 25, 972, []), (107, 41, 133, 0, 0, 26, []), (110, 8, 0, 0, 0, 0, []), (111, 53, 253, 9, 28, 975, []), (114, 38, 133, 0, 0, 19, []), (117, 8, 0, 0, 0, 0, []), (118, 8, 0, 0, 0, 0, []), (119, 53, 13, 9, 5, 952, []), (122, 8, 0, 0, 0, 0, []), (123, 53, 102, 9, 4, 951, []), (126, 58, 0, 0, 0, 0, []), (127, 72, 263, 108, 0, 1174, []), (130, 50, 168, 0, 0, 38, []), (133, 8, 0, 0, 0, 0, []), (134, 53, 235, 9, 25, 972, []), (137, 41, 168, 0, 0, 31, []), (140, 8, 0, 0, 0, 0, []), (141, 53, 59, 9, 21, 968, []), (144, 8, 0, 0, 0, 0, []), (145, 53, 102, 9, 4, 951, []), (148, 8, 0, 0, 0, 0, []), (149, 53, 235, 9, 25, 972, []), (152, 59, 0, 0, 0, 0, []), (153, 8, 0, 0, 0, 0, []), (154, 2, 0, 0, 0, 10, []), (156, 8, 0, 0, 0, 0, []), (157, 53, 244, 9, 26, 973, []), (160, 72, 238, 106, 0, 1146, []), (163, 8, 0, 0, 0, 0, []), (164, 1, 0, 0, 0, 0, []), (165, 55, 235, 9, 25, 972, []), (168, 8, 0, 0, 0, 0, []), (169, 72, 309, 112, 0, 1230, []), (172, 8, 0, 0, 0, 0, []), (173, 53, 62, 9, 22, 969, []), (176, 8, 0, 0, 0, 0, []), (177, 53, 102, 9, 4, 951, []), (180, 8, 0, 0, 0, 0, []), (181, 8, 0, 0, 0, 0, []), (182, 53, 53, 9, 19, 966, []), (185, 8, 0, 0, 0, 0, []), (186, 53, 102, 9, 4, 951, []), (189, 58, 0, 0, 0, 0, []), (190, 72, 293, 105, 0, 1242, []), (193, 1, 0, 0, 0, 1, []), (194, 43, 209, 0, 0, 15, []), (197, 8, 0, 0, 0, 0, []), (198, 53, 53, 9, 19, 966, []), (201, 8, 0, 0, 0, 0, []), (202, 53, 102, 9, 4, 951, []), (205, 58, 0, 0, 0, 0, []), (206, 50, 213, 0, 0, 7, []), (209, 8, 0, 0, 0, 0, []), (210, 72, 312, 114, 0, 1250, []), (213, 59, 0, 0, 0, 0, []), (214, 8, 0, 0, 0, 0, []), (215, 53, 62, 9, 22, 969, []), (218, 8, 0, 0, 0, 0, []), (219, 53, 102, 9, 4, 951, []), (222, 58, 0, 0, 0, 0, []), (223, 37, 230, 0, 0, 7, []), (226, 1, 0, 0, 0, 0, []), (227, 50, 243, 0, 0, 16, []), (230, 8, 0, 0, 0, 0, []), (231, 8, 0, 0, 0, 0, []), (232, 53, 62, 9, 22, 969, []), (235, 8, 0, 0, 0, 0, []), (236, 53, 102, 9, 4, 951, []), (239, 58, 0, 0, 0, 0, []), (240, 72, 296, 113, 0, 1254, []), (243, 12, 1, 0, 0, 0, []), (244, 8, 0, 0, 0, 0, []), (245, 6, 1, 0, 0, 0, []), (246, 72, 293, 105, 0, 1242, []), (249, 1, 0, 0, 0, 2, []), (250, 43, 258, 0, 0, 8, []), (253, 8, 0, 0, 0, 0, []), (254, 6, 1, 0, 0, 0, []), (255, 72, 315, 116, 0, 1258, []), (258, 1, 0, 0, 0, 0, []), (259, 12, 2, 0, 0, 0, []), (260, 1, 0, 0, 0, 1, []), (261, 12, 3, 0, 0, 0, []), (262, 6, 3, 0, 0, 0, []), (263, 2, 0, 0, 0, 61, []), (265, 45, 291, 0, 0, 26, []), (268, 8, 0, 0, 0, 0, []), (269, 6, 3, 0, 0, 0, []), (270, 72, 293, 105, 0, 1242, []), (273, 1, 0, 0, 0, 3, []), (274, 43, 283, 0, 0, 9, []), (277, 6, 2, 0, 0, 0, []), (278, 1, 0, 0, 0, 1, []), (279, 19, 0, 0, 0, 0, []), (280, 50, 284, 0, 0, 4, []), (283, 6, 2, 0, 0, 0, []), (284, 12, 2, 0, 0, 0, []), (285, 18, 3, 0, 0, 1, []), (288, 50, 262, 0, 0, (-26), []), (291, 6, 2, 0, 0, 0, []), (292, 8, 0, 0, 0, 0, []), (293, 53, 65, 9, 23, 970, []), (296, 8, 0, 0, 0, 0, []), (297, 53, 102, 9, 4, 951, []), (300, 58, 0, 0, 0, 0, []), (301, 42, 349, 0, 0, 48, []), (304, 8, 0, 0, 0, 0, []), (305, 2, 0, 0, 0, 8, []), (307, 1, 0, 0, 0, 0, []), (308, 72, 238, 106, 0, 1146, []), (311, 8, 0, 0, 0, 0, []), (312, 53, 65, 9, 23, 970, []), (315, 8, 0, 0, 0, 0, []), (316, 53, 102, 9, 4, 951, []), (319, 1, 0, 0, 0, 0, []), (320, 59, 0, 0, 0, 0, []), (321, 1, 0, 0, 0, 1, []), (322, 12, 3, 0, 0, 0, []), (323, 6, 3, 0, 0, 0, []), (324, 2, 0, 0, 0, 61, []), (326, 45, 349, 0, 0, 23, []), (329, 8, 0, 0, 0, 0, []), (330, 6, 3, 0, 0, 0, []), (331, 72, 293, 105, 0, 1242, []), (334, 1, 0, 0, 0, 3, []), (335, 43, 343, 0, 0, 8, []), (338, 8, 0, 0, 0, 0, []), (339, 6, 3, 0, 0, 0, []), (340, 72, 299, 115, 0, 1262, []), (343, 18, 3, 0, 0, 1, []), (346, 50, 323, 0, 0, (-23), []), (349, 86, 0, 0, 0, 0, [])]
def zc_118 : List (Nat × MI) := [(0, 8, 0, 0, 0, 0, []), (1, 8, 0, 0, 0, 0, []), (2, 53, 99, 9, 1, 948, []), (5, 37, 12, 0, 0, 7, []), (8, 1, 0, 0, 0, 1, []), (9, 50, 13, 0, 0, 4, []), (12, 1, 0, 0, 0, 0, []), (13, 55, 95, 9, 0, 947, []), (16, 8, 0, 0, 0, 0, []), (17, 53, 95, 9, 0, 947, []), (20, 41, 25, 0, 0, 5, []), (23, 1, 0, 0, 0, 0, []), (24, 83, 0, 0, 0, 0, []), (25, 8, 0, 0, 0, 0, []), (26, 1, 0, 0, 0, 0, []), (27, 55, 102, 9, 4, 951, []), (30, 8, 0, 0, 0, 0, []), (31, 1, 0, 0, 0, 1, []), (32, 55, 318, 9, 3, 950, []), (35, 8, 0, 0, 0, 0, []), (36, 1, 0, 0, 0, 0, []), (37, 55, 241, 9, 17, 964, []), (40, 8, 0, 0, 0, 0, []), (41, 53, 13, 9, 5, 952, []), (44, 1, 0, 0, 0, 0, []), (45, 8, 0, 0, 0, 0, []), (46, 53, 99, 9, 1, 948, []), (49, 59, 0, 0, 0, 0, []), (50, 1, 0, 0, 0, 0, []), (51, 12, 1, 0, 0, 0, []), (52, 6, 1, 0, 0, 0, []), (53, 8, 0, 0, 0, 0, []), (54, 53, 99, 9, 1, 948, []), (57, 45, 78, 0, 0, 21, []), (60, 8, 0, 0, 0, 0, []), (61, 53, 16, 9, 6, 953, []), (64, 6, 1, 0, 0, 0, []), (65, 8, 0, 0, 0, 0, []), (66, 53, 7, 9, 2, 949, []), (69, 6, 1, 0, 0, 0, []), (70, 58, 0, 0, 0, 0, []), (71, 59, 0, 0, 0, 0, []), (72, 18, 1, 0, 0, 1, []), (75, 50, 52, 0, 0, (-23), []), (78, 8, 0, 0, 0, 0, []), (79, 1, 0, 0, 0, 0, []), (80, 55, 99, 9, 1, 948, []), (83, 8, 0, 0, 0, 0, []), (84, 72, 321, 117, 0, 1128, []), (87, 1, 0, 0, 0, 0, []), (88, 12, 1, 0, 0, 0, []), (89, 1, 0, 0, 0, 1, []), (90, 12, 2, 0, 0, 0, []), (91, 6, 2, 0, 0, 0, []), (92, 2, 0, 0, 0, 61, []), (94, 45, 120, 0, 0, 26, []), (97, 8, 0, 0, 0, 0, []), (98, 53, 19, 9, 7, 954, []), (101, 6, 2, 0, 0, 0, []), (102, 60, 0, 0, 0, 0, []), (103, 36, 112, 0, 0, 9, []), (106, 6, 1, 0, 0, 0, []), (107, 1, 0, 0, 0, 1, []), (108, 19, 0, 0, 0, 0, []), (109, 50, 113, 0, 0, 4, []), (112, 6, 1, 0, 0, 0, []), (113, 12, 1, 0, 0, 0, []), (114, 18, 2, 0, 0, 1, []), (117, 50, 91, 0, 0, (-26), []), (120, 6, 1, 0, 0, 0, []), (121, 83, 0, 0, 0, 0, [])]
def zc_119 : List (Nat × MI) := [(0, 8, 0, 0, 0, 0, []), (1, 1, 0, 0, 0, 0, []), (2, 55, 102, 9, 4, 951, []), (5, 8, 0, 0, 0, 0, []), (6, 53, 318, 9, 3, 950, []), (9, 36, 24, 0, 0, 15, []), (12, 8, 0, 0, 0, 0, []), (13, 6, 1, 0, 0, 0, []), (14, 72, 220, 103, 0, 1234, []), (17, 36, 24, 0, 0, 7, []), (20, 1, 0, 0, 0, 1, []), (21, 50, 25, 0, 0, 4, []), (24, 1, 0, 0, 0, 0, []), (25, 83, 0, 0, 0, 0, [])]
def zc_120 : List (Nat × MI) := [(0, 8, 0, 0, 0, 0, []), (1, 8, 0, 0, 0, 0, []), (2, 6, 1, 0, 0, 0, []), (3, 72, 324, 119, 0, 1271, []), (6, 37, 13, 0, 0, 7, []), (9, 1, 0, 0, 0, 1, []), (10, 50, 27, 0, 0, 17, []), (13, 6, 2, 0, 0, 0, []), (14, 38, 22, 0, 0, 8, []), (17, 6, 2, 0, 0, 0, []), (18, 1, 0, 0, 0, 4, []), (19, 47, 26, 0, 0, 7, []), (22, 1, 0, 0, 0, 2, []), (23, 50, 27, 0, 0, 4, []), (26, 1, 0, 0, 0, 0, []), (27, 55, 95, 9, 0, 947, []), (30, 8, 0, 0, 0, 0, []), (31, 53, 95, 9, 0, 947, []), (34, 41, 39, 0, 0, 5, []), (37, 4, 0, 0, 0, 0, []), (38, 84, 0, 0, 0, 0, []), (39, 6, 2, 0, 0, 0, []), (40, 1, 0, 0, 0, 3, []), (41, 45, 81, 0, 0, 40, []), (44, 6, 2, 0, 0, 0, []), (45, 37, 58, 0, 0, 13, []), (48, 8, 0, 0, 0, 0, []), (49, 53, 23, 9, 8, 955, []), (52, 6, 1, 0, 0, 0, []), (53, 58, 0, 0, 0, 0, []), (54, 25, 0, 0, 0, 0, []), (55, 50, 80, 0, 0, 25, []), (58, 6, 2, 0, 0, 0, []), (59, 1, 0, 0, 0, 1, []), (60, 43, 73, 0, 0, 13, []), (63, 8, 0, 0, 0, 0, []), (64, 53, 26, 9, 9, 956, []), (67, 6, 1, 0, 0, 0, []), (68, 58, 0, 0, 0, 0, []), (69, 25, 0, 0, 0, 0, []), (70, 50, 80, 0, 0, 10, []), (73, 8, 0, 0, 0, 0, []), (74, 53, 29, 9, 10, 957, []), (77, 6, 1, 0, 0, 0, []), (78, 58, 0, 0, 0, 0, []), (79, 25, 0, 0, 0, 0, []), (80, 84, 0, 0, 0, 0, []), (81, 6, 2, 0, 0, 0, []), (82, 1, 0, 0, 0, 3, []), (83, 43, 93, 0, 0, 10, []), (86, 8, 0, 0, 0, 0, []), (87, 6, 1, 0, 0, 0, []), (88, 72, 293, 105, 0, 1242, []), (91, 25, 0, 0, 0, 0, []), (92, 84, 0, 0, 0, 0, []), (93, 8, 0, 0, 0, 0, []), (94, 6, 1, 0, 0, 0, []), (95, 4, 0, 0, 0, 0, []), (96, 1, 0, 0, 0, 0, []), (97, 72, 225, 104, 0, 1238, []), (100, 8, 0, 0, 0, 0, []), (101, 53, 150, 9, 38, 985, []), (104, 25, 0, 0, 0, 0, []), (105, 84, 0, 0, 0, 0, [])]
def zc_121 : List (Nat × MI) := [(0, 8, 0, 0, 0, 0, []), (1, 1, 0, 0, 0, 0, []), (2, 55, 95, 9, 0, 947, []), (5, 6, 1, 0, 0, 0, []), (6, 1, 0, 0, 0, (-1), []), (7, 43, 17, 0, 0, 10, []), (10, 8, 0, 0, 0, 0, []), (11, 53, 41, 9, 14, 961, []), (14, 1, 0, 0, 0, 0, []), (15, 58, 0, 0, 0, 0, []), (16, 83, 0, 0, 0, 0, []), (17, 8, 0, 0, 0, 0, []), (18, 6, 1, 0, 0, 0, []), (19, 38, 41, 0, 0, 22, []), (22, 6, 1, 0, 0, 0, []), (23, 8, 0, 0, 0, 0, []), (24, 53, 41, 9, 14, 961, []), (27, 1, 0, 0, 0, 0, []), (28, 58, 0, 0, 0, 0, []), (29, 45, 41, 0, 0, 12, []), (32, 6, 2, 0, 0, 0, []), (33, 38, 41, 0, 0, 8, []), (36, 6, 2, 0, 0, 0, []), (37, 1, 0, 0, 0, 1, []), (38, 47, 45, 0, 0, 7, []), (41, 1, 0, 0, 0, 1, []), (42, 50, 46, 0, 0, 4, []), (45, 1, 0, 0, 0, 0, []), (46, 55, 95, 9, 0, 947, []), (49, 8, 0, 0, 0, 0, []), (50, 53, 95, 9, 0, 947, []), (53, 41, 60, 0, 0, 7, []), (56, 1, 0, 0, 0, 0, []), (57, 50, 79, 0, 0, 22, []), (60, 6, 2, 0, 0, 0, []), (61, 37, 73, 0, 0, 12, []), (64, 8, 0, 0, 0, 0, []), (65, 53, 44, 9, 15, 962, []), (68, 6, 1, 0, 0, 0, []), (69, 58, 0, 0, 0, 0, []), (70, 50, 79, 0, 0, 9, []), (73, 8, 0, 0, 0, 0, []), (74, 53, 47, 9, 16, 963, []), (77, 6, 1, 0, 0, 0, []), (78, 58, 0, 0, 0, 0, []), (79, 83, 0, 0, 0, 0, [])]
def zc_122 : List (Nat × MI) := [(0, 8, 0, 0, 0, 0, []), (1, 1, 0, 0, 0, 0, []), (2, 55, 95, 9, 0, 947, []), (5, 8, 0, 0, 0, 0, []), (6, 53, 62, 9, 22, 969, []), (9, 1, 0, 0, 0, 0, []), (10, 58, 0, 0, 0, 0, []), (11, 83, 0, 0, 0, 0, [])]
def zc_123 : List (Nat × MI) := [(0, 8, 0, 0, 0, 0, []), (1, 1, 0, 0, 0, 0, []), (2, 55, 95, 9, 0, 947, []), (5, 8, 0, 0, 0, 0, []), (6, 53, 65, 9, 23, 970, []), (9, 1, 0, 0, 0, 0, []), (10, 58, 0, 0, 0, 0, []), (11, 83, 0, 0, 0, 0, [])]
def zc_124 : List (Nat × MI) := [(0, 8, 0, 0, 0, 0, []), (1, 6, 1, 0, 0, 0, []), (2, 38, 15, 0, 0, 13, []), (5, 6, 1, 0, 0, 0, []), (6, 8, 0, 0, 0, 0, []), (7, 53, 65, 9, 23, 970, []), (10, 1, 0, 0, 0, 0, []), (11, 58, 0, 0, 0, 0, []), (12, 44, 19, 0, 0, 7, []), (15, 1, 0, 0, 0, 1, []), (16, 50, 20, 0, 0, 4, []), (19, 1, 0, 0, 0, 0, []), (20, 55, 95, 9, 0, 947, []), (23, 8, 0, 0, 0, 0, []), (24, 53, 95, 9, 0, 947, []), (27, 41, 34, 0, 0, 7, []), (30, 1, 0, 0, 0, 0, []), (31, 50, 40, 0, 0, 9, []), (34, 8, 0, 0, 0, 0, []), (35, 53, 68, 9, 24, 971, []), (38, 6, 1, 0, 0, 0, []), (39, 58, 0, 0, 0, 0, []), (40, 83, 0, 0, 0, 0, [])]
def zc_125 : List (Nat × MI) := [(0, 8, 0, 0, 0, 0, []), (1, 1, 0, 0, 0, 0, []), (2, 55, 95, 9, 0, 947, []), (5, 8, 0, 0, 0, 0, []), (6, 53, 59, 9, 21, 968, []), (9, 1, 0, 0, 0, 0, []), (10, 58, 0, 0, 0, 0, []), (11, 83, 0, 0, 0, 0, [])]
def zc_126 : List (Nat × MI) := [(0, 8, 0, 0, 0, 0, []), (1, 6, 1, 0, 0, 0, []), (2, 38, 10, 0, 0, 8, []), (5, 6, 1, 0, 0, 0, []), (6, 1, 0, 0, 0, 1, []), (7, 47, 14, 0, 0, 7, []), (10, 1, 0, 0, 0, 1, []), (11, 50, 15, 0, 0, 4, []), (14, 1, 0, 0, 0, 0, []), (15, 55, 95, 9, 0, 947, []), (18, 8, 0, 0, 0, 0, []), (19, 53, 95, 9, 0, 947, []), (22, 41, 29, 0, 0, 7, []), (25, 1, 0, 0, 0, 0, []), (26, 50, 48, 0, 0, 22, []), (29, 6, 1, 0, 0, 0, []), (30, 37, 42, 0, 0, 12, []), (33, 8, 0, 0, 0, 0, []), (34, 53, 53, 9, 19, 966, []), (37, 1, 0, 0, 0, 0, []), (38, 58, 0, 0, 0, 0, []), (39, 50, 48, 0, 0, 9, []), (42, 8, 0, 0, 0, 0, []), (43, 53, 56, 9, 20, 967, []), (46, 1, 0, 0, 0, 0, []), (47, 58, 0, 0, 0, 0, []), (48, 83, 0, 0, 0, 0, [])]
def zc_127 : List (Nat × MI) := [(0, 8, 0, 0, 0, 0, []), (1, 8, 0, 0, 0, 0, []), (2, 6, 1, 0, 0, 0, []), (3, 72, 324, 119, 0, 1271, []), (6, 36, 18, 0, 0, 12, []), (9, 8, 0, 0, 0, 0, []), (10, 53, 35, 9, 12, 959, []), (13, 6, 1, 0, 0, 0, []), (14, 58, 0, 0, 0, 0, []), (15, 39, 22, 0, 0, 7, []), (18, 1, 0, 0, 0, 1, []), (19, 50, 23, 0, 0, 4, []), (22, 1, 0, 0, 0, 0, []), (23, 55, 95, 9, 0, 947, []), (26, 8, 0, 0, 0, 0, []), (27, 53, 95, 9, 0, 947, []), (30, 41, 35, 0, 0, 5, []), (33, 1, 0, 0, 0, 0, []), (34, 83, 0, 0, 0, 0, []), (35, 8, 0, 0, 0, 0, []), (36, 53, 38, 9, 13, 960, []), (39, 6, 1, 0, 0, 0, []), (40, 58, 0, 0, 0, 0, []), (41, 8, 0, 0, 0, 0, []), (42, 53, 35, 9, 12, 959, []), (45, 6, 1, 0, 0, 0, []), (46, 58, 0, 0, 0, 0, []), (47, 20, 0, 0, 0, 0, []), (48, 12, 3, 0, 0, 0, []), (49, 8, 0, 0, 0, 0, []), (50, 6, 2, 0, 0, 0, []), (51, 1, 0, 0, 0, (-1), []), (52, 44, 60, 0, 0, 8, []), (55, 6, 2, 0, 0, 0, []), (56, 6, 3, 0, 0, 0, []), (57, 44, 64, 0, 0, 7, []), (60, 1, 0, 0, 0, 2, []), (61, 50, 65, 0, 0, 4, []), (64, 1, 0, 0, 0, 0, []), (65, 55, 95, 9, 0, 947, []), (68, 8, 0, 0, 0, 0, []), (69, 53, 95, 9, 0, 947, []), (72, 41, 79, 0, 0, 7, []), (75, 1, 0, 0, 0, 0, []), (76, 50, 100, 0, 0, 24, []), (79, 6, 2, 0, 0, 0, []), (80, 1, 0, 0, 0, (-1), []), (81, 43, 88, 0, 0, 7, []), (84, 6, 3, 0, 0, 0, []), (85, 50, 100, 0, 0, 15, []), (88, 8, 0, 0, 0, 0, []), (89, 8, 0, 0, 0, 0, []), (90, 53, 35, 9, 12, 959, []), (93, 6, 1, 0, 0, 0, []), (94, 58, 0, 0, 0, 0, []), (95, 6, 2, 0, 0, 0, []), (96, 19, 0, 0, 0, 0, []), (97, 72, 111, 88, 0, 1141, []), (100, 83, 0, 0, 0, 0, [])]
def zc_128 : List (Nat × MI) := [(0, 8, 0, 0, 0, 0, []), (1, 8, 0, 0, 0, 0, []), (2, 6, 1, 0, 0, 0, []), (3, 72, 324, 119, 0, 1271, []), (6, 36, 13, 0, 0, 7, []), (9, 1, 0, 0, 0, 0, []), (10, 50, 14, 0, 0, 4, []), (13, 1, 0, 0, 0, 1, []), (14, 55, 95, 9, 0, 947, []), (17, 8, 0, 0, 0, 0, []), (18, 53, 95, 9, 0, 947, []), (21, 37, 37, 0, 0, 16, []), (24, 8, 0, 0, 0, 0, []), (25, 53, 32, 9, 11, 958, []), (28, 6, 1, 0, 0, 0, []), (29, 60, 0, 0, 0, 0, []), (30, 36, 37, 0, 0, 7, []), (33, 1, 0, 0, 0, 1, []), (34, 50, 38, 0, 0, 4, []), (37, 1, 0, 0, 0, 0, []), (38, 83, 0, 0, 0, 0, [])]
def zc_129 : List (Nat × MI) := [(0, 8, 0, 0, 0, 0, []), (1, 1, 0, 0, 0, 0, []), (2, 55, 95, 9, 0, 947, []), (5, 6, 1, 0, 0, 0, []), (6, 1, 0, 0, 0, (-1), []), (7, 43, 15, 0, 0, 8, []), (10, 8, 0, 0, 0, 0, []), (11, 53, 241, 9, 17, 964, []), (14, 83, 0, 0, 0, 0, []), (15, 8, 0, 0, 0, 0, []), (16, 6, 1, 0, 0, 0, []), (17, 38, 28, 0, 0, 11, []), (20, 6, 1, 0, 0, 0, []), (21, 8, 0, 0, 0, 0, []), (22, 53, 241, 9, 17, 964, []), (25, 44, 32, 0, 0, 7, []), (28, 1, 0, 0, 0, 1, []), (29, 50, 33, 0, 0, 4, []), (32, 1, 0, 0, 0, 0, []), (33, 55, 95, 9, 0, 947, []), (36, 8, 0, 0, 0, 0, []), (37, 53, 95, 9, 0, 947, []), (40, 41, 47, 0, 0, 7, []), (43, 1, 0, 0, 0, 0, []), (44, 50, 53, 0, 0, 9, []), (47, 8, 0, 0, 0, 0, []), (48, 53, 50, 9, 18, 965, []), (51, 6, 1, 0, 0, 0, []), (52, 58, 0, 0, 0, 0, []), (53, 83, 0, 0, 0, 0, [])]
def zc_130 : List (Nat × MI) := [(0, 8, 0, 0, 0, 0, []), (1, 53, 327, 9, 54, 1001, []), (4, 3, 0, 0, 0, 3000, []), (7, 45, 30, 0, 0, 23, []), (10, 8, 0, 0, 0, 0, []), (11, 53, 92, 9, 55, 1002, []), (14, 8, 0, 0, 0, 0, []), (15, 53, 327, 9, 54, 1001, []), (18, 6, 1, 0, 0, 0, []), (19, 59, 0, 0, 0, 0, []), (20, 8, 0, 0, 0, 0, []), (21, 33, 0, 0, 0, 0, []), (22, 53, 327, 9, 54, 1001, []), (25, 1, 0, 0, 0, 1, []), (26, 19, 0, 0, 0, 0, []), (27, 55, 327, 9, 54, 1001, []), (30, 86, 0, 0, 0, 0, [])]
def zc_131 : List (Nat × MI) := [(0, 10, 1, 0, 0, 0, []), (1, 16, 3, 0, 0, 0, []), (2, 10, 3, 0, 0, 0, []), (3, 4, 0, 0, 0, 0, []), (4, 28, 0, 0, 0, 0, []), (5, 36, 27, 0, 0, 22, []), (8, 8, 0, 0, 0, 0, []), (9, 10, 3, 0, 0, 0, []), (10, 5, 330, 1320, 0, 256, []), (13, 30, 0, 0, 0, 0, []), (14, 26, 0, 0, 0, 0, []), (15, 72, 332, 130, 0, 1321, []), (18, 10, 3, 0, 0, 0, []), (19, 5, 330, 1320, 0, 256, []), (22, 29, 0, 0, 0, 0, []), (23, 16, 3, 0, 0, 0, []), (24, 50, 2, 0, 0, (-22), []), (27, 86, 0, 0, 0, 0, [])]
def zc_132 : List (Nat × MI) := [(0, 1, 0, 0, 0, 1, []), (1, 12, 2, 0, 0, 0, []), (2, 6, 1, 0, 0, 0, []), (3, 6, 2, 0, 0, 0, []), (4, 22, 0, 0, 0, 0, []), (5, 2, 0, 0, 0, 9, []), (7, 47, 18, 0, 0, 11, []), (10, 2, 0, 0, 0, 10, []), (12, 6, 2, 0, 0, 0, []), (13, 21, 0, 0, 0, 0, []), (14, 12, 2, 0, 0, 0, []), (15, 50, 2, 0, 0, (-13), []), (18, 6, 2, 0, 0, 0, []), (19, 41, 43, 0, 0, 24, []), (22, 8, 0, 0, 0, 0, []), (23, 2, 0, 0, 0, 48, []), (25, 6, 1, 0, 0, 0, []), (26, 6, 2, 0, 0, 0, []), (27, 22, 0, 0, 0, 0, []), (28, 2, 0, 0, 0, 10, []), (30, 23, 0, 0, 0, 0, []), (31, 19, 0, 0, 0, 0, []), (32, 72, 332, 130, 0, 1321, []), (35, 6, 2, 0, 0, 0, []), (36, 2, 0, 0, 0, 10, []), (38, 22, 0, 0, 0, 0, []), (39, 12, 2, 0, 0, 0, []), (40, 50, 18, 0, 0, (-22), []), (43, 86, 0, 0, 0, 0, [])]
def zc_133 : List (Nat × MI) := [(0, 6, 1, 0, 0, 0, []), (1, 13, 4, 0, 0, 0, []), (3, 7, 4, 0, 0, 0, []), (5, 6, 2, 0, 0, 0, []), (6, 45, 181, 0, 0, 175, []), (9, 7, 4, 0, 0, 0, []), (11, 13, 5, 0, 0, 0, []), (13, 1, 0, 0, 0, 0, []), (14, 13, 6, 0, 0, 0, []), (16, 7, 6, 0, 0, 0, []), (18, 8, 0, 0, 0, 0, []), (19, 53, 153, 9, 42, 989, []), (22, 45, 61, 0, 0, 39, []), (25, 6, 3, 0, 0, 0, []), (26, 36, 61, 0, 0, 35, []), (29, 8, 0, 0, 0, 0, []), (30, 53, 80, 9, 43, 990, []), (33, 7, 6, 0, 0, 0, []), (35, 58, 0, 0, 0, 0, []), (36, 7, 4, 0, 0, 0, []), (38, 43, 51, 0, 0, 13, []), (41, 8, 0, 0, 0, 0, []), (42, 53, 83, 9, 44, 991, []), (45, 7, 6, 0, 0, 0, []), (47, 58, 0, 0, 0, 0, []), (48, 50, 53, 0, 0, 5, []), (51, 7, 5, 0, 0, 0, []), (53, 13, 5, 0, 0, 0, []), (55, 18, 6, 0, 0, 1, []), (58, 50, 16, 0, 0, (-42), []), (61, 7, 4, 0, 0, 0, []), (63, 13, 6, 0, 0, 0, []), (65, 1, 0, 0, 0, 0, []), (66, 13, 7, 0, 0, 0, []), (68, 7, 7, 0, 0, 0, []), (70, 8, 0, 0, 0, 0, []), (71, 53, 150, 9, 38, 985, []), (74, 45, 130, 0, 0, 56, []), (77, 7, 5, 0, 0, 0, []), (79, 7, 4, 0, 0, 0, []), (81, 43, 130, 0, 0, 49, []), (84, 8, 0, 0, 0, 0, []), (85, 53, 71, 9, 39, 986, []), (88, 7, 7, 0, 0, 0, []), (90, 58, 0, 0, 0, 0, []), (91, 7, 4, 0, 0, 0, []), (93, 43, 120, 0, 0, 27, []), (96, 8, 0, 0, 0, 0, []), (97, 8, 0, 0, 0, 0, []), (98, 53, 77, 9, 41, 988, []), (101, 7, 7, 0, 0, 0, []), (103, 58, 0, 0, 0, 0, []), (104, 72, 220, 103, 0, 1234, []), (107, 37, 120, 0, 0, 13, []), (110, 8, 0, 0, 0, 0, []), (111, 53, 74, 9, 40, 987, []), (114, 7, 7, 0, 0, 0, []), (116, 58, 0, 0, 0, 0, []), (117, 50, 122, 0, 0, 5, []), (120, 7, 6, 0, 0, 0, []), (122, 13, 6, 0, 0, 0, []), (124, 18, 7, 0, 0, 1, []), (127, 50, 68, 0, 0, (-59), []), (130, 7, 5, 0, 0, 0, []), (132, 7, 4, 0, 0, 0, []), (134, 47, 144, 0, 0, 10, []), (137, 7, 5, 0, 0, 0, []), (139, 13, 4, 0, 0, 0, []), (141, 50, 178, 0, 0, 37, []), (144, 7, 6, 0, 0, 0, []), (146, 7, 4, 0, 0, 0, []), (148, 47, 165, 0, 0, 17, []), (151, 8, 0, 0, 0, 0, []), (152, 5, 335, 1338, 0, 1819047278, []), (155, 72, 337, 131, 0, 1316, []), (158, 7, 6, 0, 0, 0, []), (160, 13, 4, 0, 0, 0, []), (162, 50, 178, 0, 0, 16, []), (165, 8, 0, 0, 0, 0, []), (166, 8, 0, 0, 0, 0, []), (167, 7, 4, 0, 0, 0, []), (169, 72, 111, 88, 0, 1141, []), (172, 72, 332, 130, 0, 1321, []), (175, 18, 4, 0, 0, 1, []), (178, 50, 3, 0, 0, (-175), []), (181, 86, 0, 0, 0, 0, [])]
def zc_134 : List (Nat × MI) := [(0, 8, 0, 0, 0, 0, []), (1, 6, 1, 0, 0, 0, []), (2, 72, 341, 132, 0, 1329, []), (5, 8, 0, 0, 0, 0, []), (6, 5, 344, 1333, 0, 116971003719712, []), (9, 72, 337, 131, 0, 1316, []), (12, 8, 0, 0, 0, 0, []), (13, 2, 0, 0, 0, 10, []), (15, 72, 332, 130, 0, 1321, []), (18, 8, 0, 0, 0, 0, []), (19, 6, 1, 0, 0, 0, []), (20, 4, 0, 0, 0, 0, []), (21, 1, 0, 0, 0, 0, []), (22, 72, 225, 104, 0, 1238, []), (25, 8, 0, 0, 0, 0, []), (26, 53, 35, 9, 12, 959, []), (29, 6, 1, 0, 0, 0, []), (30, 58, 0, 0, 0, 0, []), (31, 39, 102, 0, 0, 71, []), (34, 8, 0, 0, 0, 0, []), (35, 53, 26, 9, 9, 956, []), (38, 6, 1, 0, 0, 0, []), (39, 58, 0, 0, 0, 0, []), (40, 12, 2, 0, 0, 0, []), (41, 8, 0, 0, 0, 0, []), (42, 53, 29, 9, 10, 957, []), (45, 6, 1, 0, 0, 0, []), (46, 58, 0, 0, 0, 0, []), (47, 12, 3, 0, 0, 0, []), (48, 6, 2, 0, 0, 0, []), (49, 6, 3, 0, 0, 0, []), (50, 45, 69, 0, 0, 19, []), (53, 8, 0, 0, 0, 0, []), (54, 6, 2, 0, 0, 0, []), (55, 72, 111, 88, 0, 1141, []), (58, 2, 0, 0, 0, 32, []), (60, 46, 69, 0, 0, 9, []), (63, 18, 2, 0, 0, 1, []), (66, 50, 48, 0, 0, (-18), []), (69, 6, 3, 0, 0, 0, []), (70, 6, 2, 0, 0, 0, []), (71, 47, 92, 0, 0, 21, []), (74, 8, 0, 0, 0, 0, []), (75, 6, 3, 0, 0, 0, []), (76, 1, 0, 0, 0, 1, []), (77, 20, 0, 0, 0, 0, []), (78, 72, 111, 88, 0, 1141, []), (81, 2, 0, 0, 0, 32, []), (83, 46, 92, 0, 0, 9, []), (86, 18, 3, 0, 0, (-1), []), (89, 50, 69, 0, 0, (-20), []), (92, 8, 0, 0, 0, 0, []), (93, 6, 2, 0, 0, 0, []), (94, 6, 3, 0, 0, 0, []), (95, 1, 0, 0, 0, 0, []), (96, 72, 346, 133, 0, 1334, []), (99, 50, 217, 0, 0, 118, []), (102, 8, 0, 0, 0, 0, []), (103, 5, 350, 1339, 0, 111377882561596, []), (106, 72, 337, 131, 0, 1316, []), (109, 8, 0, 0, 0, 0, []), (110, 5, 352, 1340, 0, 139191412590, []), (113, 72, 337, 131, 0, 1316, []), (116, 8, 0, 0, 0, 0, []), (117, 8, 0, 0, 0, 0, []), (118, 53, 38, 9, 13, 960, []), (121, 6, 1, 0, 0, 0, []), (122, 58, 0, 0, 0, 0, []), (123, 8, 0, 0, 0, 0, []), (124, 53, 35, 9, 12, 959, []), (127, 6, 1, 0, 0, 0, []), (128, 58, 0, 0, 0, 0, []), (129, 20, 0, 0, 0, 0, []), (130, 72, 341, 132, 0, 1329, []), (133, 8, 0, 0, 0, 0, []), (134, 2, 0, 0, 0, 32, []), (136, 72, 332, 130, 0, 1321, []), (139, 8, 0, 0, 0, 0, []), (140, 8, 0, 0, 0, 0, []), (141, 53, 168, 9, 36, 983, []), (144, 8, 0, 0, 0, 0, []), (145, 53, 160, 9, 37, 984, []), (148, 1, 0, 0, 0, 1, []), (149, 72, 346, 133, 0, 1334, []), (152, 8, 0, 0, 0, 0, []), (153, 5, 354, 1341, 0, 30787860801286944, []), (156, 72, 337, 131, 0, 1316, []), (159, 8, 0, 0, 0, 0, []), (160, 2, 0, 0, 0, 10, []), (162, 72, 332, 130, 0, 1321, []), (165, 8, 0, 0, 0, 0, []), (166, 53, 35, 9, 12, 959, []), (169, 6, 1, 0, 0, 0, []), (170, 58, 0, 0, 0, 0, []), (171, 12, 2, 0, 0, 0, []), (172, 6, 2, 0, 0, 0, []), (173, 8, 0, 0, 0, 0, []), (174, 53, 38, 9, 13, 960, []), (177, 6, 1, 0, 0, 0, []), (178, 58, 0, 0, 0, 0, []), (179, 45, 197, 0, 0, 18, []), (182, 8, 0, 0, 0, 0, []), (183, 8, 0, 0, 0, 0, []), (184, 6, 2, 0, 0, 0, []), (185, 72, 111, 88, 0, 1141, []), (188, 72, 332, 130, 0, 1321, []), (191, 18, 2, 0, 0, 1, []), (194, 50, 172, 0, 0, (-22), []), (197, 8, 0, 0, 0, 0, []), (198, 2, 0, 0, 0, 10, []), (200, 72, 332, 130, 0, 1321, []), (203, 8, 0, 0, 0, 0, []), (204, 5, 356, 1342, 0, 500152168037, []), (207, 72, 337, 131, 0, 1316, []), (210, 8, 0, 0, 0, 0, []), (211, 5, 358, 1343, 0, 1835099506, []), (214, 72, 337, 131, 0, 1316, []), (217, 8, 0, 0, 0, 0, []), (218, 2, 0, 0, 0, 10, []), (220, 72, 332, 130, 0, 1321, []), (223, 8, 0, 0, 0, 0, []), (224, 5, 280, 1182, 0, 116971008192101, []), (227, 72, 337, 131, 0, 1316, []), (230, 8, 0, 0, 0, 0, []), (231, 2, 0, 0, 0, 10, []), (233, 72, 332, 130, 0, 1321, []), (236, 86, 0, 0, 0, 0, [])]
def zc_135 : List (Nat × MI) := [(0, 8, 0, 0, 0, 0, []), (1, 1, 0, 0, 0, 0, []), (2, 55, 95, 9, 0, 947, []), (5, 8, 0, 0, 0, 0, []), (6, 1, 0, 0, 0, 0, []), (7, 55, 102, 9, 4, 951, []), (10, 8, 0, 0, 0, 0, []), (11, 1, 0, 0, 0, 0, []), (12, 55, 327, 9, 54, 1001, []), (15, 8, 0, 0, 0, 0, []), (16, 53, 318, 9, 3, 950, []), (19, 37, 24, 0, 0, 5, []), (22, 1, 0, 0, 0, 0, []), (23, 83, 0, 0, 0, 0, []), (24, 8, 0, 0, 0, 0, []), (25, 5, 360, 1315, 0, 675877, []), (28, 72, 337, 131, 0, 1316, []), (31, 1, 0, 0, 0, 1, []), (32, 12, 1, 0, 0, 0, []), (33, 6, 1, 0, 0, 0, []), (34, 2, 0, 0, 0, 61, []), (36, 45, 59, 0, 0, 23, []), (39, 8, 0, 0, 0, 0, []), (40, 53, 19, 9, 7, 954, []), (43, 6, 1, 0, 0, 0, []), (44, 60, 0, 0, 0, 0, []), (45, 36, 53, 0, 0, 8, []), (48, 8, 0, 0, 0, 0, []), (49, 6, 1, 0, 0, 0, []), (50, 72, 362, 134, 0, 1325, []), (53, 18, 1, 0, 0, 1, []), (56, 50, 33, 0, 0, (-23), []), (59, 8, 0, 0, 0, 0, []), (60, 53, 62, 9, 22, 969, []), (63, 1, 0, 0, 0, 0, []), (64, 58, 0, 0, 0, 0, []), (65, 41, 112, 0, 0, 47, []), (68, 8, 0, 0, 0, 0, []), (69, 5, 365, 1344, 0, 111516298867316, []), (72, 72, 337, 131, 0, 1316, []), (75, 8, 0, 0, 0, 0, []), (76, 5, 367, 1345, 0, 51815496032370, []), (79, 72, 337, 131, 0, 1316, []), (82, 8, 0, 0, 0, 0, []), (83, 5, 369, 1346, 0, 139392413522, []), (86, 72, 337, 131, 0, 1316, []), (89, 8, 0, 0, 0, 0, []), (90, 8, 0, 0, 0, 0, []), (91, 53, 62, 9, 22, 969, []), (94, 1, 0, 0, 0, 0, []), (95, 58, 0, 0, 0, 0, []), (96, 72, 341, 132, 0, 1329, []), (99, 8, 0, 0, 0, 0, []), (100, 5, 371, 1347, 0, 17519757093777440, []), (103, 72, 337, 131, 0, 1316, []), (106, 8, 0, 0, 0, 0, []), (107, 2, 0, 0, 0, 10, []), (109, 72, 332, 130, 0, 1321, []), (112, 8, 0, 0, 0, 0, []), (113, 1, 0, 0, 0, 1, []), (114, 55, 102, 9, 4, 951, []), (117, 8, 0, 0, 0, 0, []), (118, 53, 13, 9, 5, 952, []), (121, 1, 0, 0, 0, 1, []), (122, 8, 0, 0, 0, 0, []), (123, 53, 327, 9, 54, 1001, []), (126, 59, 0, 0, 0, 0, []), (127, 1, 0, 0, 0, 0, []), (128, 12, 1, 0, 0, 0, []), (129, 6, 1, 0, 0, 0, []), (130, 8, 0, 0, 0, 0, []), (131, 53, 327, 9, 54, 1001, []), (134, 45, 159, 0, 0, 25, []), (137, 8, 0, 0, 0, 0, []), (138, 53, 16, 9, 6, 953, []), (141, 3, 0, 0, 0, 3000, []), (144, 6, 1, 0, 0, 0, []), (145, 19, 0, 0, 0, 0, []), (146, 8, 0, 0, 0, 0, []), (147, 53, 92, 9, 55, 1002, []), (150, 6, 1, 0, 0, 0, []), (151, 58, 0, 0, 0, 0, []), (152, 59, 0, 0, 0, 0, []), (153, 18, 1, 0, 0, 1, []), (156, 50, 129, 0, 0, (-27), []), (159, 8, 0, 0, 0, 0, []), (160, 72, 321, 117, 0, 1128, []), (163, 8, 0, 0, 0, 0, []), (164, 53, 41, 9, 14, 961, []), (167, 1, 0, 0, 0, 1, []), (168, 58, 0, 0, 0, 0, []), (169, 83, 0, 0, 0, 0, [])]
def zc_136 : List (Nat × MI) := [(0, 8, 0, 0, 0, 0, []), (1, 6, 1, 0, 0, 0, []), (2, 1, 0, 0, 0, (-1), []), (3, 44, 14, 0, 0, 11, []), (6, 6, 1, 0, 0, 0, []), (7, 8, 0, 0, 0, 0, []), (8, 53, 327, 9, 54, 1001, []), (11, 44, 18, 0, 0, 7, []), (14, 1, 0, 0, 0, 1, []), (15, 50, 19, 0, 0, 4, []), (18, 1, 0, 0, 0, 0, []), (19, 55, 95, 9, 0, 947, []), (22, 8, 0, 0, 0, 0, []), (23, 53, 95, 9, 0, 947, []), (26, 41, 33, 0, 0, 7, []), (29, 1, 0, 0, 0, 0, []), (30, 50, 51, 0, 0, 21, []), (33, 6, 1, 0, 0, 0, []), (34, 1, 0, 0, 0, (-1), []), (35, 43, 45, 0, 0, 10, []), (38, 8, 0, 0, 0, 0, []), (39, 53, 327, 9, 54, 1001, []), (42, 50, 51, 0, 0, 9, []), (45, 8, 0, 0, 0, 0, []), (46, 53, 92, 9, 55, 1002, []), (49, 6, 1, 0, 0, 0, []), (50, 58, 0, 0, 0, 0, []), (51, 83, 0, 0, 0, 0, [])]
def zc_137 : List (Nat × MI) := [(0, 8, 0, 0, 0, 0, []), (1, 6, 1, 0, 0, 0, []), (2, 72, 7, 70, 0, 750, []), (5, 50, 11, 0, 0, 6, []), (8, 14, 2, 0, 0, 0, []), (9, 1, 0, 0, 0, 1, []), (10, 83, 0, 0, 0, 0, []), (11, 1, 0, 0, 0, 0, []), (12, 83, 0, 0, 0, 0, [])]
def zc_138 : List (Nat × MI) := [(0, 8, 1, 0, 0, 0, []), (1, 1, 0, 0, 0, 0, []), (2, 8, 0, 0, 0, 0, []), (3, 72, 15, 71, 0, 822, []), (6, 25, 0, 0, 0, 0, []), (7, 63, 0, 0, 0, 0, []), (8, 50, 14, 0, 0, 6, []), (11, 14, 2, 0, 0, 0, []), (12, 1, 0, 0, 0, 1, []), (13, 83, 0, 0, 0, 0, []), (14, 1, 0, 0, 0, 0, []), (15, 83, 0, 0, 0, 0, [])]
def zc_139 : List (Nat × MI) := [(0, 8, 3, 0, 0, 0, []), (1, 1, 0, 0, 0, 0, []), (2, 8, 0, 0, 0, 0, []), (3, 6, 1, 0, 0, 0, []), (4, 6, 2, 0, 0, 0, []), (5, 72, 21, 72, 0, 846, []), (8, 63, 0, 0, 0, 0, []), (9, 50, 20, 0, 0, 11, []), (12, 15, 4, 0, 0, 0, []), (14, 1, 0, 0, 0, 1, []), (15, 83, 0, 0, 0, 0, []), (16, 15, 4, 0, 0, 0, []), (18, 1, 0, 0, 0, 2, []), (19, 83, 0, 0, 0, 0, []), (20, 1, 0, 0, 0, 0, []), (21, 83, 0, 0, 0, 0, [])]
def zc_140 : List (Nat × MI) := [(0, 8, 3, 0, 0, 0, []), (1, 1, 0, 0, 0, 0, []), (2, 8, 0, 0, 0, 0, []), (3, 6, 1, 0, 0, 0, []), (4, 6, 2, 0, 0, 0, []), (5, 72, 29, 73, 0, 884, []), (8, 25, 0, 0, 0, 0, []), (9, 63, 0, 0, 0, 0, []), (10, 50, 17, 0, 0, 7, []), (13, 15, 4, 0, 0, 0, []), (15, 1, 0, 0, 0, 1, []), (16, 83, 0, 0, 0, 0, []), (17, 1, 0, 0, 0, 0, []), (18, 83, 0, 0, 0, 0, [])]
def zc_141 : List (Nat × MI) := [(0, 8, 2, 0, 0, 0, []), (1, 1, 0, 0, 0, 0, []), (2, 8, 0, 0, 0, 0, []), (3, 6, 1, 0, 0, 0, []), (4, 72, 33, 76, 0, 893, []), (7, 25, 0, 0, 0, 0, []), (8, 63, 0, 0, 0, 0, []), (9, 50, 15, 0, 0, 6, []), (12, 14, 3, 0, 0, 0, []), (13, 1, 0, 0, 0, 1, []), (14, 83, 0, 0, 0, 0, []), (15, 1, 0, 0, 0, 0, []), (16, 83, 0, 0, 0, 0, [])]
def zc_142 : List (Nat × MI) := [(0, 8, 2, 0, 0, 0, []), (1, 1, 0, 0, 0, 0, []), (2, 8, 0, 0, 0, 0, []), (3, 6, 1, 0, 0, 0, []), (4, 72, 37, 78, 0, 904, []), (7, 25, 0, 0, 0, 0, []), (8, 63, 0, 0, 0, 0, []), (9, 50, 15, 0, 0, 6, []), (12, 14, 3, 0, 0, 0, []), (13, 1, 0, 0, 0, 1, []), (14, 83, 0, 0, 0, 0, []), (15, 1, 0, 0, 0, 0, []), (16, 83, 0, 0, 0, 0, [])]
def zc_143 : List (Nat × MI) := [(0, 8, 3, 0, 0, 0, []), (1, 1, 0, 0, 0, 0, []), (2, 8, 0, 0, 0, 0, []), (3, 6, 1, 0, 0, 0, []), (4, 6, 2, 0, 0, 0, []), (5, 72, 40, 79, 0, 911, []), (8, 25, 0, 0, 0, 0, []), (9, 63, 0, 0, 0, 0, []), (10, 50, 21, 0, 0, 11, []), (13, 15, 4, 0, 0, 0, []), (15, 1, 0, 0, 0, 1, []), (16, 83, 0, 0, 0, 0, []), (17, 15, 4, 0, 0, 0, []), (19, 1, 0, 0, 0, 2, []), (20, 83, 0, 0, 0, 0, []), (21, 1, 0, 0, 0, 0, []), (22, 83, 0, 0, 0, 0, [])]
def zc_144 : List (Nat × MI) := [(0, 8, 2, 0, 0, 0, []), (1, 1, 0, 0, 0, 0, []), (2, 8, 0, 0, 0, 0, []), (3, 6, 1, 0, 0, 0, []), (4, 72, 43, 80, 0, 919, []), (7, 36, 14, 0, 0, 7, []), (10, 4, 1, 0, 0, 1, []), (11, 50, 15, 0, 0, 4, []), (14, 4, 0, 0, 0, 0, []), (15, 63, 0, 0, 0, 0, []), (16, 50, 22, 0, 0, 6, []), (19, 14, 3, 0, 0, 0, []), (20, 1, 0, 0, 0, 1, []), (21, 83, 0, 0, 0, 0, []), (22, 1, 0, 0, 0, 0, []), (23, 83, 0, 0, 0, 0, [])]
def zc_145 : List (Nat × MI) := [(0, 8, 2, 0, 0, 0, []), (1, 1, 0, 0, 0, 0, []), (2, 8, 0, 0, 0, 0, []), (3, 6, 1, 0, 0, 0, []), (4, 72, 47, 81, 0, 926, []), (7, 25, 0, 0, 0, 0, []), (8, 63, 0, 0, 0, 0, []), (9, 50, 15, 0, 0, 6, []), (12, 14, 3, 0, 0, 0, []), (13, 1, 0, 0, 0, 1, []), (14, 83, 0, 0, 0, 0, []), (15, 1, 0, 0, 0, 0, []), (16, 83, 0, 0, 0, 0, [])]
def zc_146 : List (Nat × MI) := [(0, 8, 2, 0, 0, 0, []), (1, 1, 0, 0, 0, 0, []), (2, 8, 0, 0, 0, 0, []), (3, 6, 1, 0, 0, 0, []), (4, 72, 50, 83, 0, 933, []), (7, 25, 0, 0, 0, 0, []), (8, 63, 0, 0, 0, 0, []), (9, 50, 15, 0, 0, 6, []), (12, 14, 3, 0, 0, 0, []), (13, 1, 0, 0, 0, 1, []), (14, 83, 0, 0, 0, 0, []), (15, 1, 0, 0, 0, 0, []), (16, 83, 0, 0, 0, 0, [])]
def zc_147 : List (Nat × MI) := [(0, 69, 8, 8, 0, 24, []), (3, 33, 0, 0, 0, 0, []), (4, 73, 53, 69, 0, 26, []), (7, 14, 1, 0, 0, 0, []), (8, 69, 54, 9, 0, 941, []), (11, 33, 0, 0, 0, 0, []), (12, 73, 56, 85, 0, 943, []), (15, 14, 2, 0, 0, 0, []), (16, 1, 0, 0, 0, 1, []), (17, 67, 3, 0, 0, 0, []), (19, 14, 3, 0, 0, 0, []), (20, 1, 0, 0, 0, 0, []), (21, 13, 4, 0, 0, 0, []), (23, 7, 4, 0, 0, 0, []), (25, 8, 0, 0, 0, 0, []), (26, 66, 0, 0, 0, 0, []), (27, 1, 0, 0, 0, 3, []), (28, 20, 0, 0, 0, 0, []), (29, 46, 738, 0, 0, 709, []), (32, 8, 0, 0, 0, 0, []), (33, 7, 4, 0, 0, 0, []), (35, 58, 0, 0, 0, 0, []), (36, 2, 0, 0, 0, 15, []), (38, 24, 0, 0, 0, 0, []), (39, 51, 732, 69, 0, 0, [(0, 108), (1, 146), (2, 190), (3, 257), (4, 325), (5, 338), (6, 351), (7, 407), (8, 420), (9, 476), (10, 544), (11, 607), (12, 663), (13, 676)]), (108, 8, 1, 0, 0, 0, []), (109, 8, 0, 0, 0, 0, []), (110, 7, 4, 0, 0, 0, []), (112, 1, 0, 0, 0, 1, []), (113, 19, 0, 0, 0, 0, []), (114, 58, 0, 0, 0, 0, []), (115, 27, 0, 0, 0, 0, []), (116, 75, 57, 137, 0, 746, []), (119, 13, 5, 0, 0, 0, []), (121, 8, 2, 0, 0, 0, []), (122, 8, 0, 0, 0, 0, []), (123, 7, 4, 0, 0, 0, []), (125, 1, 0, 0, 0, 1, []), (126, 19, 0, 0, 0, 0, []), (127, 58, 0, 0, 0, 0, []), (128, 27, 0, 0, 0, 0, []), (129, 72, 62, 87, 0, 1120, []), (132, 8, 2, 0, 0, 0, []), (133, 72, 63, 86, 0, 1116, []), (136, 7, 5, 0, 0, 0, []), (138, 42, 143, 0, 0, 5, []), (141, 1, 0, 0, 0, 0, []), (142, 83, 0, 0, 0, 0, []), (143, 50, 732, 0, 0, 589, []), (146, 8, 1, 0, 0, 0, []), (147, 8, 3, 0, 0, 0, []), (148, 75, 66, 138, 0, 818, []), (151, 13, 5, 0, 0, 0, []), (153, 8, 2, 0, 0, 0, []), (154, 72, 69, 118, 0, 1124, []), (157, 13, 6, 0, 0, 0, []), (159, 8, 2, 0, 0, 0, []), (160, 72, 63, 86, 0, 1116, []), (163, 7, 5, 0, 0, 0, []), (165, 42, 170, 0, 0, 5, []), (168, 1, 0, 0, 0, 0, []), (169, 83, 0, 0, 0, 0, []), (170, 7, 5, 0, 0, 0, []), (172, 37, 187, 0, 0, 15, []), (175, 8, 3, 0, 0, 0, []), (176, 1, 0, 0, 0, 0, []), (177, 62, 0, 0, 0, 0, []), (178, 7, 6, 0, 0, 0, []), (180, 25, 0, 0, 0, 0, []), (181, 28, 0, 0, 0, 0, []), (182, 36, 187, 0, 0, 5, []), (185, 1, 0, 0, 0, 0, []), (186, 83, 0, 0, 0, 0, []), (187, 50, 732, 0, 0, 545, []), (190, 8, 1, 0, 0, 0, []), (191, 8, 0, 0, 0, 0, []), (192, 7, 4, 0, 0, 0, []), (194, 1, 0, 0, 0, 1, []), (195, 19, 0, 0, 0, 0, []), (196, 58, 0, 0, 0, 0, []), (197, 8, 0, 0, 0, 0, []), (198, 7, 4, 0, 0, 0, []), (200, 1, 0, 0, 0, 2, []), (201, 19, 0, 0, 0, 0, []), (202, 58, 0, 0, 0, 0, []), (203, 8, 3, 0, 0, 0, []), (204, 75, 70, 139, 0, 841, []), (207, 13, 5, 0, 0, 0, []), (209, 8, 2, 0, 0, 0, []), (210, 8, 0, 0, 0, 0, []), (211, 7, 4, 0, 0, 0, []), (213, 1, 0, 0, 0, 1, []), (214, 19, 0, 0, 0, 0, []), (215, 58, 0, 0, 0, 0, []), (216, 8, 0, 0, 0, 0, []), (217, 7, 4, 0, 0, 0, []), (219, 1, 0, 0, 0, 2, []), (220, 19, 0, 0, 0, 0, []), (221, 58, 0, 0, 0, 0, []), (222, 72, 73, 120, 0, 1267, []), (225, 17, 6, 0, 0, 0, []), (227, 8, 2, 0, 0, 0, []), (228, 72, 63, 86, 0, 1116, []), (231, 7, 5, 0, 0, 0, []), (233, 42, 238, 0, 0, 5, []), (236, 1, 0, 0, 0, 0, []), (237, 83, 0, 0, 0, 0, []), (238, 7, 5, 0, 0, 0, []), (240, 37, 254, 0, 0, 14, []), (243, 8, 3, 0, 0, 0, []), (244, 1, 0, 0, 0, 0, []), (245, 62, 0, 0, 0, 0, []), (246, 11, 6, 0, 0, 0, []), (248, 28, 0, 0, 0, 0, []), (249, 36, 254, 0, 0, 5, []), (252, 1, 0, 0, 0, 0, []), (253, 83, 0, 0, 0, 0, []), (254, 50, 732, 0, 0, 478, []), (257, 8, 1, 0, 0, 0, []), (258, 8, 0, 0, 0, 0, []), (259, 7, 4, 0, 0, 0, []), (261, 1, 0, 0, 0, 1, []), (262, 19, 0, 0, 0, 0, []), (263, 58, 0, 0, 0, 0, []), (264, 8, 0, 0, 0, 0, []), (265, 7, 4, 0, 0, 0, []), (267, 1, 0, 0, 0, 2, []), (268, 19, 0, 0, 0, 0, []), (269, 58, 0, 0, 0, 0, []), (270, 8, 3, 0, 0, 0, []), (271, 75, 74, 140, 0, 881, []), (274, 13, 5, 0, 0, 0, []), (276, 8, 2, 0, 0, 0, []), (277, 8, 0, 0, 0, 0, []), (278, 7, 4, 0, 0, 0, []), (280, 1, 0, 0, 0, 1, []), (281, 19, 0, 0, 0, 0, []), (282, 58, 0, 0, 0, 0, []), (283, 8, 0, 0, 0, 0, []), (284, 7, 4, 0, 0, 0, []), (286, 1, 0, 0, 0, 2, []), (287, 19, 0, 0, 0, 0, []), (288, 58, 0, 0, 0, 0, []), (289, 72, 76, 121, 0, 1275, []), (292, 13, 6, 0, 0, 0, []), (294, 8, 2, 0, 0, 0, []), (295, 72, 63, 86, 0, 1116, []), (298, 7, 5, 0, 0, 0, []), (300, 42, 305, 0, 0, 5, []), (303, 1, 0, 0, 0, 0, []), (304, 83, 0, 0, 0, 0, []), (305, 7, 5, 0, 0, 0, []), (307, 37, 322, 0, 0, 15, []), (310, 8, 3, 0, 0, 0, []), (311, 1, 0, 0, 0, 0, []), (312, 62, 0, 0, 0, 0, []), (313, 7, 6, 0, 0, 0, []), (315, 25, 0, 0, 0, 0, []), (316, 28, 0, 0, 0, 0, []), (317, 36, 322, 0, 0, 5, []), (320, 1, 0, 0, 0, 0, []), (321, 83, 0, 0, 0, 0, []), (322, 50, 732, 0, 0, 410, []), (325, 8, 1, 0, 0, 0, []), (326, 72, 77, 74, 0, 381, []), (329, 8, 2, 0, 0, 0, []), (330, 72, 80, 122, 0, 1279, []), (333, 42, 732, 0, 0, 399, []), (336, 1, 0, 0, 0, 0, []), (337, 83, 0, 0, 0, 0, []), (338, 8, 1, 0, 0, 0, []), (339, 72, 81, 75, 0, 385, []), (342, 8, 2, 0, 0, 0, []), (343, 72, 84, 123, 0, 1283, []), (346, 42, 732, 0, 0, 386, []), (349, 1, 0, 0, 0, 0, []), (350, 83, 0, 0, 0, 0, []), (351, 8, 1, 0, 0, 0, []), (352, 8, 0, 0, 0, 0, []), (353, 7, 4, 0, 0, 0, []), (355, 1, 0, 0, 0, 1, []), (356, 19, 0, 0, 0, 0, []), (357, 58, 0, 0, 0, 0, []), (358, 8, 3, 0, 0, 0, []), (359, 75, 85, 141, 0, 890, []), (362, 13, 5, 0, 0, 0, []), (364, 8, 2, 0, 0, 0, []), (365, 8, 0, 0, 0, 0, []), (366, 7, 4, 0, 0, 0, []), (368, 1, 0, 0, 0, 1, []), (369, 19, 0, 0, 0, 0, []), (370, 58, 0, 0, 0, 0, []), (371, 72, 88, 124, 0, 1287, []), (374, 13, 6, 0, 0, 0, []), (376, 8, 2, 0, 0, 0, []), (377, 72, 63, 86, 0, 1116, []), (380, 7, 5, 0, 0, 0, []), (382, 42, 387, 0, 0, 5, []), (385, 1, 0, 0, 0, 0, []), (386, 83, 0, 0, 0, 0, []), (387, 7, 5, 0, 0, 0, []), (389, 37, 404, 0, 0, 15, []), (392, 8, 3, 0, 0, 0, []), (393, 1, 0, 0, 0, 0, []), (394, 62, 0, 0, 0, 0, []), (395, 7, 6, 0, 0, 0, []), (397, 25, 0, 0, 0, 0, []), (398, 28, 0, 0, 0, 0, []), (399, 36, 404, 0, 0, 5, []), (402, 1, 0, 0, 0, 0, []), (403, 83, 0, 0, 0, 0, []), (404, 50, 732, 0, 0, 328, []), (407, 8, 1, 0, 0, 0, []), (408, 72, 89, 77, 0, 389, []), (411, 8, 2, 0, 0, 0, []), (412, 72, 92, 125, 0, 1291, []), (415, 42, 732, 0, 0, 317, []), (418, 1, 0, 0, 0, 0, []), (419, 83, 0, 0, 0, 0, []), (420, 8, 1, 0, 0, 0, []), (421, 8, 0, 0, 0, 0, []), (422, 7, 4, 0, 0, 0, []), (424, 1, 0, 0, 0, 1, []), (425, 19, 0, 0, 0, 0, []), (426, 58, 0, 0, 0, 0, []), (427, 8, 3, 0, 0, 0, []), (428, 75, 93, 142, 0, 901, []), (431, 13, 5, 0, 0, 0, []), (433, 8, 2, 0, 0, 0, []), (434, 8, 0, 0, 0, 0, []), (435, 7, 4, 0, 0, 0, []), (437, 1, 0, 0, 0, 1, []), (438, 19, 0, 0, 0, 0, []), (439, 58, 0, 0, 0, 0, []), (440, 72, 95, 126, 0, 1295, []), (443, 13, 6, 0, 0, 0, []), (445, 8, 2, 0, 0, 0, []), (446, 72, 63, 86, 0, 1116, []), (449, 7, 5, 0, 0, 0, []), (451, 42, 456, 0, 0, 5, []), (454, 1, 0, 0, 0, 0, []), (455, 83, 0, 0, 0, 0, []), (456, 7, 5, 0, 0, 0, []), (458, 37, 473, 0, 0, 15, []), (461, 8, 3, 0, 0, 0, []), (462, 1, 0, 0, 0, 0, []), (463, 62, 0, 0, 0, 0, []), (464, 7, 6, 0, 0, 0, []), (466, 25, 0, 0, 0, 0, []), (467, 28, 0, 0, 0, 0, []), (468, 36, 473, 0, 0, 5, []), (471, 1, 0, 0, 0, 0, []), (472, 83, 0, 0, 0, 0, []), (473, 50, 732, 0, 0, 259, []), (476, 8, 1, 0, 0, 0, []), (477, 8, 0, 0, 0, 0, []), (478, 7, 4, 0, 0, 0, []), (480, 1, 0, 0, 0, 1, []), (481, 19, 0, 0, 0, 0, []), (482, 58, 0, 0, 0, 0, []), (483, 8, 0, 0, 0, 0, []), (484, 7, 4, 0, 0, 0, []), (486, 1, 0, 0, 0, 2, []), (487, 19, 0, 0, 0, 0, []), (488, 58, 0, 0, 0, 0, []), (489, 8, 3, 0, 0, 0, []), (490, 75, 96, 143, 0, 908, []), (493, 13, 5, 0, 0, 0, []), (495, 8, 2, 0, 0, 0, []), (496, 8, 0, 0, 0, 0, []), (497, 7, 4, 0, 0, 0, []), (499, 1, 0, 0, 0, 1, []), (500, 19, 0, 0, 0, 0, []), (501, 58, 0, 0, 0, 0, []), (502, 8, 0, 0, 0, 0, []), (503, 7, 4, 0, 0, 0, []), (505, 1, 0, 0, 0, 2, []), (506, 19, 0, 0, 0, 0, []), (507, 58, 0, 0, 0, 0, []), (508, 72, 98, 127, 0, 1299, []), (511, 13, 6, 0, 0, 0, []), (513, 8, 2, 0, 0, 0, []), (514, 72, 63, 86, 0, 1116, []), (517, 7, 5, 0, 0, 0, []), (519, 42, 524, 0, 0, 5, []), (522, 1, 0, 0, 0, 0, []), (523, 83, 0, 0, 0, 0, []), (524, 7, 5, 0, 0, 0, []), (526, 37, 541, 0, 0, 15, []), (529, 8, 3, 0, 0, 0, []), (530, 1, 0, 0, 0, 0, []), (531, 62, 0, 0, 0, 0, []), (532, 7, 6, 0, 0, 0, []), (534, 25, 0, 0, 0, 0, []), (535, 28, 0, 0, 0, 0, []), (536, 36, 541, 0, 0, 5, []), (539, 1, 0, 0, 0, 0, []), (540, 83, 0, 0, 0, 0, []), (541, 50, 732, 0, 0, 191, []), (544, 8, 1, 0, 0, 0, []), (545, 8, 0, 0, 0, 0, []), (546, 7, 4, 0, 0, 0, []), (548, 1, 0, 0, 0, 1, []), (549, 19, 0, 0, 0, 0, []), (550, 58, 0, 0, 0, 0, []), (551, 8, 3, 0, 0, 0, []), (552, 75, 99, 144, 0, 916, []), (555, 13, 5, 0, 0, 0, []), (557, 8, 2, 0, 0, 0, []), (558, 8, 0, 0, 0, 0, []), (559, 7, 4, 0, 0, 0, []), (561, 1, 0, 0, 0, 1, []), (562, 19, 0, 0, 0, 0, []), (563, 58, 0, 0, 0, 0, []), (564, 72, 101, 128, 0, 1303, []), (567, 13, 6, 0, 0, 0, []), (569, 8, 2, 0, 0, 0, []), (570, 72, 63, 86, 0, 1116, []), (573, 7, 5, 0, 0, 0, []), (575, 42, 580, 0, 0, 5, []), (578, 1, 0, 0, 0, 0, []), (579, 83, 0, 0, 0, 0, []), (580, 7, 5, 0, 0, 0, []), (582, 37, 604, 0, 0, 22, []), (585, 8, 3, 0, 0, 0, []), (586, 1, 0, 0, 0, 0, []), (587, 62, 0, 0, 0, 0, []), (588, 7, 6, 0, 0, 0, []), (590, 36, 597, 0, 0, 7, []), (593, 4, 1, 0, 0, 1, []), (594, 50, 598, 0, 0, 4, []), (597, 4, 0, 0, 0, 0, []), (598, 28, 0, 0, 0, 0, []), (599, 36, 604, 0, 0, 5, []), (602, 1, 0, 0, 0, 0, []), (603, 83, 0, 0, 0, 0, []), (604, 50, 732, 0, 0, 128, []), (607, 8, 1, 0, 0, 0, []), (608, 8, 0, 0, 0, 0, []), (609, 7, 4, 0, 0, 0, []), (611, 1, 0, 0, 0, 1, []), (612, 19, 0, 0, 0, 0, []), (613, 58, 0, 0, 0, 0, []), (614, 8, 3, 0, 0, 0, []), (615, 75, 102, 145, 0, 923, []), (618, 13, 5, 0, 0, 0, []), (620, 8, 2, 0, 0, 0, []), (621, 8, 0, 0, 0, 0, []), (622, 7, 4, 0, 0, 0, []), (624, 1, 0, 0, 0, 1, []), (625, 19, 0, 0, 0, 0, []), (626, 58, 0, 0, 0, 0, []), (627, 72, 104, 129, 0, 1307, []), (630, 13, 6, 0, 0, 0, []), (632, 8, 2, 0, 0, 0, []), (633, 72, 63, 86, 0, 1116, []), (636, 7, 5, 0, 0, 0, []), (638, 42, 643, 0, 0, 5, []), (641, 1, 0, 0, 0, 0, []), (642, 83, 0, 0, 0, 0, []), (643, 7, 5, 0, 0, 0, []), (645, 37, 660, 0, 0, 15, []), (648, 8, 3, 0, 0, 0, []), (649, 1, 0, 0, 0, 0, []), (650, 62, 0, 0, 0, 0, []), (651, 7, 6, 0, 0, 0, []), (653, 25, 0, 0, 0, 0, []), (654, 28, 0, 0, 0, 0, []), (655, 36, 660, 0, 0, 5, []), (658, 1, 0, 0, 0, 0, []), (659, 83, 0, 0, 0, 0, []), (660, 50, 732, 0, 0, 72, []), (663, 8, 1, 0, 0, 0, []), (664, 72, 105, 82, 0, 393, []), (667, 8, 2, 0, 0, 0, []), (668, 72, 108, 135, 0, 1311, []), (671, 42, 732, 0, 0, 61, []), (674, 1, 0, 0, 0, 0, []), (675, 83, 0, 0, 0, 0, []), (676, 8, 1, 0, 0, 0, []), (677, 8, 0, 0, 0, 0, []), (678, 7, 4, 0, 0, 0, []), (680, 1, 0, 0, 0, 1, []), (681, 19, 0, 0, 0, 0, []), (682, 58, 0, 0, 0, 0, []), (683, 8, 3, 0, 0, 0, []), (684, 75, 109, 146, 0, 930, []), (687, 13, 5, 0, 0, 0, []), (689, 8, 2, 0, 0, 0, []), (690, 8, 0, 0, 0, 0, []), (691, 7, 4, 0, 0, 0, []), (693, 1, 0, 0, 0, 1, []), (694, 19, 0, 0, 0, 0, []), (695, 58, 0, 0, 0, 0, []), (696, 72, 111, 136, 0, 1348, []), (699, 13, 6, 0, 0, 0, []), (701, 8, 2, 0, 0, 0, []), (702, 72, 63, 86, 0, 1116, []), (705, 7, 5, 0, 0, 0, []), (707, 42, 712, 0, 0, 5, []), (710, 1, 0, 0, 0, 0, []), (711, 83, 0, 0, 0, 0, []), (712, 7, 5, 0, 0, 0, []), (714, 37, 729, 0, 0, 15, []), (717, 8, 3, 0, 0, 0, []), (718, 1, 0, 0, 0, 0, []), (719, 62, 0, 0, 0, 0, []), (720, 7, 6, 0, 0, 0, []), (722, 25, 0, 0, 0, 0, []), (723, 28, 0, 0, 0, 0, []), (724, 36, 729, 0, 0, 5, []), (727, 1, 0, 0, 0, 0, []), (728, 83, 0, 0, 0, 0, []), (729, 50, 732, 0, 0, 3, []), (732, 18, 4, 0, 0, 3, []), (735, 50, 23, 0, 0, (-712), []), (738, 1, 0, 0, 0, 1, []), (739, 83, 0, 0, 0, 0, [])]
def zcL : List (List (Nat × MI)) := [zc_0, zc_1, zc_2, zc_3, zc_4, zc_5, zc_6, zc_7, zc_8, zc_9, zc_10, zc_11, zc_12, zc_13, zc_14, zc_15, zc_16, zc_17, zc_18, zc_19, zc_20, zc_21, zc_22, zc_23, zc_24, zc_25, zc_26, zc_27, zc_28, zc_29, zc_30, zc_31, zc_32, zc_33, zc_34, zc_35, zc_36, zc_37, zc_38, zc_39, zc_40, zc_41, zc_42, zc_43, zc_44, zc_45, zc_46, zc_47, zc_48, zc_49, zc_50, zc_51, zc_52, zc_53, zc_54, zc_55, zc_56, zc_57, zc_58, zc_59, zc_60, zc_61, zc_62, zc_63, zc_64, zc_65, zc_66, zc_67, zc_68, zc_69, zc_70, zc_71, zc_72, zc_73, zc_74, zc_75, zc_76, zc_77, zc_78, zc_79, zc_80, zc_81, zc_82, zc_83, zc_84, zc_85, zc_86, zc_87, zc_88, zc_89, zc_90, zc_91, zc_92, zc_93, zc_94, zc_95, zc_96, zc_97, zc_98, zc_99, zc_100, zc_101, zc_102, zc_103, zc_104, zc_105, zc_106, zc_107, zc_108, zc_109, zc_110, zc_111, zc_112, zc_113, zc_114, zc_115, zc_116, zc_117, zc_118, zc_119, zc_120, zc_121, zc_122, zc_123, zc_124, zc_125, zc_126, zc_127, zc_128, zc_129, zc_130, zc_131, zc_132, zc_133, zc_134, zc_135, zc_136, zc_137, zc_138, zc_139, zc_140, zc_141, zc_142, zc_143, zc_144, zc_145, zc_146, zc_147]
def zcode (m : Nat) : List (Nat × MI) := zcL.getD m []
def cod (m pc : Nat) : Option MI := (zcode m).lookup pc
end
section
/-! each mini instruction is the one that stands in the bytes, and its words stand in the tables: decided method by method -/
def zFin (a : Nat) : Fin 4 := if h : a < 4 then ⟨a, h⟩ else 0
def zat (a : Nat) : ArrayType := match a with
  | 0 => .int
  | 1 => .byte
  | 2 => .boolean
  | _ => .long
def dcd (pc : Nat) (i : MI) : Instr × Nat :=
  match i with
  | (op, a, b, c, z, tb) =>
  match op with
  | 1 => (.iconst z, 1)
  | 2 => (.bipush z, 2)
  | 3 => (.sipush z, 3)
  | 4 => (.lconst (if a = 0 then 0 else 1), 1)
  | 5 => (.ldc2_w a, 3)
  | 6 => (.iload_n (zFin a), 1)
  | 7 => (.iload a, 2)
  | 8 => (.aload_n (zFin a), 1)
  | 9 => (.aload a, 2)
  | 10 => (.lload_n (zFin a), 1)
  | 11 => (.lload a, 2)
  | 12 => (.istore_n (zFin a), 1)
  | 13 => (.istore a, 2)
  | 14 => (.astore_n (zFin a), 1)
  | 15 => (.astore a, 2)
  | 16 => (.lstore_n (zFin a), 1)
  | 17 => (.lstore a, 2)
  | 18 => (.iinc a z, 3)
  | 19 => (.iadd, 1)
  | 20 => (.isub, 1)
  | 21 => (.imul, 1)
  | 22 => (.idiv, 1)
  | 23 => (.irem, 1)
  | 24 => (.iand, 1)
  | 25 => (.i2l, 1)
  | 26 => (.l2i, 1)
  | 27 => (.i2b, 1)
  | 28 => (.lcmp, 1)
  | 29 => (.ldiv, 1)
  | 30 => (.lrem, 1)
  | 31 => (.lshr, 1)
  | 32 => (.land, 1)
  | 33 => (.dup, 1)
  | 34 => (.dup2, 1)
  | 35 => (.pop, 1)
  | 36 => (.ifCond .eq z, 3)
  | 37 => (.ifCond .ne z, 3)
  | 38 => (.ifCond .lt z, 3)
  | 39 => (.ifCond .ge z, 3)
  | 40 => (.ifCond .gt z, 3)
  | 41 => (.ifCond .le z, 3)
  | 42 => (.if_icmp .eq z, 3)
  | 43 => (.if_icmp .ne z, 3)
  | 44 => (.if_icmp .lt z, 3)
  | 45 => (.if_icmp .ge z, 3)
  | 46 => (.if_icmp .gt z, 3)
  | 47 => (.if_icmp .le z, 3)
  | 48 => (.ifnull z, 3)
  | 49 => (.ifnonnull z, 3)
  | 50 => (.goto z, 3)
  | 51 => (.tableswitch ((a : Int) - pc) z (z + (tb.length - 1 : Nat)) (tb.map fun q => (q.2 : Int) - pc).toArray, b)
  | 52 => (.lookupswitch ((a : Int) - pc) (tb.map fun q => (q.1, (q.2 : Int) - pc)).toArray, b)
  | 53 => (.getfield a, 3)
  | 54 => (.getfield a, 3)
  | 55 => (.putfield a, 3)
  | 56 => (.putfield a, 3)
  | 57 => (.putfield a, 3)
  | 58 => (.iaload, 1)
  | 59 => (.iastore, 1)
  | 60 => (.baload, 1)
  | 61 => (.bastore, 1)
  | 62 => (.laload, 1)
  | 63 => (.lastore, 1)
  | 64 => (.aaload, 1)
  | 65 => (.aastore, 1)
  | 66 => (.arraylength, 1)
  | 67 => (.newarray (zat a), 2)
  | 68 => (.anewarray a, 3)
  | 69 => (.new a, 3)
  | 70 => (.ldc a, 2)
  | 71 => (.aconst_null, 1)
  | 72 => (.invokevirtual a, 3)
  | 73 => (.invokespecial a, 3)
  | 74 => (.invokespecial a, 3)
  | 75 => (.invokestatic a, 3)
  | 76 => (.invokestatic a, 3)
  | 77 => (.invokespecial a, 3)
  | 78 => (.invokevirtual a, 3)
  | 79 => (.invokevirtual a, 3)
  | 80 => (.invokestatic a, 3)
  | 81 => (.invokestatic a, 3)
  | 82 => (.invokestatic a, 3)
  | 83 => (.ireturn, 1)
  | 84 => (.lreturn, 1)
  | 85 => (.areturn, 1)
  | 86 => (.return_, 1)
  | 87 => (.new a, 3)
  | 98 => (.athrow, 1)
  | _ => (.invokespecial a, 3)
def gW : List Cond := lw_tbl.filter goodWord
def inW (i : Nat) (w : Cond) : Bool := decide (lw_tbl[i]? = some w) && goodWord w
theorem inW_ok {i : Nat} {w : Cond} (h : inW i w = true) : w ∈ gW := by
  simp only [inW, Bool.and_eq_true, decide_eq_true_eq] at h
  exact List.mem_filter.mpr ⟨List.mem_of_getElem? h.1, h.2⟩
def inV (i : Nat) (w : Cond) : Bool := decide (lw_tbl[i]? = some w)
theorem inV_ok {i : Nat} {w : Cond} (h : inV i w = true) : w ∈ lw_tbl := List.mem_of_getElem? (of_decide_eq_true h)
def zNest : Cond → Bool
  | .fieldLinkNest _ _ _ _ _ _ => true
  | .methodLinkNest _ _ _ _ => true
  | .castable _ _ => true
  | .declares _ => true
  | _ => false
def nW : List Cond := lw_tbl.filter zNest
def inN (i : Nat) (w : Cond) : Bool := decide (lw_tbl[i]? = some w) && zNest w
theorem inN_ok {i : Nat} {w : Cond} (h : inN i w = true) : w ∈ nW := by
  simp only [inN, Bool.and_eq_true, decide_eq_true_eq] at h
  exact List.mem_filter.mpr ⟨List.mem_of_getElem? h.1, h.2⟩
def zex (k : Nat) : String := match k with
  | 0 => "java/lang/UnsupportedOperationException"
  | 1 => "java/lang/IllegalStateException"
  | 2 => "java/util/NoSuchElementException"
  | _ => "java/lang/IndexOutOfBoundsException"
def wck (own : String) (i : MI) : Bool :=
  match i with
  | (op, a, b, c, z, tb) =>
  match op with
  | 5 => inW (66 + b) (.constantLong own a (Int64.ofInt z)) && decide (-9223372036854775808 ≤ z ∧ z < 9223372036854775808)
  | 53 => inW (66 + z.toNat) (.fieldLink own a (zfD b c).1 (zfD b c).2.1 (zfD b c).2.2.1) && decide (c < znF b ∧ b < 10)
  | 54 => inN (66 + z.toNat) (.fieldLinkNest own a (zfD b c).1 (zfD b c).2.1 (zfD b c).2.2.1 "RepairScan") && decide (c < znF b ∧ b < 10)
  | 55 => inW (66 + z.toNat) (.fieldLink own a (zfD b c).1 (zfD b c).2.1 (zfD b c).2.2.1) && decide (c < znF b ∧ b < 10 ∧ (zfD b c).2.2.2 = false)
  | 56 => inN (66 + z.toNat) (.fieldLinkNest own a (zfD b c).1 (zfD b c).2.1 (zfD b c).2.2.1 "RepairScan") && decide (c < znF b ∧ b < 10 ∧ (zfD b c).2.2.2 = false)
  | 57 => inW (66 + z.toNat) (.fieldLink own a (zfD b c).1 (zfD b c).2.1 (zfD b c).2.2.1) && decide (c < znF b ∧ b < 10 ∧ (zfD b c).2.2.2 = true ∧ (zfD b c).1 = own)
  | 68 => inW (66 + b) (.classLink own a "RepairScan$Found")
  | 69 => inW (66 + z.toNat) (.classLink own a (zcn b)) && decide (b < 10)
  | 70 => decide ((zsoL.getD b ("", 0, "", 0)).1 = own ∧ (zsoL.getD b ("", 0, "", 0)).2.1 = a ∧ b < 25)
  | 72 => inW (66 + z.toNat) (.methodLink own a (zyn b)) && decide (zst b = false ∧ (zyn b).name ≠ "<init>" ∧ b < 147)
  | 73 => inW (66 + z.toNat) (.methodLink own a (zyn b)) && decide (zst b = false ∧ (zyn b).name = "<init>" ∧ b < 147)
  | 74 => inN (66 + z.toNat) (.methodLinkNest own a (zyn b) "RepairScan") && decide (zst b = false ∧ (zyn b).name = "<init>" ∧ b < 147)
  | 75 => inW (66 + z.toNat) (.methodLink own a (zyn b)) && decide (zst b = true ∧ b < 147)
  | 76 => inN (66 + z.toNat) (.methodLinkNest own a (zyn b) "RepairScan") && decide (zst b = true ∧ b < 147)
  | 77 => inW (66 + z.toNat) (.methodLink own a objectInit)
  | 78 => inW (66 + z.toNat) (.methodLink own a ⟨"java/lang/String", "length", "()I"⟩)
  | 79 => inW (66 + z.toNat) (.methodLink own a ⟨"java/lang/String", "charAt", "(I)C"⟩)
  | 80 => inW (66 + z.toNat) (.methodLink own a Lib.Math.max.name)
  | 81 => inW (66 + z.toNat) (.methodLink own a Lib.Math.min.name)
  | 82 => inW (66 + z.toNat) (.methodLink own a arraycopyName)
  | 87 => inW (66 + z.toNat) (.classLink own a (zex b))
  | 99 => true
  | _ => true
def bck (pc : Nat) (i : MI) : Bool :=
  match i with
  | (op, a, b, c, z, tb) =>
  if op = 1 then decide (-128 ≤ z ∧ z < 128) else if op = 2 then decide (-128 ≤ z ∧ z < 128) else if op = 3 then decide (-32768 ≤ z ∧ z < 32768) else if op = 4 then decide (a < 2 ∧ z = a)
  else if op ≤ 17 then (decide (op % 2 = 1) || decide (op = 4) || decide (a < 4)) else if op = 18 then decide (-128 ≤ z ∧ z < 128) else if op ≤ 35 then true else if op ≤ 50 then decide ((pc : Int) + z = a)
  else if op = 51 then decide (tb.length ≠ 0) && (List.range tb.length).all (fun k => decide ((tb[k]?).map (·.1) = some (z + k))) else if op = 52 then (tb.zip (tb.drop 1)).all (fun q => decide (q.1.1 < q.2.1)) else true
def zck (m : Nat) (q : Nat × MI) : Bool := decide (decode (zby m) q.1 = .ok (dcd q.1 q.2)) && wck (zyn m).cls q.2 && bck q.1 q.2
theorem zk_0 : (zc_0).all (zck 0) = true := by decide +kernel
theorem zk_1 : (zc_1).all (zck 1) = true := by decide +kernel
theorem zk_2 : (zc_2).all (zck 2) = true := by decide +kernel
theorem zk_3 : (zc_3).all (zck 3) = true := by decide +kernel
theorem zk_4 : (zc_4).all (zck 4) = true := by decide +kernel
theorem zk_5 : (zc_5).all (zck 5) = true := by decide +kernel
theorem zk_6 : (zc_6).all (zck 6) = true := by decide +kernel
theorem zk_7 : (zc_7).all (zck 7) = true := by decide +kernel
theorem zk_8 : (zc_8).all (zck 8) = true := by decide +kernel
theorem zk_9 : (zc_9).all (zck 9) = true := by decide +kernel
theorem zk_10 : (zc_10).all (zck 10) = true := by decide +kernel
theorem zk_11 : (zc_11).all (zck 11) = true := by decide +kernel
theorem zk_12 : (zc_12).all (zck 12) = true := by decide +kernel
theorem zk_13 : (zc_13).all (zck 13) = true := by decide +kernel
theorem zk_14 : (zc_14).all (zck 14) = true := by decide +kernel
theorem zk_15 : (zc_15).all (zck 15) = true := by decide +kernel
theorem zk_16 : (zc_16).all (zck 16) = true := by decide +kernel
theorem zk_17 : (zc_17).all (zck 17) = true := by decide +kernel
theorem zk_18 : (zc_18).all (zck 18) = true := by decide +kernel
theorem zk_19 : (zc_19).all (zck 19) = true := by decide +kernel
theorem zk_20 : (zc_20).all (zck 20) = true := by decide +kernel
theorem zk_21 : (zc_21).all (zck 21) = true := by decide +kernel
theorem zk_22 : (zc_22).all (zck 22) = true := by decide +kernel
theorem zk_23 : (zc_23).all (zck 23) = true := by decide +kernel
theorem zk_24 : (zc_24).all (zck 24) = true := by decide +kernel
theorem zk_25 : (zc_25).all (zck 25) = true := by decide +kernel
theorem zk_26 : (zc_26).all (zck 26) = true := by decide +kernel
theorem zk_27 : (zc_27).all (zck 27) = true := by decide +kernel
theorem zk_28 : (zc_28).all (zck 28) = true := by decide +kernel
theorem zk_29 : (zc_29).all (zck 29) = true := by decide +kernel
theorem zk_30 : (zc_30).all (zck 30) = true := by decide +kernel
theorem zk_31 : (zc_31).all (zck 31) = true := by decide +kernel
theorem zk_32 : (zc_32).all (zck 32) = true := by decide +kernel
theorem zk_33 : (zc_33).all (zck 33) = true := by decide +kernel
theorem zk_34 : (zc_34).all (zck 34) = true := by decide +kernel
theorem zk_35 : (zc_35).all (zck 35) = true := by decide +kernel
theorem zk_36 : (zc_36).all (zck 36) = true := by decide +kernel
theorem zk_37 : (zc_37).all (zck 37) = true := by decide +kernel
theorem zk_38 : (zc_38).all (zck 38) = true := by decide +kernel
theorem zk_39 : (zc_39).all (zck 39) = true := by decide +kernel
theorem zk_40 : (zc_40).all (zck 40) = true := by decide +kernel
theorem zk_41 : (zc_41).all (zck 41) = true := by decide +kernel
theorem zk_42 : (zc_42).all (zck 42) = true := by decide +kernel
theorem zk_43 : (zc_43).all (zck 43) = true := by decide +kernel
theorem zk_44 : (zc_44).all (zck 44) = true := by decide +kernel
theorem zk_45 : (zc_45).all (zck 45) = true := by decide +kernel
theorem zk_46 : (zc_46).all (zck 46) = true := by decide +kernel
theorem zk_47 : (zc_47).all (zck 47) = true := by decide +kernel
theorem zk_48 : (zc_48).all (zck 48) = true := by decide +kernel
theorem zk_49 : (zc_49).all (zck 49) = true := by decide +kernel
theorem zk_50 : (zc_50).all (zck 50) = true := by decide +kernel
theorem zk_51 : (zc_51).all (zck 51) = true := by decide +kernel
theorem zk_52 : (zc_52).all (zck 52) = true := by decide +kernel
theorem zk_53 : (zc_53).all (zck 53) = true := by decide +kernel
theorem zk_54 : (zc_54).all (zck 54) = true := by decide +kernel
theorem zk_55 : (zc_55).all (zck 55) = true := by decide +kernel
theorem zk_56 : (zc_56).all (zck 56) = true := by decide +kernel
theorem zk_57 : (zc_57).all (zck 57) = true := by decide +kernel
theorem zk_58 : (zc_58).all (zck 58) = true := by decide +kernel
theorem zk_59 : (zc_59).all (zck 59) = true := by decide +kernel
theorem zk_60 : (zc_60).all (zck 60) = true := by decide +kernel
theorem zk_61 : (zc_61).all (zck 61) = true := by decide +kernel
theorem zk_62 : (zc_62).all (zck 62) = true := by decide +kernel
theorem zk_63 : (zc_63).all (zck 63) = true := by decide +kernel
theorem zk_64 : (zc_64).all (zck 64) = true := by decide +kernel
theorem zk_65 : (zc_65).all (zck 65) = true := by decide +kernel
theorem zk_66 : (zc_66).all (zck 66) = true := by decide +kernel
theorem zk_67 : (zc_67).all (zck 67) = true := by decide +kernel
theorem zk_68 : (zc_68).all (zck 68) = true := by decide +kernel
theorem zk_69 : (zc_69).all (zck 69) = true := by decide +kernel
theorem zk_70 : (zc_70).all (zck 70) = true := by decide +kernel
theorem zk_71 : (zc_71).all (zck 71) = true := by decide +kernel
theorem zk_72 : (zc_72).all (zck 72) = true := by decide +kernel
theorem zk_73 : (zc_73).all (zck 73) = true := by decide +kernel
theorem zk_74 : (zc_74).all (zck 74) = true := by decide +kernel
theorem zk_75 : (zc_75).all (zck 75) = true := by decide +kernel
theorem zk_76 : (zc_76).all (zck 76) = true := by decide +kernel
theorem zk_77 : (zc_77).all (zck 77) = true := by decide +kernel
theorem zk_78 : (zc_78).all (zck 78) = true := by decide +kernel
theorem zk_79 : (zc_79).all (zck 79) = true := by decide +kernel
theorem zk_80 : (zc_80).all (zck 80) = true := by decide +kernel
theorem zk_81 : (zc_81).all (zck 81) = true := by decide +kernel
theorem zk_82 : (zc_82).all (zck 82) = true := by decide +kernel
theorem zk_83 : (zc_83).all (zck 83) = true := by decide +kernel
theorem zk_84 : (zc_84).all (zck 84) = true := by decide +kernel
theorem zk_85 : (zc_85).all (zck 85) = true := by decide +kernel
theorem zk_86 : (zc_86).all (zck 86) = true := by decide +kernel
theorem zk_87 : (zc_87).all (zck 87) = true := by decide +kernel
theorem zk_88 : (zc_88).all (zck 88) = true := by decide +kernel
theorem zk_89 : (zc_89).all (zck 89) = true := by decide +kernel
theorem zk_90 : (zc_90).all (zck 90) = true := by decide +kernel
theorem zk_91 : (zc_91).all (zck 91) = true := by decide +kernel
theorem zk_92 : (zc_92).all (zck 92) = true := by decide +kernel
theorem zk_93 : (zc_93).all (zck 93) = true := by decide +kernel
theorem zk_94 : (zc_94).all (zck 94) = true := by decide +kernel
theorem zk_95 : (zc_95).all (zck 95) = true := by decide +kernel
theorem zk_96 : (zc_96).all (zck 96) = true := by decide +kernel
theorem zk_97 : (zc_97).all (zck 97) = true := by decide +kernel
theorem zk_98 : (zc_98).all (zck 98) = true := by decide +kernel
theorem zk_99 : (zc_99).all (zck 99) = true := by decide +kernel
theorem zk_100 : (zc_100).all (zck 100) = true := by decide +kernel
theorem zk_101 : (zc_101).all (zck 101) = true := by decide +kernel
theorem zk_102 : (zc_102).all (zck 102) = true := by decide +kernel
theorem zk_103 : (zc_103).all (zck 103) = true := by decide +kernel
theorem zk_104 : (zc_104).all (zck 104) = true := by decide +kernel
theorem zk_105 : (zc_105).all (zck 105) = true := by decide +kernel
theorem zk_106 : (zc_106).all (zck 106) = true := by decide +kernel
theorem zk_107 : (zc_107).all (zck 107) = true := by decide +kernel
theorem zk_108 : (zc_108).all (zck 108) = true := by decide +kernel
theorem zk_109 : (zc_109).all (zck 109) = true := by decide +kernel
theorem zk_110 : (zc_110).all (zck 110) = true := by decide +kernel
theorem zk_111 : (zc_111).all (zck 111) = true := by decide +kernel
theorem zk_112 : (zc_112).all (zck 112) = true := by decide +kernel
theorem zk_113 : (zc_113).all (zck 113) = true := by decide +kernel
theorem zk_114 : (zc_114).all (zck 114) = true := by decide +kernel
theorem zk_115 : (zc_115).all (zck 115) = true := by decide +kernel
theorem zk_116 : (zc_116).all (zck 116) = true := by decide +kernel
theorem zk_117 : (zc_117).all (zck 117) = true := by decide +kernel
theorem zk_118 : (zc_118).all (zck 118) = true := by decide +kernel
theorem zk_119 : (zc_119).all (zck 119) = true := by decide +kernel
theorem zk_120 : (zc_120).all (zck 120) = true := by decide +kernel
theorem zk_121 : (zc_121).all (zck 121) = true := by decide +kernel
theorem zk_122 : (zc_122).all (zck 122) = true := by decide +kernel
theorem zk_123 : (zc_123).all (zck 123) = true := by decide +kernel
theorem zk_124 : (zc_124).all (zck 124) = true := by decide +kernel
theorem zk_125 : (zc_125).all (zck 125) = true := by decide +kernel
theorem zk_126 : (zc_126).all (zck 126) = true := by decide +kernel
theorem zk_127 : (zc_127).all (zck 127) = true := by decide +kernel
theorem zk_128 : (zc_128).all (zck 128) = true := by decide +kernel
theorem zk_129 : (zc_129).all (zck 129) = true := by decide +kernel
theorem zk_130 : (zc_130).all (zck 130) = true := by decide +kernel
theorem zk_131 : (zc_131).all (zck 131) = true := by decide +kernel
theorem zk_132 : (zc_132).all (zck 132) = true := by decide +kernel
theorem zk_133 : (zc_133).all (zck 133) = true := by decide +kernel
theorem zk_134 : (zc_134).all (zck 134) = true := by decide +kernel
theorem zk_135 : (zc_135).all (zck 135) = true := by decide +kernel
theorem zk_136 : (zc_136).all (zck 136) = true := by decide +kernel
theorem zk_137 : (zc_137).all (zck 137) = true := by decide +kernel
theorem zk_138 : (zc_138).all (zck 138) = true := by decide +kernel
theorem zk_139 : (zc_139).all (zck 139) = true := by decide +kernel
theorem zk_140 : (zc_140).all (zck 140) = true := by decide +kernel
theorem zk_141 : (zc_141).all (zck 141) = true := by decide +kernel
theorem zk_142 : (zc_142).all (zck 142) = true := by decide +kernel
theorem zk_143 : (zc_143).all (zck 143) = true := by decide +kernel
theorem zk_144 : (zc_144).all (zck 144) = true := by decide +kernel
theorem zk_145 : (zc_145).all (zck 145) = true := by decide +kernel
theorem zk_146 : (zc_146).all (zck 146) = true := by decide +kernel
theorem zk_147 : (zc_147).all (zck 147) = true := by decide +kernel
end
section
theorem zkA : ∀ m, m < 148 → (zcode m).all (zck m) = true := lt_s (lt_s (lt_s (lt_s (lt_s (lt_s (lt_s (lt_s (lt_s (lt_s (lt_s (lt_s (lt_s (lt_s (lt_s (lt_s (lt_s (lt_s (lt_s (lt_s (lt_s (lt_s (lt_s (lt_s (lt_s (lt_s (lt_s (lt_s (lt_s (lt_s (lt_s (lt_s (lt_s (lt_s (lt_s (lt_s (lt_s (lt_s (lt_s (lt_s (lt_s (lt_s (lt_s (lt_s (lt_s (lt_s (lt_s (lt_s (lt_s (lt_s (lt_s (lt_s (lt_s (lt_s (lt_s (lt_s (lt_s (lt_s (lt_s (lt_s (lt_s (lt_s (lt_s (lt_s (lt_s (lt_s (lt_s (lt_s (lt_s (lt_s (lt_s (lt_s (lt_s (lt_s (lt_s (lt_s (lt_s (lt_s (lt_s (lt_s (lt_s (lt_s (lt_s (lt_s (lt_s (lt_s (lt_s (lt_s (lt_s (lt_s (lt_s (lt_s (lt_s (lt_s (lt_s (lt_s (lt_s (lt_s (lt_s (lt_s (lt_s (lt_s (lt_s (lt_s (lt_s (lt_s (lt_s (lt_s (lt_s (lt_s (lt_s (lt_s (lt_s (lt_s (lt_s (lt_s (lt_s (lt_s (lt_s (lt_s (lt_s (lt_s (lt_s (lt_s (lt_s (lt_s (lt_s (lt_s (lt_s (lt_s (lt_s (lt_s (lt_s (lt_s (lt_s (lt_s (lt_s (lt_s (lt_s (lt_s (lt_s (lt_s (lt_s (lt_s (lt_s (lt_s (lt_s (lt_s (lt_0) zk_0) zk_1) zk_2) zk_3) zk_4) zk_5) zk_6) zk_7) zk_8) zk_9) zk_10) zk_11) zk_12) zk_13) zk_14) zk_15) zk_16) zk_17) zk_18) zk_19) zk_20) zk_21) zk_22) zk_23) zk_24) zk_25) zk_26) zk_27) zk_28) zk_29) zk_30) zk_31) zk_32) zk_33) zk_34) zk_35) zk_36) zk_37) zk_38) zk_39) zk_40) zk_41) zk_42) zk_43) zk_44) zk_45) zk_46) zk_47) zk_48) zk_49) zk_50) zk_51) zk_52) zk_53) zk_54) zk_55) zk_56) zk_57) zk_58) zk_59) zk_60) zk_61) zk_62) zk_63) zk_64) zk_65) zk_66) zk_67) zk_68) zk_69) zk_70) zk_71) zk_72) zk_73) zk_74) zk_75) zk_76) zk_77) zk_78) zk_79) zk_80) zk_81) zk_82) zk_83) zk_84) zk_85) zk_86) zk_87) zk_88) zk_89) zk_90) zk_91) zk_92) zk_93) zk_94) zk_95) zk_96) zk_97) zk_98) zk_99) zk_100) zk_101) zk_102) zk_103) zk_104) zk_105) zk_106) zk_107) zk_108) zk_109) zk_110) zk_111) zk_112) zk_113) zk_114) zk_115) zk_116) zk_117) zk_118) zk_119) zk_120) zk_121) zk_122) zk_123) zk_124) zk_125) zk_126) zk_127) zk_128) zk_129) zk_130) zk_131) zk_132) zk_133) zk_134) zk_135) zk_136) zk_137) zk_138) zk_139) zk_140) zk_141) zk_142) zk_143) zk_144) zk_145) zk_146) zk_147
theorem zlk {l : List (Nat × MI)} {pc : Nat} {i : MI} (h : l.lookup pc = some i) : (pc, i) ∈ l := by
  induction l with
  | nil => simp at h
  | cons q l ih =>
    obtain ⟨a, b⟩ := q
    rw [List.lookup_cons] at h
    split at h
    · rename_i e
      have e1 : pc = a := by simpa using e
      cases h
      rw [e1]
      exact List.mem_cons_self
    · exact List.mem_cons_of_mem _ (ih h)
theorem zdc {m pc : Nat} {i : MI} (h : cod m pc = some i) : decode (zby m) pc = .ok (dcd pc i) ∧ wck (zyn m).cls i = true ∧ bck pc i = true ∧ m < 148 := by
  by_cases hm : m < 148
  · have h1 := List.all_eq_true.mp (zkA m hm) _ (zlk h)
    simp only [zck, Bool.and_eq_true, decide_eq_true_eq] at h1
    exact ⟨h1.1.1, h1.1.2, h1.2, hm⟩
  · have e : zcode m = [] := by
      have hl : zcL.length = 148 := by decide +kernel
      unfold zcode
      rw [List.getD_eq_getElem?_getD, List.getElem?_eq_none (by omega)]
      rfl
    unfold cod at h
    rw [e] at h
    simp at h
def zmk (m : Nat) : Bool :=
  (if zst m then inW (zwp m).2.1 (.static (zyn m)) else inW (zwp m).2.1 (.instanceMethod (zyn m))) &&
  (zst m || decide ((zyn m).name = "<init>") || inW (zwp m).2.2.1 (.selects (zyn m).cls (zyn m) (zyn m))) &&
  inW (zwp m).2.2.2 (.initialized (zyn m).cls) && plainName (zyn m).cls && decide ((zyn m).cls ≠ "java/lang/invoke/MethodHandle" ∧ (zyn m).cls ≠ "java/lang/invoke/VarHandle") &&
  decide ((parseMethodDescriptor (zyn m).desc).map (fun d => d.parameters.length) = some (zna m)) && decide (zml m ≤ 14)
theorem zmkA : (List.range 147).all zmk = true := by decide +kernel
def zcw (m : Nat) : Cond := if (ztb m).isEmpty then .code (zyn m) (zby m) (zml m) (zrt m) else .codeWith (zyn m) (zby m) (zml m) (zrt m) (ztb m)

set_option maxRecDepth 50000 in
theorem zcw_0 : lw_tbl[163]? = some (zcw 0) := rfl
set_option maxRecDepth 50000 in
theorem zcw_1 : lw_tbl[690]? = some (zcw 1) := rfl
set_option maxRecDepth 50000 in
theorem zcw_2 : lw_tbl[730]? = some (zcw 2) := rfl
set_option maxRecDepth 50000 in
theorem zcw_3 : lw_tbl[157]? = some (zcw 3) := rfl
set_option maxRecDepth 50000 in
theorem zcw_4 : lw_tbl[694]? = some (zcw 4) := rfl
set_option maxRecDepth 50000 in
theorem zcw_5 : lw_tbl[701]? = some (zcw 5) := rfl
set_option maxRecDepth 50000 in
theorem zcw_6 : lw_tbl[709]? = some (zcw 6) := rfl
set_option maxRecDepth 50000 in
theorem zcw_7 : lw_tbl[717]? = some (zcw 7) := rfl
set_option maxRecDepth 50000 in
theorem zcw_8 : lw_tbl[259]? = some (zcw 8) := rfl
set_option maxRecDepth 50000 in
theorem zcw_9 : lw_tbl[686]? = some (zcw 9) := rfl
set_option maxRecDepth 50000 in
theorem zcw_10 : lw_tbl[135]? = some (zcw 10) := rfl
set_option maxRecDepth 50000 in
theorem zcw_11 : lw_tbl[669]? = some (zcw 11) := rfl
set_option maxRecDepth 50000 in
theorem zcw_12 : lw_tbl[657]? = some (zcw 12) := rfl
set_option maxRecDepth 50000 in
theorem zcw_13 : lw_tbl[561]? = some (zcw 13) := rfl
set_option maxRecDepth 50000 in
theorem zcw_14 : lw_tbl[550]? = some (zcw 14) := rfl
set_option maxRecDepth 50000 in
theorem zcw_15 : lw_tbl[554]? = some (zcw 15) := rfl
set_option maxRecDepth 50000 in
theorem zcw_16 : lw_tbl[327]? = some (zcw 16) := rfl
set_option maxRecDepth 50000 in
theorem zcw_17 : lw_tbl[792]? = some (zcw 17) := rfl
set_option maxRecDepth 50000 in
theorem zcw_18 : lw_tbl[966]? = some (zcw 18) := rfl
set_option maxRecDepth 50000 in
theorem zcw_19 : lw_tbl[796]? = some (zcw 19) := rfl
set_option maxRecDepth 50000 in
theorem zcw_20 : lw_tbl[801]? = some (zcw 20) := rfl
set_option maxRecDepth 50000 in
theorem zcw_21 : lw_tbl[811]? = some (zcw 21) := rfl
set_option maxRecDepth 50000 in
theorem zcw_22 : lw_tbl[806]? = some (zcw 22) := rfl
set_option maxRecDepth 50000 in
theorem zcw_23 : lw_tbl[129]? = some (zcw 23) := rfl
set_option maxRecDepth 50000 in
theorem zcw_24 : lw_tbl[579]? = some (zcw 24) := rfl
set_option maxRecDepth 50000 in
theorem zcw_25 : lw_tbl[583]? = some (zcw 25) := rfl
set_option maxRecDepth 50000 in
theorem zcw_26 : lw_tbl[665]? = some (zcw 26) := rfl
set_option maxRecDepth 50000 in
theorem zcw_27 : lw_tbl[678]? = some (zcw 27) := rfl
set_option maxRecDepth 50000 in
theorem zcw_28 : lw_tbl[751]? = some (zcw 28) := rfl
set_option maxRecDepth 50000 in
theorem zcw_29 : lw_tbl[738]? = some (zcw 29) := rfl
set_option maxRecDepth 50000 in
theorem zcw_30 : lw_tbl[742]? = some (zcw 30) := rfl
set_option maxRecDepth 50000 in
theorem zcw_31 : lw_tbl[747]? = some (zcw 31) := rfl
set_option maxRecDepth 50000 in
theorem zcw_32 : lw_tbl[758]? = some (zcw 32) := rfl
set_option maxRecDepth 50000 in
theorem zcw_33 : lw_tbl[762]? = some (zcw 33) := rfl
set_option maxRecDepth 50000 in
theorem zcw_34 : lw_tbl[766]? = some (zcw 34) := rfl
set_option maxRecDepth 50000 in
theorem zcw_35 : lw_tbl[527]? = some (zcw 35) := rfl
set_option maxRecDepth 50000 in
theorem zcw_36 : lw_tbl[780]? = some (zcw 36) := rfl
set_option maxRecDepth 50000 in
theorem zcw_37 : lw_tbl[566]? = some (zcw 37) := rfl
set_option maxRecDepth 50000 in
theorem zcw_38 : lw_tbl[770]? = some (zcw 38) := rfl
set_option maxRecDepth 50000 in
theorem zcw_39 : lw_tbl[776]? = some (zcw 39) := rfl
set_option maxRecDepth 50000 in
theorem zcw_40 : lw_tbl[784]? = some (zcw 40) := rfl
set_option maxRecDepth 50000 in
theorem zcw_41 : lw_tbl[788]? = some (zcw 41) := rfl
set_option maxRecDepth 50000 in
theorem zcw_42 : lw_tbl[102]? = some (zcw 42) := rfl
set_option maxRecDepth 50000 in
theorem zcw_43 : lw_tbl[594]? = some (zcw 43) := rfl
set_option maxRecDepth 50000 in
theorem zcw_44 : lw_tbl[600]? = some (zcw 44) := rfl
set_option maxRecDepth 50000 in
theorem zcw_45 : lw_tbl[608]? = some (zcw 45) := rfl
set_option maxRecDepth 50000 in
theorem zcw_46 : lw_tbl[623]? = some (zcw 46) := rfl
set_option maxRecDepth 50000 in
theorem zcw_47 : lw_tbl[651]? = some (zcw 47) := rfl
set_option maxRecDepth 50000 in
theorem zcw_48 : lw_tbl[627]? = some (zcw 48) := rfl
set_option maxRecDepth 50000 in
theorem zcw_49 : lw_tbl[615]? = some (zcw 49) := rfl
set_option maxRecDepth 50000 in
theorem zcw_50 : lw_tbl[612]? = some (zcw 50) := rfl
set_option maxRecDepth 50000 in
theorem zcw_51 : lw_tbl[604]? = some (zcw 51) := rfl
set_option maxRecDepth 50000 in
theorem zcw_52 : lw_tbl[619]? = some (zcw 52) := rfl
set_option maxRecDepth 50000 in
theorem zcw_53 : lw_tbl[674]? = some (zcw 53) := rfl
set_option maxRecDepth 50000 in
theorem zcw_54 : lw_tbl[631]? = some (zcw 54) := rfl
set_option maxRecDepth 50000 in
theorem zcw_55 : lw_tbl[635]? = some (zcw 55) := rfl
set_option maxRecDepth 50000 in
theorem zcw_56 : lw_tbl[682]? = some (zcw 56) := rfl
set_option maxRecDepth 50000 in
theorem zcw_57 : lw_tbl[640]? = some (zcw 57) := rfl
set_option maxRecDepth 50000 in
theorem zcw_58 : lw_tbl[645]? = some (zcw 58) := rfl
set_option maxRecDepth 50000 in
theorem zcw_59 : lw_tbl[420]? = some (zcw 59) := rfl
set_option maxRecDepth 50000 in
theorem zcw_60 : lw_tbl[1006]? = some (zcw 60) := rfl
set_option maxRecDepth 50000 in
theorem zcw_61 : lw_tbl[466]? = some (zcw 61) := rfl
set_option maxRecDepth 50000 in
theorem zcw_62 : lw_tbl[531]? = some (zcw 62) := rfl
set_option maxRecDepth 50000 in
theorem zcw_63 : lw_tbl[572]? = some (zcw 63) := rfl
set_option maxRecDepth 50000 in
theorem zcw_64 : lw_tbl[540]? = some (zcw 64) := rfl
set_option maxRecDepth 50000 in
theorem zcw_65 : lw_tbl[546]? = some (zcw 65) := rfl
set_option maxRecDepth 50000 in
theorem zcw_66 : lw_tbl[523]? = some (zcw 66) := rfl
set_option maxRecDepth 50000 in
theorem zcw_67 : lw_tbl[471]? = some (zcw 67) := rfl
set_option maxRecDepth 50000 in
theorem zcw_68 : lw_tbl[535]? = some (zcw 68) := rfl
set_option maxRecDepth 50000 in
theorem zcw_69 : lw_tbl[94]? = some (zcw 69) := rfl
set_option maxRecDepth 50000 in
theorem zcw_70 : lw_tbl[819]? = some (zcw 70) := rfl
set_option maxRecDepth 50000 in
theorem zcw_71 : lw_tbl[891]? = some (zcw 71) := rfl
set_option maxRecDepth 50000 in
theorem zcw_72 : lw_tbl[915]? = some (zcw 72) := rfl
set_option maxRecDepth 50000 in
theorem zcw_73 : lw_tbl[953]? = some (zcw 73) := rfl
set_option maxRecDepth 50000 in
theorem zcw_74 : lw_tbl[450]? = some (zcw 74) := rfl
set_option maxRecDepth 50000 in
theorem zcw_75 : lw_tbl[454]? = some (zcw 75) := rfl
set_option maxRecDepth 50000 in
theorem zcw_76 : lw_tbl[962]? = some (zcw 76) := rfl
set_option maxRecDepth 50000 in
theorem zcw_77 : lw_tbl[458]? = some (zcw 77) := rfl
set_option maxRecDepth 50000 in
theorem zcw_78 : lw_tbl[973]? = some (zcw 78) := rfl
set_option maxRecDepth 50000 in
theorem zcw_79 : lw_tbl[980]? = some (zcw 79) := rfl
set_option maxRecDepth 50000 in
theorem zcw_80 : lw_tbl[988]? = some (zcw 80) := rfl
set_option maxRecDepth 50000 in
theorem zcw_81 : lw_tbl[995]? = some (zcw 81) := rfl
set_option maxRecDepth 50000 in
theorem zcw_82 : lw_tbl[462]? = some (zcw 82) := rfl
set_option maxRecDepth 50000 in
theorem zcw_83 : lw_tbl[1002]? = some (zcw 83) := rfl
set_option maxRecDepth 50000 in
theorem zcw_84 : lw_tbl[705]? = some (zcw 84) := rfl
set_option maxRecDepth 50000 in
theorem zcw_85 : lw_tbl[1011]? = some (zcw 85) := rfl
set_option maxRecDepth 50000 in
theorem zcw_86 : lw_tbl[1185]? = some (zcw 86) := rfl
set_option maxRecDepth 50000 in
theorem zcw_87 : lw_tbl[1189]? = some (zcw 87) := rfl
set_option maxRecDepth 50000 in
theorem zcw_88 : lw_tbl[1210]? = some (zcw 88) := rfl
set_option maxRecDepth 50000 in
theorem zcw_89 : lw_tbl[1230]? = some (zcw 89) := rfl
set_option maxRecDepth 50000 in
theorem zcw_90 : lw_tbl[1227]? = some (zcw 90) := rfl
set_option maxRecDepth 50000 in
theorem zcw_91 : lw_tbl[1223]? = some (zcw 91) := rfl
set_option maxRecDepth 50000 in
theorem zcw_92 : lw_tbl[1206]? = some (zcw 92) := rfl
set_option maxRecDepth 50000 in
theorem zcw_93 : lw_tbl[1294]? = some (zcw 93) := rfl
set_option maxRecDepth 50000 in
theorem zcw_94 : lw_tbl[1239]? = some (zcw 94) := rfl
set_option maxRecDepth 50000 in
theorem zcw_95 : lw_tbl[1234]? = some (zcw 95) := rfl
set_option maxRecDepth 50000 in
theorem zcw_96 : lw_tbl[1275]? = some (zcw 96) := rfl
set_option maxRecDepth 50000 in
theorem zcw_97 : lw_tbl[1280]? = some (zcw 97) := rfl
set_option maxRecDepth 50000 in
theorem zcw_98 : lw_tbl[1258]? = some (zcw 98) := rfl
set_option maxRecDepth 50000 in
theorem zcw_99 : lw_tbl[1264]? = some (zcw 99) := rfl
set_option maxRecDepth 50000 in
theorem zcw_100 : lw_tbl[1270]? = some (zcw 100) := rfl
set_option maxRecDepth 50000 in
theorem zcw_101 : lw_tbl[1284]? = some (zcw 101) := rfl
set_option maxRecDepth 50000 in
theorem zcw_102 : lw_tbl[1201]? = some (zcw 102) := rfl
set_option maxRecDepth 50000 in
theorem zcw_103 : lw_tbl[1303]? = some (zcw 103) := rfl
set_option maxRecDepth 50000 in
theorem zcw_104 : lw_tbl[1307]? = some (zcw 104) := rfl
set_option maxRecDepth 50000 in
theorem zcw_105 : lw_tbl[1311]? = some (zcw 105) := rfl
set_option maxRecDepth 50000 in
theorem zcw_106 : lw_tbl[1215]? = some (zcw 106) := rfl
set_option maxRecDepth 50000 in
theorem zcw_107 : lw_tbl[1247]? = some (zcw 107) := rfl
set_option maxRecDepth 50000 in
theorem zcw_108 : lw_tbl[1243]? = some (zcw 108) := rfl
set_option maxRecDepth 50000 in
theorem zcw_109 : lw_tbl[1253]? = some (zcw 109) := rfl
set_option maxRecDepth 50000 in
theorem zcw_110 : lw_tbl[1290]? = some (zcw 110) := rfl
set_option maxRecDepth 50000 in
theorem zcw_111 : lw_tbl[1219]? = some (zcw 111) := rfl
set_option maxRecDepth 50000 in
theorem zcw_112 : lw_tbl[1299]? = some (zcw 112) := rfl
set_option maxRecDepth 50000 in
theorem zcw_113 : lw_tbl[1323]? = some (zcw 113) := rfl
set_option maxRecDepth 50000 in
theorem zcw_114 : lw_tbl[1319]? = some (zcw 114) := rfl
set_option maxRecDepth 50000 in
theorem zcw_115 : lw_tbl[1331]? = some (zcw 115) := rfl
set_option maxRecDepth 50000 in
theorem zcw_116 : lw_tbl[1327]? = some (zcw 116) := rfl
set_option maxRecDepth 50000 in
theorem zcw_117 : lw_tbl[1197]? = some (zcw 117) := rfl
set_option maxRecDepth 50000 in
theorem zcw_118 : lw_tbl[1193]? = some (zcw 118) := rfl
set_option maxRecDepth 50000 in
theorem zcw_119 : lw_tbl[1340]? = some (zcw 119) := rfl
set_option maxRecDepth 50000 in
theorem zcw_120 : lw_tbl[1336]? = some (zcw 120) := rfl
set_option maxRecDepth 50000 in
theorem zcw_121 : lw_tbl[1344]? = some (zcw 121) := rfl
set_option maxRecDepth 50000 in
theorem zcw_122 : lw_tbl[1348]? = some (zcw 122) := rfl
set_option maxRecDepth 50000 in
theorem zcw_123 : lw_tbl[1352]? = some (zcw 123) := rfl
set_option maxRecDepth 50000 in
theorem zcw_124 : lw_tbl[1356]? = some (zcw 124) := rfl
set_option maxRecDepth 50000 in
theorem zcw_125 : lw_tbl[1360]? = some (zcw 125) := rfl
set_option maxRecDepth 50000 in
theorem zcw_126 : lw_tbl[1364]? = some (zcw 126) := rfl
set_option maxRecDepth 50000 in
theorem zcw_127 : lw_tbl[1368]? = some (zcw 127) := rfl
set_option maxRecDepth 50000 in
theorem zcw_128 : lw_tbl[1372]? = some (zcw 128) := rfl
set_option maxRecDepth 50000 in
theorem zcw_129 : lw_tbl[1376]? = some (zcw 129) := rfl
set_option maxRecDepth 50000 in
theorem zcw_130 : lw_tbl[1390]? = some (zcw 130) := rfl
set_option maxRecDepth 50000 in
theorem zcw_131 : lw_tbl[1385]? = some (zcw 131) := rfl
set_option maxRecDepth 50000 in
theorem zcw_132 : lw_tbl[1398]? = some (zcw 132) := rfl
set_option maxRecDepth 50000 in
theorem zcw_133 : lw_tbl[1403]? = some (zcw 133) := rfl
set_option maxRecDepth 50000 in
theorem zcw_134 : lw_tbl[1394]? = some (zcw 134) := rfl
set_option maxRecDepth 50000 in
theorem zcw_135 : lw_tbl[1380]? = some (zcw 135) := rfl
set_option maxRecDepth 50000 in
theorem zcw_136 : lw_tbl[1417]? = some (zcw 136) := rfl
set_option maxRecDepth 50000 in
theorem zcw_137 : lw_tbl[814]? = some (zcw 137) := rfl
set_option maxRecDepth 50000 in
theorem zcw_138 : lw_tbl[886]? = some (zcw 138) := rfl
set_option maxRecDepth 50000 in
theorem zcw_139 : lw_tbl[909]? = some (zcw 139) := rfl
set_option maxRecDepth 50000 in
theorem zcw_140 : lw_tbl[949]? = some (zcw 140) := rfl
set_option maxRecDepth 50000 in
theorem zcw_141 : lw_tbl[958]? = some (zcw 141) := rfl
set_option maxRecDepth 50000 in
theorem zcw_142 : lw_tbl[969]? = some (zcw 142) := rfl
set_option maxRecDepth 50000 in
theorem zcw_143 : lw_tbl[976]? = some (zcw 143) := rfl
set_option maxRecDepth 50000 in
theorem zcw_144 : lw_tbl[984]? = some (zcw 144) := rfl
set_option maxRecDepth 50000 in
theorem zcw_145 : lw_tbl[991]? = some (zcw 145) := rfl
set_option maxRecDepth 50000 in
theorem zcw_146 : lw_tbl[998]? = some (zcw 146) := rfl
theorem zcwA : ∀ m, m < 147 → zcw m ∈ lw_tbl := lt_s (lt_s (lt_s (lt_s (lt_s (lt_s (lt_s (lt_s (lt_s (lt_s (lt_s (lt_s (lt_s (lt_s (lt_s (lt_s (lt_s (lt_s (lt_s (lt_s (lt_s (lt_s (lt_s (lt_s (lt_s (lt_s (lt_s (lt_s (lt_s (lt_s (lt_s (lt_s (lt_s (lt_s (lt_s (lt_s (lt_s (lt_s (lt_s (lt_s (lt_s (lt_s (lt_s (lt_s (lt_s (lt_s (lt_s (lt_s (lt_s (lt_s (lt_s (lt_s (lt_s (lt_s (lt_s (lt_s (lt_s (lt_s (lt_s (lt_s (lt_s (lt_s (lt_s (lt_s (lt_s (lt_s (lt_s (lt_s (lt_s (lt_s (lt_s (lt_s (lt_s (lt_s (lt_s (lt_s (lt_s (lt_s (lt_s (lt_s (lt_s (lt_s (lt_s (lt_s (lt_s (lt_s (lt_s (lt_s (lt_s (lt_s (lt_s (lt_s (lt_s (lt_s (lt_s (lt_s (lt_s (lt_s (lt_s (lt_s (lt_s (lt_s (lt_s (lt_s (lt_s (lt_s (lt_s (lt_s (lt_s (lt_s (lt_s (lt_s (lt_s (lt_s (lt_s (lt_s (lt_s (lt_s (lt_s (lt_s (lt_s (lt_s (lt_s (lt_s (lt_s (lt_s (lt_s (lt_s (lt_s (lt_s (lt_s (lt_s (lt_s (lt_s (lt_s (lt_s (lt_s (lt_s (lt_s (lt_s (lt_s (lt_s (lt_s (lt_s (lt_s (lt_s (lt_s (lt_0) (List.mem_of_getElem? zcw_0)) (List.mem_of_getElem? zcw_1)) (List.mem_of_getElem? zcw_2)) (List.mem_of_getElem? zcw_3)) (List.mem_of_getElem? zcw_4)) (List.mem_of_getElem? zcw_5)) (List.mem_of_getElem? zcw_6)) (List.mem_of_getElem? zcw_7)) (List.mem_of_getElem? zcw_8)) (List.mem_of_getElem? zcw_9)) (List.mem_of_getElem? zcw_10)) (List.mem_of_getElem? zcw_11)) (List.mem_of_getElem? zcw_12)) (List.mem_of_getElem? zcw_13)) (List.mem_of_getElem? zcw_14)) (List.mem_of_getElem? zcw_15)) (List.mem_of_getElem? zcw_16)) (List.mem_of_getElem? zcw_17)) (List.mem_of_getElem? zcw_18)) (List.mem_of_getElem? zcw_19)) (List.mem_of_getElem? zcw_20)) (List.mem_of_getElem? zcw_21)) (List.mem_of_getElem? zcw_22)) (List.mem_of_getElem? zcw_23)) (List.mem_of_getElem? zcw_24)) (List.mem_of_getElem? zcw_25)) (List.mem_of_getElem? zcw_26)) (List.mem_of_getElem? zcw_27)) (List.mem_of_getElem? zcw_28)) (List.mem_of_getElem? zcw_29)) (List.mem_of_getElem? zcw_30)) (List.mem_of_getElem? zcw_31)) (List.mem_of_getElem? zcw_32)) (List.mem_of_getElem? zcw_33)) (List.mem_of_getElem? zcw_34)) (List.mem_of_getElem? zcw_35)) (List.mem_of_getElem? zcw_36)) (List.mem_of_getElem? zcw_37)) (List.mem_of_getElem? zcw_38)) (List.mem_of_getElem? zcw_39)) (List.mem_of_getElem? zcw_40)) (List.mem_of_getElem? zcw_41)) (List.mem_of_getElem? zcw_42)) (List.mem_of_getElem? zcw_43)) (List.mem_of_getElem? zcw_44)) (List.mem_of_getElem? zcw_45)) (List.mem_of_getElem? zcw_46)) (List.mem_of_getElem? zcw_47)) (List.mem_of_getElem? zcw_48)) (List.mem_of_getElem? zcw_49)) (List.mem_of_getElem? zcw_50)) (List.mem_of_getElem? zcw_51)) (List.mem_of_getElem? zcw_52)) (List.mem_of_getElem? zcw_53)) (List.mem_of_getElem? zcw_54)) (List.mem_of_getElem? zcw_55)) (List.mem_of_getElem? zcw_56)) (List.mem_of_getElem? zcw_57)) (List.mem_of_getElem? zcw_58)) (List.mem_of_getElem? zcw_59)) (List.mem_of_getElem? zcw_60)) (List.mem_of_getElem? zcw_61)) (List.mem_of_getElem? zcw_62)) (List.mem_of_getElem? zcw_63)) (List.mem_of_getElem? zcw_64)) (List.mem_of_getElem? zcw_65)) (List.mem_of_getElem? zcw_66)) (List.mem_of_getElem? zcw_67)) (List.mem_of_getElem? zcw_68)) (List.mem_of_getElem? zcw_69)) (List.mem_of_getElem? zcw_70)) (List.mem_of_getElem? zcw_71)) (List.mem_of_getElem? zcw_72)) (List.mem_of_getElem? zcw_73)) (List.mem_of_getElem? zcw_74)) (List.mem_of_getElem? zcw_75)) (List.mem_of_getElem? zcw_76)) (List.mem_of_getElem? zcw_77)) (List.mem_of_getElem? zcw_78)) (List.mem_of_getElem? zcw_79)) (List.mem_of_getElem? zcw_80)) (List.mem_of_getElem? zcw_81)) (List.mem_of_getElem? zcw_82)) (List.mem_of_getElem? zcw_83)) (List.mem_of_getElem? zcw_84)) (List.mem_of_getElem? zcw_85)) (List.mem_of_getElem? zcw_86)) (List.mem_of_getElem? zcw_87)) (List.mem_of_getElem? zcw_88)) (List.mem_of_getElem? zcw_89)) (List.mem_of_getElem? zcw_90)) (List.mem_of_getElem? zcw_91)) (List.mem_of_getElem? zcw_92)) (List.mem_of_getElem? zcw_93)) (List.mem_of_getElem? zcw_94)) (List.mem_of_getElem? zcw_95)) (List.mem_of_getElem? zcw_96)) (List.mem_of_getElem? zcw_97)) (List.mem_of_getElem? zcw_98)) (List.mem_of_getElem? zcw_99)) (List.mem_of_getElem? zcw_100)) (List.mem_of_getElem? zcw_101)) (List.mem_of_getElem? zcw_102)) (List.mem_of_getElem? zcw_103)) (List.mem_of_getElem? zcw_104)) (List.mem_of_getElem? zcw_105)) (List.mem_of_getElem? zcw_106)) (List.mem_of_getElem? zcw_107)) (List.mem_of_getElem? zcw_108)) (List.mem_of_getElem? zcw_109)) (List.mem_of_getElem? zcw_110)) (List.mem_of_getElem? zcw_111)) (List.mem_of_getElem? zcw_112)) (List.mem_of_getElem? zcw_113)) (List.mem_of_getElem? zcw_114)) (List.mem_of_getElem? zcw_115)) (List.mem_of_getElem? zcw_116)) (List.mem_of_getElem? zcw_117)) (List.mem_of_getElem? zcw_118)) (List.mem_of_getElem? zcw_119)) (List.mem_of_getElem? zcw_120)) (List.mem_of_getElem? zcw_121)) (List.mem_of_getElem? zcw_122)) (List.mem_of_getElem? zcw_123)) (List.mem_of_getElem? zcw_124)) (List.mem_of_getElem? zcw_125)) (List.mem_of_getElem? zcw_126)) (List.mem_of_getElem? zcw_127)) (List.mem_of_getElem? zcw_128)) (List.mem_of_getElem? zcw_129)) (List.mem_of_getElem? zcw_130)) (List.mem_of_getElem? zcw_131)) (List.mem_of_getElem? zcw_132)) (List.mem_of_getElem? zcw_133)) (List.mem_of_getElem? zcw_134)) (List.mem_of_getElem? zcw_135)) (List.mem_of_getElem? zcw_136)) (List.mem_of_getElem? zcw_137)) (List.mem_of_getElem? zcw_138)) (List.mem_of_getElem? zcw_139)) (List.mem_of_getElem? zcw_140)) (List.mem_of_getElem? zcw_141)) (List.mem_of_getElem? zcw_142)) (List.mem_of_getElem? zcw_143)) (List.mem_of_getElem? zcw_144)) (List.mem_of_getElem? zcw_145)) (List.mem_of_getElem? zcw_146)
theorem zcwG (m : Nat) (hm : m < 147) : zcw m ∈ gW := by
  refine List.mem_filter.mpr ⟨zcwA m hm, ?_⟩
  unfold zcw
  split <;> rfl
def zty (b k : Nat) : FieldType := (parseFieldDescriptor (zfD b k).2.2.1).getD .int
def ztc (t : FieldType) (n : Nat) : Bool := match t with
  | .int => n == 0
  | .boolean => n == 1
  | .object _ => n == 4
  | .array _ => n == 4
  | _ => false
def zinL : List Nat := [160, 154, 256, 132, 324, 126, 99, 417, 91, 1008]
def ziiL : List Nat := [72, 71, 73, 70, 74, 69, 68, 75, 67, 76]
def zclk (b : Nat) : Bool :=
  (List.range (znF b)).all (fun k => inW ((zlayL.getD b []).getD k 0) (u_lay (zcn b) (zT b) k) && decide (parseFieldDescriptor (zT b k).2.2.1 = some (zty b k)) && ztc (zty b k) (zft b k) && (List.range (znF b)).all (fun j => decide (k = j) || decide ((zT b k).2.1 ≠ (zT b j).2.1))) &&
  inW (zinL.getD b 0) (.instantiable (zcn b) (znF b)) && inW (ziiL.getD b 0) (.initialized (zcn b))
theorem zclkA : (List.range 10).all zclk = true := by decide +kernel
theorem zw_ac_int : (Cond.arrayClass .int) ∈ gW := inW_ok (i := 123) (by decide +kernel)
theorem zw_ac_byte : (Cond.arrayClass .byte) ∈ gW := inW_ok (i := 124) (by decide +kernel)
theorem zw_ac_boolean : (Cond.arrayClass .boolean) ∈ gW := inW_ok (i := 350) (by decide +kernel)
theorem zw_ac_long : (Cond.arrayClass .long) ∈ gW := inW_ok (i := 1418) (by decide +kernel)
theorem zw_oi1 : (Cond.instanceMethod objectInit) ∈ gW := inW_ok (i := 96) (by decide +kernel)
theorem zw_oi2 : (Cond.code objectInit ⟨#[0xb1]⟩ 1 none) ∈ gW := inW_ok (i := 97) (by decide +kernel)
theorem zw_max1 : (Cond.static Lib.Math.max.name) ∈ gW := inW_ok (i := 556) (by decide +kernel)
theorem zw_max2 : (Cond.code Lib.Math.max.name Lib.Math.max.code 2 (some .int)) ∈ gW := inW_ok (i := 557) (by decide +kernel)
theorem zw_min1 : (Cond.static Lib.Math.min.name) ∈ gW := inW_ok (i := 585) (by decide +kernel)
theorem zw_min2 : (Cond.code Lib.Math.min.name Lib.Math.min.code 2 (some .int)) ∈ gW := inW_ok (i := 586) (by decide +kernel)
theorem zw_math : (Cond.initialized "java/lang/Math") ∈ gW := inW_ok (i := 82) (by decide +kernel)
theorem zw_ac1 : (Cond.native arraycopyName) ∈ gW := inW_ok (i := 590) (by decide +kernel)
theorem zw_ac2 : (Cond.static arraycopyName) ∈ gW := inW_ok (i := 589) (by decide +kernel)
theorem zw_sys : (Cond.initialized "java/lang/System") ∈ gW := inW_ok (i := 83) (by decide +kernel)
theorem zw_ao : (Cond.arrayOver (.object "RepairScan$Found")) ∈ lw_tbl := inV_ok (i := 255) (by decide +kernel)
theorem zw_str : ∀ i, i < 25 → Cond.stringRef (zsoL.getD i ("", 0, "", 0)).1 (zsoL.getD i ("", 0, "", 0)).2.1 (zsoL.getD i ("", 0, "", 0)).2.2.1 ∈ lw_tbl := by
  have h : (List.range 25).all (fun i => inV (zsoL.getD i ("", 0, "", 0)).2.2.2 (Cond.stringRef (zsoL.getD i ("", 0, "", 0)).1 (zsoL.getD i ("", 0, "", 0)).2.1 (zsoL.getD i ("", 0, "", 0)).2.2.1)) = true := by decide +kernel
  exact fun i hi => inV_ok (List.all_eq_true.mp h i (List.mem_range.mpr hi))
end
section
/-! the mini machine's states, and what ties them to the machine's -/
abbrev vI (z : Int) : MV := Sum.inl z
abbrev vL (z : Int) : MV := Sum.inr (Sum.inl z)
abbrev vR (r : Option Nat) : MV := Sum.inr (Sum.inr (Sum.inl r))
abbrev vS (k : Nat) : MV := Sum.inr (Sum.inr (Sum.inr (Sum.inl k)))
abbrev vJ : MV := Sum.inr (Sum.inr (Sum.inr (Sum.inr ())))
/-- numbers of the cells, references of the cells, how many cells, how many exceptions, the script's length, the script -/
abbrev MH : Type := (Nat → Nat → Int) × (Nat → Nat → Option Nat) × Nat × Nat × Nat × (Nat → Int)
def sI (M : MH) (a k : Nat) (z : Int) : MH := (fun b j => if b = a ∧ j = k then z else M.1 b j, M.2)
def sR (M : MH) (a k : Nat) (r : Option Nat) : MH := (M.1, fun b j => if b = a ∧ j = k then r else M.2.1 b j, M.2.2)
/-- base, D, array kinds, strings' objects, strings' rows, script: place, length, ints -/
abbrev EP : Type := Nat × va_G × (Nat → ClassId) × (Nat → Nat) × (Nat → Nat) × Nat × Nat × (Nat → Int32)
def r32 (z : Int) : Prop := -2147483648 ≤ z ∧ z < 2147483648
def r64 (z : Int) : Prop := -9223372036854775808 ≤ z ∧ z < 9223372036854775808
def zrv (B : Nat) : Option Nat → Value
  | none => .null
  | some a => .ref (B + a)
def vrel (Z : EP) (top : Nat) (v : MV) (w : Value) : Prop := match v with
  | .inl z => w = .int (Int32.ofInt z) ∧ r32 z
  | .inr (.inl z) => w = .long (Int64.ofInt z) ∧ r64 z
  | .inr (.inr (.inl r)) => w = zrv Z.1 r ∧ ∀ q, r = some q → q < top
  | .inr (.inr (.inr (.inl k))) => (k < 25 ∧ w = .ref (Z.2.2.2.1 k)) ∨ (k = 100 ∧ w = .ref Z.2.2.2.2.2.1)
  | .inr (.inr (.inr (.inr _))) => ∃ a, w = .ref a
def srel (Z : EP) (top : Nat) : List MV → List Value → Prop
  | [], [] => True
  | v :: vs, w :: ws => vrel Z top v w ∧ srel Z top vs ws
  | _, _ => False
def lrel (Z : EP) (top n : Nat) (ls : List MV) (lr : Array Slot) : Prop :=
  lr.size = n ∧ lv_wf lr ∧ ls.length = n ∧ ∀ (i : Nat) (v : MV), ls[i]? = some v → v = vJ ∨ ∃ w, lr[i]? = some (.val w) ∧ vrel Z top v w
def fv (B t : Nat) (z : Int) (r : Option Nat) : Value := if t = 4 then zrv B r else .int (Int32.ofInt z)
def fok (top t : Nat) (z : Int) (r : Option Nat) : Prop := if t = 4 then (∀ q, r = some q → q < top) else if t = 1 then (z = 0 ∨ z = 1) else r32 z
def av (B t : Nat) (z : Int) (r : Option Nat) : Value := if t = 4 then zrv B r else if t = 3 then .long (Int64.ofInt z) else .int (Int32.ofInt z)
def aok (top t : Nat) (z : Int) (r : Option Nat) : Prop :=
  if t = 4 then (∀ q, r = some q → q < top) else if t = 3 then r64 z else if t = 2 then (z = 0 ∨ z = 1) else if t = 1 then (-128 ≤ z ∧ z < 128) else r32 z
def objR (Z : EP) (M : MH) (H : Heap) (a b : Nat) : Prop :=
  t_OB (Z.1 + a) (Z.2.1.1 b) (znF b) (Z.2.1.2 b) H (fun k => fv Z.1 (zft b k) (M.1 a k) (M.2.1 a k)) ∧ ∀ k, k < znF b → fok M.2.2.1 (zft b k) (M.1 a k) (M.2.1 a k)
def arrR (Z : EP) (M : MH) (H : Heap) (a t : Nat) : Prop :=
  H[Z.1 + a]? = some (arrV (Z.2.2.1 t) (L0 a) (fun j => av Z.1 t (M.1 a j) (M.2.1 a j))) ∧ ∀ j, j < L0 a → aok M.2.2.1 t (M.1 a j) (M.2.1 a j)
def celR (Z : EP) (M : MH) (H : Heap) (a : Nat) : Prop := if K0 a ≤ 10 then objR Z M H a (K0 a - 1) else arrR Z M H a (K0 a - 21)
def HRel (Z : EP) (M : MH) (H : Heap) : Prop :=
  (M.2.2.2.1 = 0 → H.size = Z.1 + M.2.2.1) ∧ Z.1 + M.2.2.1 ≤ H.size ∧ (∀ a, a < M.2.2.1 → celR Z M H a) ∧ M.2.2.2.2.1 = Z.2.2.2.2.2.2.1 ∧ M.2.2.2.2.1 < 2147483648 ∧ ∀ j, j < M.2.2.2.2.1 → Z.2.2.2.2.2.2.2 j = Int32.ofInt (M.2.2.2.2.2 j) ∧ r32 (M.2.2.2.2.2 j)
def zA (Z : EP) : Nat → Prop := fun q => Z.1 ≤ q
def ztys (Z : EP) : List (ClassId × FieldType) := [(Z.2.2.1 0, .int), (Z.2.2.1 1, .byte), (Z.2.2.1 2, .boolean), (Z.2.2.1 3, .long), (Z.2.2.1 4, .object "RepairScan$Found")]
def zso (i : Nat) : String × Nat × String × Nat := zsoL.getD i ("", 0, "", 0)
def zsl : List Nat := zsbL.map List.length
def zsb : List (List Int32) := zsbL.map (List.map Int32.ofNat)
def Ev (Z : EP) (U : State) (H : Heap) : Prop :=
  va_K Z.2.1 zcl (ztys Z) U ∧ vk_S 25 zsl zsb Z.2.2.2.1 Z.2.2.2.2.1 (zA Z) U H ∧ (∀ i, i < 25 → vk_R (zso i).1 (zso i).2.1 (zso i).2.2.1 (Z.2.2.2.1 i) U) ∧
  va_Z "java/lang/String" "COMPACT_STRINGS" "Z" (.int 1) (zA Z) U H ∧ vx_Zq Bundle.tN "UNASSIGNED_STACK" Bundle.steD (zA Z) U H ∧ vx_Zq Bundle.tN "SUPPRESSED_SENTINEL" Bundle.listD (zA Z) U H ∧
  (∀ w ∈ nW, va_Nw w U) ∧ va_AO "RepairScan$Found" U ∧ va_Nc (zex 3) (zex 2) U ∧ va_X Z.2.2.2.2.2.1 Z.2.2.2.2.2.2.1 Z.2.2.2.2.2.2.2 U H ∧ Z.2.2.2.2.2.1 < H.size ∧ ¬ zA Z Z.2.2.2.2.2.1 ∧ va_Zq "jdk/internal/util/Preconditions" "SIOOBE_FORMATTER" "Ljava/util/function/BiFunction;" (zA Z) U H
theorem nest_warm {w : Cond} {s U : State} (hz : zNest w = true) (hW : s.WarmedH U.vm) (h : va_Nw w s) : va_Nw w U := by
  cases w <;> simp [zNest] at hz
  all_goals first
    | exact va_Nw.warmF hW h
    | exact va_Nw.warmM hW h
    | exact va_Nw.warmC hW h
    | exact va_Nw.warmD hW h
theorem Ev.warm {Z : EP} {s U : State} {H : Heap} (hW : s.WarmedH U.vm) (h : Ev Z s H) : Ev Z U H := by
  obtain ⟨h1, h2, h3, h4, h5, h6, h7, h8, h9, h10, h11, h12, h13⟩ := h
  have a := hW.alike
  exact ⟨va_K.moved a h1, h2.moved a, fun i hi => (h3 i hi).warm hW, h4.moved a, h5.moved a, h6.moved a, fun w hw => nest_warm (List.mem_filter.mp hw).2 hW (h7 w hw), h8.moved a, h9.moved a, h10.moved a, h11, h12, h13.moved a⟩
theorem Ev.kept {Z : EP} {U : State} {H H1 : Heap} (h : Ev Z U H) (hz : H.size ≤ H1.size) (hq : ∀ a : Nat, a < H.size → ¬ zA Z a → H1[a]? = H[a]?) : Ev Z U H1 := by
  obtain ⟨h1, h2, h3, h4, h5, h6, h7, h8, h9, h10, h11, h12, h13⟩ := h
  exact ⟨h1, h2.kept hq, h3, h4.kept hq, h5.kept hq, h6.kept hq, h7, h8, h9, h10.kept (hq _ h11 h12), Nat.lt_of_lt_of_le h11 hz, h12, h13.kept hq⟩
theorem Ev.same {Z : EP} {u U : State} {H : Heap} (hv : U.vm = u.vm) (h : Ev Z u H) : Ev Z U H := h.warm (by rw [hv]; exact State.WarmedH.refl u)
/-- the method's frame -/
def Cx (m : Nat) (Z : EP) (p : Program) (l : Launch) (e : Env) (R : Room) (s : State) (mid : MethodId) (args : Array Value) (below : List Frame) (meth : Method) (c : Code) : Prop :=
  p.tables.exec = Jvm.exec ∧ c.code = zby m ∧ c.maxLocals = zml m ∧ s.vm.findClass (zyn m).cls = some mid.cls ∧ (∀ w ∈ gW, w.before args s = true) ∧ meth.sig.returnType = zrt m ∧ meth.locks = false ∧
  ((zyn m).name = "<init>" → meth.name = "<init>") ∧ c.exceptionTable.toList.map (fun x => (x.startPc, x.endPc, x.handlerPc, x.catchType)) = ztb m ∧
  zdp m ≤ R.frames ∧ 40 * zdp m ≤ R.locals ∧ l.stackTraces = false ∧ Ev Z s s.heap ∧ Z.1 ≤ s.heap.size
def cst (M : MH) : Nat := M.2.2.1 + M.2.2.2.1
def sst (M : MH) : Nat := zss M.2.2.1 + 6 * M.2.2.2.1
def mle (M M' : MH) : Prop := M.2.2.1 ≤ M'.2.2.1 ∧ M.2.2.2.1 ≤ M'.2.2.2.1
theorem zss_mono {a b : Nat} (h : a ≤ b) : zss a ≤ zss b := by
  induction b with
  | zero => rw [Nat.le_zero.mp h]; exact Nat.le_refl _
  | succ n ih =>
    rcases Nat.lt_or_ge n a with q | q
    · rw [show a = n + 1 by omega]; exact Nat.le_refl _
    · exact Nat.le_trans (ih q) (Nat.le_add_right _ _)
theorem mle_c {M M' : MH} (h : mle M M') : cst M ≤ cst M' := Nat.add_le_add h.1 h.2
theorem mle_s {M M' : MH} (h : mle M M') : sst M ≤ sst M' := Nat.add_le_add (zss_mono h.1) (Nat.mul_le_mul_left 6 h.2)
theorem mle_trans {A B C : MH} (h : mle A B) (h2 : mle B C) : mle A C := ⟨Nat.le_trans h.1 h2.1, Nat.le_trans h.2 h2.2⟩
theorem mle_refl {A : MH} : mle A A := ⟨Nat.le_refl _, Nat.le_refl _⟩
/-- a method ends: it returned nothing or a value, or it throws -/
abbrev Res : Type := Option MV ⊕ Nat
def zik (k : Nat) : Nat := [41, 44, 58, 87].getD k 0
def zic (k : Nat) : Nat := [43, 46, 60, 89].getD k 0
def endOK (m pc : Nat) (r : Res) (st : List MV) : Prop := match r with
  | .inl none => st = [] ∧ zrt m = none ∧ ∃ a b d z tb, cod m pc = some (86, a, b, d, z, tb)
  | .inl (some v) => st = [v] ∧ ((∃ z, v = vI z ∧ (zrt m = some .int ∨ (zrt m = some .boolean ∧ (z = 0 ∨ z = 1))) ∧ ∃ a b d z tb, cod m pc = some (83, a, b, d, z, tb)) ∨
    (∃ z, v = vL z ∧ zrt m = some .long ∧ ∃ a b d z tb, cod m pc = some (84, a, b, d, z, tb)) ∨ (∃ q, v = vR q ∧ (∃ n, zrt m = some (.object n)) ∧ ∃ a b d z tb, cod m pc = some (85, a, b, d, z, tb)))
  | .inr k => st = [] ∧ k < 4 ∧ (zyn m).cls = "RepairScan" ∧ 8 ≤ zdp m ∧ ztb m = [] ∧ ∃ a c z tb, a = zik k ∧ c = zic k ∧ cod m pc = some (87, a, k, c, z, tb) ∧ (∃ i : MI, cod m (pc + 3) = some i ∧ i.1 = 33) ∧ (∃ b' c' z' tb', cod m (pc + 4) = some (99, c, b', c', z', tb')) ∧ ∃ i : MI, cod m (pc + 7) = some i ∧ i.1 = 98
def EndW (m : Nat) (Z : EP) (p : Program) (l : Launch) (e : Env) (R : Room) (s : State) (mid : MethodId) (args : Array Value) (below : List Frame) (meth : Method) (c : Code) (Q : State → Prop) (r : Res) (M' : MH) : Prop :=
  ∀ (H : Heap) (locs : List Loc) (cells slots pc : Nat) (lr : Array Slot) (sr : List Value) (st : List MV), endOK m pc r st → srel Z M'.2.2.1 st sr → lr.size = zml m → HRel Z M' H → va_S (zA Z) s.heap H locs → cells ≤ R.cells → slots ≤ R.slots → ((∃ k, r = .inr k) → cells + 1 ≤ R.cells ∧ slots + 6 ≤ R.slots) →
    W p l e R s mid args below meth c H locs cells slots Q (F0 mid pc lr sr)
def xof (r : Res) : Nat := match r with
  | .inl _ => 0
  | .inr _ => 1
def RunX (m pc : Nat) (ls st : List MV) (M : MH) (r : Res) (M' : MH) : Prop :=
  ∀ (Z : EP) (p : Program) (l : Launch) (e : Env) (R : Room) (s : State) (mid : MethodId) (args : Array Value) (below : List Frame) (meth : Method) (c : Code) (Q : State → Prop), Cx m Z p l e R s mid args below meth c →
    ∀ (H : Heap) (locs : List Loc) (cells slots : Nat) (lr : Array Slot) (sr : List Value), lrel Z M.2.2.1 (zml m) ls lr → srel Z M.2.2.1 st sr → HRel Z M H → va_S (zA Z) s.heap H locs →
      cells + cst M' + xof r ≤ R.cells + cst M → slots + sst M' + 6 * xof r ≤ R.slots + sst M → EndW m Z p l e R s mid args below meth c Q r M' →
      W p l e R s mid args below meth c H locs cells slots Q (F0 mid pc lr sr)
def Run (m pc : Nat) (ls st : List MV) (M : MH) (Q : Res → MH → Prop) : Prop :=
  ∃ (r : Res) (M' : MH), Q r M' ∧ mle M M' ∧ RunX m pc ls st M r M'
/-- one instruction that leaves the cells alone -/
theorem R_pure {m pc pc' : Nat} {ls ls' st st' : List MV} {M : MH} {Q : Res → MH → Prop}
    (step : ∀ (Z : EP) (p : Program) (l : Launch) (e : Env) (R : Room) (s : State) (mid : MethodId) (args : Array Value) (below : List Frame) (meth : Method) (c : Code) (Qs : State → Prop), Cx m Z p l e R s mid args below meth c →
      ∀ (H : Heap) (locs : List Loc) (cells slots : Nat) (lr : Array Slot) (sr : List Value), lrel Z M.2.2.1 (zml m) ls lr → srel Z M.2.2.1 st sr → HRel Z M H → va_S (zA Z) s.heap H locs → cells ≤ R.cells → slots ≤ R.slots →
        (∀ (lr' : Array Slot) (sr' : List Value), lrel Z M.2.2.1 (zml m) ls' lr' → srel Z M.2.2.1 st' sr' → W p l e R s mid args below meth c H locs cells slots Qs (F0 mid pc' lr' sr')) →
        W p l e R s mid args below meth c H locs cells slots Qs (F0 mid pc lr sr))
    (h : Run m pc' ls' st' M Q) : Run m pc ls st M Q := by
  obtain ⟨r, M', hQ, hm, hX⟩ := h
  have h1 := mle_c hm
  have h2 := mle_s hm
  refine ⟨r, M', hQ, hm, ?_⟩
  intro Z p l e R s mid args below meth c Qs C H locs cells slots lr sr hl hs hH hS b1 b2 hE
  exact step Z p l e R s mid args below meth c Qs C H locs cells slots lr sr hl hs hH hS (by omega) (by omega) fun lr' sr' hl' hs' => hX Z p l e R s mid args below meth c Qs C H locs cells slots lr' sr' hl' hs' hH hS b1 b2 hE
theorem srel_cons {Z : EP} {top : Nat} {v : MV} {vs : List MV} {sr : List Value} (h : srel Z top (v :: vs) sr) : ∃ w ws, sr = w :: ws ∧ vrel Z top v w ∧ srel Z top vs ws := by
  cases sr with
  | nil => exact h.elim
  | cons w ws => exact ⟨w, ws, rfl, h.1, h.2⟩
theorem srel_nil {Z : EP} {top : Nat} {sr : List Value} (h : srel Z top [] sr) : sr = [] := by
  cases sr with
  | nil => rfl
  | cons w ws => exact h.elim
end
section
/-! rules of the mini machine: one instruction each, out of the kit's rows -/
theorem i32t {z : Int} (h : r32 z) : (Int32.ofInt z).toInt = z := by
  obtain ⟨h1, h2⟩ := h
  exact Int32.toInt_ofInt_of_le (by omega) (by omega)
theorem i64t {z : Int} (h : r64 z) : (Int64.ofInt z).toInt = z := by
  obtain ⟨h1, h2⟩ := h
  exact Int64.toInt_ofInt_of_le (by omega) (by omega)
theorem i32lt {x y : Int} (hx : r32 x) (hy : r32 y) : Int32.ofInt x < Int32.ofInt y ↔ x < y := by rw [Int32.lt_iff_toInt_lt, i32t hx, i32t hy]
theorem i32le {x y : Int} (hx : r32 x) (hy : r32 y) : Int32.ofInt x ≤ Int32.ofInt y ↔ x ≤ y := by rw [Int32.le_iff_toInt_le, i32t hx, i32t hy]
theorem i32eq {x y : Int} (hx : r32 x) (hy : r32 y) : Int32.ofInt x = Int32.ofInt y ↔ x = y := by rw [← Int32.toInt_inj, i32t hx, i32t hy]
theorem i64lt {x y : Int} (hx : r64 x) (hy : r64 y) : Int64.ofInt x < Int64.ofInt y ↔ x < y := by rw [Int64.lt_iff_toInt_lt, i64t hx, i64t hy]
theorem i64eq {x y : Int} (hx : r64 x) (hy : r64 y) : Int64.ofInt x = Int64.ofInt y ↔ x = y := by rw [← Int64.toInt_inj, i64t hx, i64t hy]
theorem r32_0 : r32 0 := by constructor <;> decide
theorem i32clamp {z : Int} (h : r32 z) : (Int32.ofInt z).toNatClampNeg = z.toNat := by
  show (Int32.ofInt z).toInt.toNat = z.toNat
  rw [i32t h]
theorem i32neg {z : Int} (h : r32 z) : Int32.ofInt z < 0 ↔ z < 0 := by
  have := i32lt h r32_0
  exact this
theorem i32z {z : Int} (h : r32 z) : Int32.ofInt z = 0 ↔ z = 0 := by
  have := i32eq h r32_0
  exact this
theorem lget {Z : EP} {top n i : Nat} {ls : List MV} {lr : Array Slot} {v : MV} (h : lrel Z top n ls lr) (hi : ls[i]? = some v) (hv : v ≠ vJ) : ∃ w, lr[i]? = some (.val w) ∧ vrel Z top v w := (h.2.2.2 i v hi).resolve_left hv
def lvAll (lr : Array Slot) (n : Nat) : List (Nat × Value) := (List.range n).filterMap (fun j => match (lr[j]? : Option Slot) with
  | some (Slot.val w) => some (j, w)
  | _ => none)
theorem lvAll_has {Z : EP} {top n : Nat} {ls : List MV} {lr : Array Slot} (h : lrel Z top n ls lr) : lv_has lr n (lvAll lr n) := by
  refine ⟨h.1, h.2.1, fun q hq => ?_⟩
  obtain ⟨j, hj, e⟩ := List.mem_filterMap.mp hq
  split at e
  · rename_i w hw
    cases e
    exact hw
  · cases e
theorem lvAll_mem {lr : Array Slot} {n j : Nat} {w : Value} (hj : j < n) (h : lr[j]? = some (.val w)) : (j, w) ∈ lvAll lr n :=
  List.mem_filterMap.mpr ⟨j, List.mem_range.mpr hj, by rw [h]⟩
def isLg : Option MV → Bool
  | some (.inr (.inl _)) => true
  | _ => false
def stL1 (ls : List MV) (i : Nat) (v : MV) : Option (List MV) :=
  if i < ls.length then (match i with
    | 0 => some (ls.set 0 v)
    | j + 1 => if isLg ls[j]? then some ((ls.set j vJ).set (j + 1) v) else some (ls.set (j + 1) v)) else none
def stL2 (ls : List MV) (i : Nat) (v : MV) : Option (List MV) :=
  if i + 1 < ls.length then (match i with
    | 0 => some ((ls.set 0 v).set 1 vJ)
    | j + 1 => if isLg ls[j]? then some (((ls.set j vJ).set (j + 1) v).set (j + 2) vJ) else some ((ls.set (j + 1) v).set (j + 2) vJ)) else none
/-- what a store leaves: for each place its value, the old one, or nothing -/
theorem stL1_spec {ls ls' : List MV} {i : Nat} {v : MV} (h : stL1 ls i v = some ls') : i < ls.length ∧ ls'.length = ls.length ∧ ∀ (j : Nat) (u : MV), ls'[j]? = some u → u = vJ ∨ (j = i ∧ u = v) ∨ (j ≠ i ∧ ls[j]? = some u ∧ ¬ (j + 1 = i ∧ isLg (some u) = true)) := by
  unfold stL1 at h
  split at h
  · rename_i hi
    refine ⟨hi, ?_⟩
    cases i with
    | zero =>
      cases h
      refine ⟨by simp, fun j u hj => ?_⟩
      rw [List.getElem?_set] at hj
      by_cases e : 0 = j
      · subst e
        simp [hi] at hj
        exact Or.inr (Or.inl ⟨rfl, hj.symm⟩)
      · rw [if_neg e] at hj
        exact Or.inr (Or.inr ⟨fun q => e q.symm, hj, fun q => by omega⟩)
    | succ k =>
      dsimp only at h
      split at h
      · rename_i hlg
        cases h
        refine ⟨by simp, fun j u hj => ?_⟩
        rw [List.getElem?_set] at hj
        by_cases e : k + 1 = j
        · subst e
          simp [hi] at hj
          exact Or.inr (Or.inl ⟨rfl, hj.symm⟩)
        · rw [if_neg e, List.getElem?_set] at hj
          by_cases e2 : k = j
          · subst e2
            have : k < ls.length := by omega
            simp [this] at hj
            exact Or.inl hj.symm
          · rw [if_neg e2] at hj
            exact Or.inr (Or.inr ⟨fun q => e q.symm, hj, fun q => by omega⟩)
      · rename_i hlg
        cases h
        refine ⟨by simp, fun j u hj => ?_⟩
        rw [List.getElem?_set] at hj
        by_cases e : k + 1 = j
        · subst e
          simp [hi] at hj
          exact Or.inr (Or.inl ⟨rfl, hj.symm⟩)
        · rw [if_neg e] at hj
          refine Or.inr (Or.inr ⟨fun q => e q.symm, hj, fun q => ?_⟩)
          have : j = k := by omega
          subst this
          rw [hj] at hlg
          exact hlg q.2
  · cases h
theorem stL2_spec {ls ls' : List MV} {i : Nat} {v : MV} (h : stL2 ls i v = some ls') : i + 1 < ls.length ∧ ls'.length = ls.length ∧ ∀ (j : Nat) (u : MV), ls'[j]? = some u → u = vJ ∨ (j = i ∧ u = v) ∨ (j ≠ i ∧ j ≠ i + 1 ∧ ls[j]? = some u ∧ ¬ (j + 1 = i ∧ isLg (some u) = true)) := by
  unfold stL2 at h
  split at h
  · rename_i hi
    refine ⟨hi, ?_⟩
    cases i with
    | zero =>
      cases h
      refine ⟨by simp, fun j u hj => ?_⟩
      rw [List.getElem?_set] at hj
      by_cases e1 : 1 = j
      · subst e1
        simp at hj
        exact Or.inl hj.2.symm
      · rw [if_neg e1, List.getElem?_set] at hj
        by_cases e : 0 = j
        · subst e
          simp at hj
          exact Or.inr (Or.inl ⟨rfl, hj.2.symm⟩)
        · rw [if_neg e] at hj
          exact Or.inr (Or.inr ⟨fun q => e q.symm, fun q => e1 q.symm, hj, fun q => by omega⟩)
    | succ k =>
      dsimp only at h
      split at h
      · rename_i hlg
        cases h
        refine ⟨by simp, fun j u hj => ?_⟩
        rw [List.getElem?_set] at hj
        by_cases e1 : k + 2 = j
        · subst e1
          simp at hj
          exact Or.inl hj.2.symm
        · rw [if_neg e1, List.getElem?_set] at hj
          by_cases e : k + 1 = j
          · subst e
            simp at hj
            exact Or.inr (Or.inl ⟨rfl, hj.2.symm⟩)
          · rw [if_neg e, List.getElem?_set] at hj
            by_cases e2 : k = j
            · subst e2
              simp at hj
              exact Or.inl hj.2.symm
            · rw [if_neg e2] at hj
              exact Or.inr (Or.inr ⟨fun q => e q.symm, fun q => e1 q.symm, hj, fun q => by omega⟩)
      · rename_i hlg
        cases h
        refine ⟨by simp, fun j u hj => ?_⟩
        rw [List.getElem?_set] at hj
        by_cases e1 : k + 2 = j
        · subst e1
          simp at hj
          exact Or.inl hj.2.symm
        · rw [if_neg e1, List.getElem?_set] at hj
          by_cases e : k + 1 = j
          · subst e
            simp at hj
            exact Or.inr (Or.inl ⟨rfl, hj.2.symm⟩)
          · rw [if_neg e] at hj
            refine Or.inr (Or.inr ⟨fun q => e q.symm, fun q => e1 q.symm, hj, fun q => ?_⟩)
            have : j = k := by omega
            subst this
            rw [hj] at hlg
            exact hlg q.2
  · cases h
theorem vrel_lg {Z : EP} {top : Nat} {v : MV} {w : Value} (h : vrel Z top v w) (hc : w.category = 2) : isLg (some v) = true := by
  match v, h with
  | .inl z, h => rw [h.1] at hc; simp [Value.category] at hc
  | .inr (.inl z), _ => rfl
  | .inr (.inr (.inl none)), h => rw [h.1] at hc; simp [zrv, Value.category] at hc
  | .inr (.inr (.inl (some q))), h => rw [h.1] at hc; simp [zrv, Value.category] at hc
  | .inr (.inr (.inr (.inl k))), h => rcases h with ⟨-, h⟩ | ⟨-, h⟩ <;> (rw [h] at hc; simp [Value.category] at hc)
  | .inr (.inr (.inr (.inr _))), h => obtain ⟨a, h⟩ := h; rw [h] at hc; simp [Value.category] at hc
theorem lst1 {Z : EP} {top n i : Nat} {ls ls' : List MV} {lr lr' : Array Slot} {v : MV} {w : Value} (h : lrel Z top n ls lr) (hs : stL1 ls i v = some ls') (hv : v ≠ vJ → vrel Z top v w)
    (h' : lv_has lr' n ((i, w) :: (lvAll lr n).filter (fun q => !(q.1 == i) && !(q.1 + 1 == i && q.2.category == 2)))) : lrel Z top n ls' lr' := by
  obtain ⟨hi, hlen, hg⟩ := stL1_spec hs
  obtain ⟨a1, a2, a3, a4⟩ := h
  refine ⟨h'.1, h'.2.1, by omega, fun j u hj => ?_⟩
  rcases hg j u hj with e | ⟨rfl, rfl⟩ | ⟨hne, hold, hlg⟩
  · exact Or.inl e
  · by_cases e : u = vJ
    · exact Or.inl e
    · exact Or.inr ⟨w, h'.2.2 (j, w) List.mem_cons_self, hv e⟩
  · rcases a4 j u hold with e | ⟨w', e1, e2⟩
    · exact Or.inl e
    · refine Or.inr ⟨w', h'.2.2 (j, w') (List.mem_cons_of_mem _ (List.mem_filter.mpr ⟨lvAll_mem ?_ e1, ?_⟩)), e2⟩
      · have := (Array.getElem?_eq_some_iff.mp e1).1
        omega
      · simp only [Bool.and_eq_true, Bool.not_eq_true', beq_eq_false_iff_ne, ne_eq, Bool.and_eq_false_iff]
        refine ⟨hne, ?_⟩
        by_cases c : j + 1 = i
        · refine Or.inr fun c2 => hlg ⟨c, vrel_lg e2 c2⟩
        · exact Or.inl c
theorem lst2 {Z : EP} {top n i : Nat} {ls ls' : List MV} {lr lr' : Array Slot} {v : MV} {w : Value} (h : lrel Z top n ls lr) (hs : stL2 ls i v = some ls') (hv : vrel Z top v w)
    (h' : lv_has lr' n ((i, w) :: (lvAll lr n).filter (fun q => !(q.1 == i) && (!(q.1 == i + 1) && !(q.1 + 1 == i && q.2.category == 2))))) : lrel Z top n ls' lr' := by
  obtain ⟨hi, hlen, hg⟩ := stL2_spec hs
  obtain ⟨a1, a2, a3, a4⟩ := h
  refine ⟨h'.1, h'.2.1, by omega, fun j u hj => ?_⟩
  rcases hg j u hj with e | ⟨rfl, rfl⟩ | ⟨hne, hne2, hold, hlg⟩
  · exact Or.inl e
  · exact Or.inr ⟨w, h'.2.2 (j, w) List.mem_cons_self, hv⟩
  · rcases a4 j u hold with e | ⟨w', e1, e2⟩
    · exact Or.inl e
    · refine Or.inr ⟨w', h'.2.2 (j, w') (List.mem_cons_of_mem _ (List.mem_filter.mpr ⟨lvAll_mem ?_ e1, ?_⟩)), e2⟩
      · have := (Array.getElem?_eq_some_iff.mp e1).1
        omega
      · simp only [Bool.and_eq_true, Bool.not_eq_true', beq_eq_false_iff_ne, ne_eq, Bool.and_eq_false_iff]
        refine ⟨hne, hne2, ?_⟩
        by_cases c : j + 1 = i
        · refine Or.inr fun c2 => hlg ⟨c, vrel_lg e2 c2⟩
        · exact Or.inl c
end
section
theorem eq32 {x : Int32} {z : Int} (h : x.toInt = z) : x = Int32.ofInt z := by
  rw [← h]; exact (Int32.ofInt_toInt x).symm
theorem eq64 {x : Int64} {z : Int} (h : x.toInt = z) : x = Int64.ofInt z := by
  rw [← h]; exact (Int64.ofInt_toInt x).symm
theorem bm32 {z : Int} (h : r32 z) : z.bmod (2 ^ 32) = z := by
  obtain ⟨h1, h2⟩ := h
  rw [Int.bmod_eq_of_le] <;> omega
theorem bm64 {z : Int} (h : r64 z) : z.bmod (2 ^ 64) = z := by
  obtain ⟨h1, h2⟩ := h
  rw [Int.bmod_eq_of_le] <;> omega
theorem i8w {z : Int} (h : -128 ≤ z ∧ z < 128) : (Int8.ofInt z).toInt32 = Int32.ofInt z := eq32 (by rw [Int8.toInt_toInt32, Int8.toInt_ofInt_of_le] <;> omega)
theorem i16w {z : Int} (h : -32768 ≤ z ∧ z < 32768) : (Int16.ofInt z).toInt32 = Int32.ofInt z := eq32 (by rw [Int16.toInt_toInt32, Int16.toInt_ofInt_of_le] <;> omega)
theorem i32add {x y : Int} : Int32.ofInt x + Int32.ofInt y = Int32.ofInt (x + y) := by
  apply Int32.toInt_inj.mp
  simp
theorem i32sub {x y : Int} : Int32.ofInt x - Int32.ofInt y = Int32.ofInt (x - y) := by
  apply Int32.toInt_inj.mp
  simp
theorem i32mul {x y : Int} : Int32.ofInt x * Int32.ofInt y = Int32.ofInt (x * y) := by
  apply Int32.toInt_inj.mp
  simp
theorem i64sub {x y : Int} : Int64.ofInt x - Int64.ofInt y = Int64.ofInt (x - y) := by
  apply Int64.toInt_inj.mp
  simp
theorem i64mul {x y : Int} : Int64.ofInt x * Int64.ofInt y = Int64.ofInt (x * y) := by
  apply Int64.toInt_inj.mp
  simp
theorem i32div {x y : Int} (hx : r32 x) (hy : r32 y) (h : r32 (x.tdiv y)) : Int32.ofInt x / Int32.ofInt y = Int32.ofInt (x.tdiv y) := eq32 (by rw [Int32.toInt_div, i32t hx, i32t hy, bm32 h])
theorem i64div {x y : Int} (hx : r64 x) (hy : r64 y) (h : r64 (x.tdiv y)) : Int64.ofInt x / Int64.ofInt y = Int64.ofInt (x.tdiv y) := eq64 (by rw [Int64.toInt_div, i64t hx, i64t hy, bm64 h])
theorem i32and {x : Int} (k : Nat) {y : Int32} (hk : k ≤ 16) (hy : y.toBitVec.toNat = 2 ^ k - 1) : Int32.ofInt x &&& y = Int32.ofInt (x % ((2 ^ k : Nat) : Int)) := by
  rw [pk_and _ k hy]
  have e1 : (Int32.ofInt x).toBitVec = BitVec.ofInt 32 x := rfl
  rw [e1, BitVec.toNat_ofInt]
  have h2 : ((2 ^ 32 : Nat) : Int) = ((2 ^ k : Nat) : Int) * ((2 ^ (32 - k) : Nat) : Int) := by
    rw [← Int.natCast_mul, ← Nat.pow_add, show k + (32 - k) = 32 by omega]
  have h3 : (((x % ((2 ^ 32 : Nat) : Int)).toNat % 2 ^ k : Nat) : Int) = x % ((2 ^ k : Nat) : Int) := by
    rw [Int.natCast_emod, Int.toNat_of_nonneg (Int.emod_nonneg _ (by decide)), Int.emod_emod_of_dvd _ ⟨_, h2⟩]
  show Int32.ofNat _ = _
  rw [← h3]
  rfl
theorem i64and {x : Int} : Int64.ofInt x &&& Int64.ofInt 255 = Int64.ofInt (x % 256) := by
  apply eq64
  have e1 : (Int64.ofInt x &&& Int64.ofInt 255).toBitVec = BitVec.ofInt 64 x &&& 255#64 := rfl
  have e2 : (Int64.ofInt x &&& Int64.ofInt 255).toInt = (BitVec.ofInt 64 x &&& 255#64).toInt := by rw [← e1]; rfl
  have e3 : (BitVec.ofInt 64 x &&& 255#64).toNat = (x % 256).toNat := by
    rw [BitVec.toNat_and, BitVec.toNat_ofInt, show (255#64).toNat = 2 ^ 8 - 1 from rfl, Nat.and_two_pow_sub_one_eq_mod]
    omega
  rw [e2, BitVec.toInt_eq_toNat_of_lt (by rw [e3]; omega), e3]
  omega
theorem i64shr {x : Int} {y : Int} (hx : r64 x) (h0 : 0 ≤ y) (h1 : y < 64) : Int64.ofInt x >>> ((Int32.ofInt y).toInt64 &&& 63) = Int64.ofInt (x >>> y.toNat) := by
  obtain ⟨n, rfl⟩ : ∃ n : Nat, y = n := ⟨y.toNat, by omega⟩
  have hn : n < 64 := by omega
  have key : ∀ k, k < 64 → (((Int32.ofInt (k : Nat)).toInt64 &&& 63).toBitVec.smod 64).toNat = k := by decide +kernel
  apply eq64
  have e1 : (Int64.ofInt x >>> ((Int32.ofInt (n : Int)).toInt64 &&& 63)).toInt = ((Int64.ofInt x).toBitVec.sshiftRight' (((Int32.ofInt (n : Int)).toInt64 &&& 63).toBitVec.smod 64)).toInt := rfl
  rw [e1]
  show ((Int64.ofInt x).toBitVec.sshiftRight (((Int32.ofInt (n : Int)).toInt64 &&& 63).toBitVec.smod 64).toNat).toInt = _
  rw [key n hn, BitVec.toInt_sshiftRight]
  show (Int64.ofInt x).toInt >>> n = _
  rw [i64t hx]
  simp

theorem R_iconst {m pc pc' : Nat} {ls st : List MV} {M : MH} {Q : Res → MH → Prop} {a b d : Nat} {z : Int} {tb : List (Int × Nat)} (hc : cod m pc = some (1, a, b, d, z, tb)) (hp : pc + 1 = pc') (h : Run m pc' ls (vI z :: st) M Q) : Run m pc ls st M Q := by
  subst hp
  have hd : decode (zby m) pc = .ok (.iconst z, 1) := (zdc hc).1
  have hb : -128 ≤ z ∧ z < 128 := of_decide_eq_true (show decide _ = true from (zdc hc).2.2.1)
  refine R_pure (fun Z p l e R s mid args below meth cc Qs C H locs cells slots lr sr hl hs hH hS b1 b2 k => ?_) h
  exact lv_iconst C.1 C.2.1 hd rfl (k lr _ hl ⟨⟨rfl, by constructor <;> omega⟩, hs⟩)
theorem R_bipush {m pc pc' : Nat} {ls st : List MV} {M : MH} {Q : Res → MH → Prop} {a b d : Nat} {z : Int} {tb : List (Int × Nat)} (hc : cod m pc = some (2, a, b, d, z, tb)) (hp : pc + 2 = pc') (h : Run m pc' ls (vI z :: st) M Q) : Run m pc ls st M Q := by
  subst hp
  have hd : decode (zby m) pc = .ok (.bipush z, 2) := (zdc hc).1
  have hb : -128 ≤ z ∧ z < 128 := of_decide_eq_true (show decide _ = true from (zdc hc).2.2.1)
  refine R_pure (fun Z p l e R s mid args below meth cc Qs C H locs cells slots lr sr hl hs hH hS b1 b2 k => ?_) h
  exact lv_bipush C.1 C.2.1 hd (i8w hb) (k lr _ hl ⟨⟨rfl, by constructor <;> omega⟩, hs⟩)
theorem R_sipush {m pc pc' : Nat} {ls st : List MV} {M : MH} {Q : Res → MH → Prop} {a b d : Nat} {z : Int} {tb : List (Int × Nat)} (hc : cod m pc = some (3, a, b, d, z, tb)) (hp : pc + 3 = pc') (h : Run m pc' ls (vI z :: st) M Q) : Run m pc ls st M Q := by
  subst hp
  have hd : decode (zby m) pc = .ok (.sipush z, 3) := (zdc hc).1
  have hb : -32768 ≤ z ∧ z < 32768 := of_decide_eq_true (show decide _ = true from (zdc hc).2.2.1)
  refine R_pure (fun Z p l e R s mid args below meth cc Qs C H locs cells slots lr sr hl hs hH hS b1 b2 k => ?_) h
  exact lv_sipush C.1 C.2.1 hd (i16w hb) (k lr _ hl ⟨⟨rfl, by constructor <;> omega⟩, hs⟩)
theorem R_lconst {m pc pc' : Nat} {ls st : List MV} {M : MH} {Q : Res → MH → Prop} {a b d : Nat} {z : Int} {tb : List (Int × Nat)} (hc : cod m pc = some (4, a, b, d, z, tb)) (hp : pc + 1 = pc') (h : Run m pc' ls (vL z :: st) M Q) : Run m pc ls st M Q := by
  subst hp
  have hd : decode (zby m) pc = .ok (.lconst (if a = 0 then 0 else 1), 1) := (zdc hc).1
  have hb : a < 2 ∧ z = a := of_decide_eq_true (show decide _ = true from (zdc hc).2.2.1)
  refine R_pure (fun Z p l e R s mid args below meth cc Qs C H locs cells slots lr sr hl hs hH hS b1 b2 k => ?_) h
  obtain ⟨ha, hz⟩ := hb
  subst hz
  refine lv_lconst (v := Int64.ofInt a) C.1 C.2.1 hd ?_ (k lr _ hl ⟨⟨rfl, by constructor <;> omega⟩, hs⟩)
  rcases (show a = 0 ∨ a = 1 by omega) with rfl | rfl <;> rfl
theorem R_ldc2 {m pc pc' : Nat} {ls st : List MV} {M : MH} {Q : Res → MH → Prop} {a b d : Nat} {z : Int} {tb : List (Int × Nat)} (hc : cod m pc = some (5, a, b, d, z, tb)) (hp : pc + 3 = pc') (h : Run m pc' ls (vL z :: st) M Q) : Run m pc ls st M Q := by
  subst hp
  have hd : decode (zby m) pc = .ok (.ldc2_w a, 3) := (zdc hc).1
  refine R_pure (fun Z p l e R s mid args below meth cc Qs C H locs cells slots lr sr hl hs hH hS b1 b2 k => ?_) h
  have hw : inW (66 + b) (.constantLong (zyn m).cls a (Int64.ofInt z)) = true ∧ decide (-9223372036854775808 ≤ z ∧ z < 9223372036854775808) = true := Bool.and_eq_true_iff.mp (show (_ && _) = true from (zdc hc).2.1)
  have hw2 : -9223372036854775808 ≤ z ∧ z < 9223372036854775808 := of_decide_eq_true hw.2
  exact lv_ldc2 C.1 C.2.1 C.2.2.2.1 (C.2.2.2.2.1 _ (inW_ok hw.1)) hd (k lr _ hl ⟨⟨rfl, hw2⟩, hs⟩)
theorem R_iload_n {m pc pc' : Nat} {ls st : List MV} {M : MH} {Q : Res → MH → Prop} {a b d : Nat} {z : Int} {tb : List (Int × Nat)} (hc : cod m pc = some (6, a, b, d, z, tb)) (hp : pc + 1 = pc') {x : Int} (hx : ls[a]? = some (vI x)) (h : Run m pc' ls (vI x :: st) M Q) : Run m pc ls st M Q := by
  subst hp
  have hd : decode (zby m) pc = .ok (.iload_n (zFin a), 1) := (zdc hc).1
  have hb : a < 4 := of_decide_eq_true (show decide _ = true from (zdc hc).2.2.1)
  refine R_pure (fun Z p l e R s mid args below meth cc Qs C H locs cells slots lr sr hl hs hH hS b1 b2 k => ?_) h
  obtain ⟨w, e1, rfl, e2⟩ := lget hl hx (by intro q; cases q)
  exact lv_iload_n C.1 C.2.1 hd (by simp [zFin, hb]) e1 (k lr _ hl ⟨⟨rfl, e2⟩, hs⟩)
theorem R_iload {m pc pc' : Nat} {ls st : List MV} {M : MH} {Q : Res → MH → Prop} {a b d : Nat} {z : Int} {tb : List (Int × Nat)} (hc : cod m pc = some (7, a, b, d, z, tb)) (hp : pc + 2 = pc') {x : Int} (hx : ls[a]? = some (vI x)) (h : Run m pc' ls (vI x :: st) M Q) : Run m pc ls st M Q := by
  subst hp
  have hd : decode (zby m) pc = .ok (.iload a, 2) := (zdc hc).1
  refine R_pure (fun Z p l e R s mid args below meth cc Qs C H locs cells slots lr sr hl hs hH hS b1 b2 k => ?_) h
  obtain ⟨w, e1, rfl, e2⟩ := lget hl hx (by intro q; cases q)
  exact lv_iload C.1 C.2.1 hd e1 (k lr _ hl ⟨⟨rfl, e2⟩, hs⟩)
theorem R_lload_n {m pc pc' : Nat} {ls st : List MV} {M : MH} {Q : Res → MH → Prop} {a b d : Nat} {z : Int} {tb : List (Int × Nat)} (hc : cod m pc = some (10, a, b, d, z, tb)) (hp : pc + 1 = pc') {x : Int} (hx : ls[a]? = some (vL x)) (h : Run m pc' ls (vL x :: st) M Q) : Run m pc ls st M Q := by
  subst hp
  have hd : decode (zby m) pc = .ok (.lload_n (zFin a), 1) := (zdc hc).1
  have hb : a < 4 := of_decide_eq_true (show decide _ = true from (zdc hc).2.2.1)
  refine R_pure (fun Z p l e R s mid args below meth cc Qs C H locs cells slots lr sr hl hs hH hS b1 b2 k => ?_) h
  obtain ⟨w, e1, rfl, e2⟩ := lget hl hx (by intro q; cases q)
  exact lv_lload_n C.1 C.2.1 hd (by simp [zFin, hb]) e1 (k lr _ hl ⟨⟨rfl, e2⟩, hs⟩)
theorem R_lload {m pc pc' : Nat} {ls st : List MV} {M : MH} {Q : Res → MH → Prop} {a b d : Nat} {z : Int} {tb : List (Int × Nat)} (hc : cod m pc = some (11, a, b, d, z, tb)) (hp : pc + 2 = pc') {x : Int} (hx : ls[a]? = some (vL x)) (h : Run m pc' ls (vL x :: st) M Q) : Run m pc ls st M Q := by
  subst hp
  have hd : decode (zby m) pc = .ok (.lload a, 2) := (zdc hc).1
  refine R_pure (fun Z p l e R s mid args below meth cc Qs C H locs cells slots lr sr hl hs hH hS b1 b2 k => ?_) h
  obtain ⟨w, e1, rfl, e2⟩ := lget hl hx (by intro q; cases q)
  exact lv_lload C.1 C.2.1 hd e1 (k lr _ hl ⟨⟨rfl, e2⟩, hs⟩)
theorem R_aload_n {m pc pc' : Nat} {ls st : List MV} {M : MH} {Q : Res → MH → Prop} {a b d : Nat} {z : Int} {tb : List (Int × Nat)} (hc : cod m pc = some (8, a, b, d, z, tb)) (hp : pc + 1 = pc') {r : Option Nat} (hx : ls[a]? = some (vR r)) (h : Run m pc' ls (vR r :: st) M Q) : Run m pc ls st M Q := by
  subst hp
  have hd : decode (zby m) pc = .ok (.aload_n (zFin a), 1) := (zdc hc).1
  have hb : a < 4 := of_decide_eq_true (show decide _ = true from (zdc hc).2.2.1)
  refine R_pure (fun Z p l e R s mid args below meth cc Qs C H locs cells slots lr sr hl hs hH hS b1 b2 k => ?_) h
  obtain ⟨w, e1, rfl, e2⟩ := lget hl hx (by intro q; cases q)
  cases r with
  | none => exact lv_aload_nN C.1 C.2.1 hd (by simp [zFin, hb]) e1 (k lr _ hl ⟨⟨rfl, e2⟩, hs⟩)
  | some x => exact lv_aload_n C.1 C.2.1 hd (by simp [zFin, hb]) e1 (k lr _ hl ⟨⟨rfl, e2⟩, hs⟩)
theorem R_aload_nS {m pc pc' : Nat} {ls st : List MV} {M : MH} {Q : Res → MH → Prop} {a b d : Nat} {z : Int} {tb : List (Int × Nat)} (hc : cod m pc = some (8, a, b, d, z, tb)) (hp : pc + 1 = pc') {x : Nat} (hx : ls[a]? = some (vS x)) (h : Run m pc' ls (vS x :: st) M Q) : Run m pc ls st M Q := by
  subst hp
  have hd : decode (zby m) pc = .ok (.aload_n (zFin a), 1) := (zdc hc).1
  have hb : a < 4 := of_decide_eq_true (show decide _ = true from (zdc hc).2.2.1)
  refine R_pure (fun Z p l e R s mid args below meth cc Qs C H locs cells slots lr sr hl hs hH hS b1 b2 k => ?_) h
  obtain ⟨w, e1, e2⟩ := lget hl hx (by intro q; cases q)
  rcases e2 with ⟨q1, rfl⟩ | ⟨q1, rfl⟩
  · exact lv_aload_n C.1 C.2.1 hd (by simp [zFin, hb]) e1 (k lr _ hl ⟨Or.inl ⟨q1, rfl⟩, hs⟩)
  · exact lv_aload_n C.1 C.2.1 hd (by simp [zFin, hb]) e1 (k lr _ hl ⟨Or.inr ⟨q1, rfl⟩, hs⟩)
theorem R_aload {m pc pc' : Nat} {ls st : List MV} {M : MH} {Q : Res → MH → Prop} {a b d : Nat} {z : Int} {tb : List (Int × Nat)} (hc : cod m pc = some (9, a, b, d, z, tb)) (hp : pc + 2 = pc') {r : Option Nat} (hx : ls[a]? = some (vR r)) (h : Run m pc' ls (vR r :: st) M Q) : Run m pc ls st M Q := by
  subst hp
  have hd : decode (zby m) pc = .ok (.aload a, 2) := (zdc hc).1
  refine R_pure (fun Z p l e R s mid args below meth cc Qs C H locs cells slots lr sr hl hs hH hS b1 b2 k => ?_) h
  obtain ⟨w, e1, rfl, e2⟩ := lget hl hx (by intro q; cases q)
  cases r with
  | none => exact lv_aloadN C.1 C.2.1 hd e1 (k lr _ hl ⟨⟨rfl, e2⟩, hs⟩)
  | some x => exact lv_aload C.1 C.2.1 hd e1 (k lr _ hl ⟨⟨rfl, e2⟩, hs⟩)
theorem R_aloadS {m pc pc' : Nat} {ls st : List MV} {M : MH} {Q : Res → MH → Prop} {a b d : Nat} {z : Int} {tb : List (Int × Nat)} (hc : cod m pc = some (9, a, b, d, z, tb)) (hp : pc + 2 = pc') {x : Nat} (hx : ls[a]? = some (vS x)) (h : Run m pc' ls (vS x :: st) M Q) : Run m pc ls st M Q := by
  subst hp
  have hd : decode (zby m) pc = .ok (.aload a, 2) := (zdc hc).1
  refine R_pure (fun Z p l e R s mid args below meth cc Qs C H locs cells slots lr sr hl hs hH hS b1 b2 k => ?_) h
  obtain ⟨w, e1, e2⟩ := lget hl hx (by intro q; cases q)
  rcases e2 with ⟨q1, rfl⟩ | ⟨q1, rfl⟩
  · exact lv_aload C.1 C.2.1 hd e1 (k lr _ hl ⟨Or.inl ⟨q1, rfl⟩, hs⟩)
  · exact lv_aload C.1 C.2.1 hd e1 (k lr _ hl ⟨Or.inr ⟨q1, rfl⟩, hs⟩)
theorem R_istore_n {m pc pc' : Nat} {ls st : List MV} {M : MH} {Q : Res → MH → Prop} {a b d : Nat} {z : Int} {tb : List (Int × Nat)} (hc : cod m pc = some (12, a, b, d, z, tb)) (hp : pc + 1 = pc') {x : Int} {ls' : List MV} (hx : stL1 ls a (vI x) = some ls') (h : Run m pc' ls' st M Q) : Run m pc ls (vI x :: st) M Q := by
  subst hp
  have hd : decode (zby m) pc = .ok (.istore_n (zFin a), 1) := (zdc hc).1
  have hb : a < 4 := of_decide_eq_true (show decide _ = true from (zdc hc).2.2.1)
  refine R_pure (fun Z p l e R s mid args below meth cc Qs C H locs cells slots lr sr hl hs hH hS b1 b2 k => ?_) h
  obtain ⟨w1, ws1, rfl, ⟨rfl, g1⟩, hs1⟩ := srel_cons hs
  have hs := hs1
  have hi : a < zml m := by have := (stL1_spec hx).1; have := hl.2.2.1; omega
  exact lv_istore_n C.1 C.2.1 hd (by simp [zFin, hb]) (lvAll_has hl) hi rfl (fun lr' h' => k lr' _ (lst1 hl hx (fun _ => ⟨rfl, g1⟩) h') hs)
theorem R_istore {m pc pc' : Nat} {ls st : List MV} {M : MH} {Q : Res → MH → Prop} {a b d : Nat} {z : Int} {tb : List (Int × Nat)} (hc : cod m pc = some (13, a, b, d, z, tb)) (hp : pc + 2 = pc') {x : Int} {ls' : List MV} (hx : stL1 ls a (vI x) = some ls') (h : Run m pc' ls' st M Q) : Run m pc ls (vI x :: st) M Q := by
  subst hp
  have hd : decode (zby m) pc = .ok (.istore a, 2) := (zdc hc).1
  refine R_pure (fun Z p l e R s mid args below meth cc Qs C H locs cells slots lr sr hl hs hH hS b1 b2 k => ?_) h
  obtain ⟨w1, ws1, rfl, ⟨rfl, g1⟩, hs1⟩ := srel_cons hs
  have hs := hs1
  have hi : a < zml m := by have := (stL1_spec hx).1; have := hl.2.2.1; omega
  exact lv_istore C.1 C.2.1 hd (lvAll_has hl) hi rfl (fun lr' h' => k lr' _ (lst1 hl hx (fun _ => ⟨rfl, g1⟩) h') hs)
theorem R_astore_n {m pc pc' : Nat} {ls st : List MV} {M : MH} {Q : Res → MH → Prop} {a b d : Nat} {z : Int} {tb : List (Int × Nat)} (hc : cod m pc = some (14, a, b, d, z, tb)) (hp : pc + 1 = pc') {r : Option Nat} {ls' : List MV} (hx : stL1 ls a (vR r) = some ls') (h : Run m pc' ls' st M Q) : Run m pc ls (vR r :: st) M Q := by
  subst hp
  have hd : decode (zby m) pc = .ok (.astore_n (zFin a), 1) := (zdc hc).1
  have hb : a < 4 := of_decide_eq_true (show decide _ = true from (zdc hc).2.2.1)
  refine R_pure (fun Z p l e R s mid args below meth cc Qs C H locs cells slots lr sr hl hs hH hS b1 b2 k => ?_) h
  obtain ⟨w1, ws1, rfl, ⟨rfl, g1⟩, hs1⟩ := srel_cons hs
  have hs := hs1
  have hi : a < zml m := by have := (stL1_spec hx).1; have := hl.2.2.1; omega
  cases r with
  | none => exact lv_astore_nN C.1 C.2.1 hd (by simp [zFin, hb]) (lvAll_has hl) hi rfl (fun lr' h' => k lr' _ (lst1 hl hx (fun _ => ⟨rfl, g1⟩) h') hs1)
  | some x => exact lv_astore_n C.1 C.2.1 hd (by simp [zFin, hb]) (lvAll_has hl) hi rfl (fun lr' h' => k lr' _ (lst1 hl hx (fun _ => ⟨rfl, g1⟩) h') hs1)
theorem R_astore_nJ {m pc pc' : Nat} {ls st : List MV} {M : MH} {Q : Res → MH → Prop} {a b d : Nat} {z : Int} {tb : List (Int × Nat)} (hc : cod m pc = some (14, a, b, d, z, tb)) (hp : pc + 1 = pc') {ls' : List MV} (hx : stL1 ls a vJ = some ls') (h : Run m pc' ls' st M Q) : Run m pc ls (vJ :: st) M Q := by
  subst hp
  have hd : decode (zby m) pc = .ok (.astore_n (zFin a), 1) := (zdc hc).1
  have hb : a < 4 := of_decide_eq_true (show decide _ = true from (zdc hc).2.2.1)
  refine R_pure (fun Z p l e R s mid args below meth cc Qs C H locs cells slots lr sr hl hs hH hS b1 b2 k => ?_) h
  obtain ⟨w1, ws1, rfl, ⟨x, rfl⟩, hs1⟩ := srel_cons hs
  have hs := hs1
  have hi : a < zml m := by have := (stL1_spec hx).1; have := hl.2.2.1; omega
  exact lv_astore_n C.1 C.2.1 hd (by simp [zFin, hb]) (lvAll_has hl) hi rfl (fun lr' h' => k lr' _ (lst1 hl hx (fun q => absurd rfl q) h') hs)
theorem R_astore {m pc pc' : Nat} {ls st : List MV} {M : MH} {Q : Res → MH → Prop} {a b d : Nat} {z : Int} {tb : List (Int × Nat)} (hc : cod m pc = some (15, a, b, d, z, tb)) (hp : pc + 2 = pc') {r : Option Nat} {ls' : List MV} (hx : stL1 ls a (vR r) = some ls') (h : Run m pc' ls' st M Q) : Run m pc ls (vR r :: st) M Q := by
  subst hp
  have hd : decode (zby m) pc = .ok (.astore a, 2) := (zdc hc).1
  refine R_pure (fun Z p l e R s mid args below meth cc Qs C H locs cells slots lr sr hl hs hH hS b1 b2 k => ?_) h
  obtain ⟨w1, ws1, rfl, ⟨rfl, g1⟩, hs1⟩ := srel_cons hs
  have hs := hs1
  have hi : a < zml m := by have := (stL1_spec hx).1; have := hl.2.2.1; omega
  cases r with
  | none => exact lv_astoreN C.1 C.2.1 hd (lvAll_has hl) hi rfl (fun lr' h' => k lr' _ (lst1 hl hx (fun _ => ⟨rfl, g1⟩) h') hs1)
  | some x => exact lv_astore C.1 C.2.1 hd (lvAll_has hl) hi rfl (fun lr' h' => k lr' _ (lst1 hl hx (fun _ => ⟨rfl, g1⟩) h') hs1)
theorem R_astoreJ {m pc pc' : Nat} {ls st : List MV} {M : MH} {Q : Res → MH → Prop} {a b d : Nat} {z : Int} {tb : List (Int × Nat)} (hc : cod m pc = some (15, a, b, d, z, tb)) (hp : pc + 2 = pc') {ls' : List MV} (hx : stL1 ls a vJ = some ls') (h : Run m pc' ls' st M Q) : Run m pc ls (vJ :: st) M Q := by
  subst hp
  have hd : decode (zby m) pc = .ok (.astore a, 2) := (zdc hc).1
  refine R_pure (fun Z p l e R s mid args below meth cc Qs C H locs cells slots lr sr hl hs hH hS b1 b2 k => ?_) h
  obtain ⟨w1, ws1, rfl, ⟨x, rfl⟩, hs1⟩ := srel_cons hs
  have hs := hs1
  have hi : a < zml m := by have := (stL1_spec hx).1; have := hl.2.2.1; omega
  exact lv_astore C.1 C.2.1 hd (lvAll_has hl) hi rfl (fun lr' h' => k lr' _ (lst1 hl hx (fun q => absurd rfl q) h') hs)
theorem R_lstore_n {m pc pc' : Nat} {ls st : List MV} {M : MH} {Q : Res → MH → Prop} {a b d : Nat} {z : Int} {tb : List (Int × Nat)} (hc : cod m pc = some (16, a, b, d, z, tb)) (hp : pc + 1 = pc') {x : Int} {ls' : List MV} (hx : stL2 ls a (vL x) = some ls') (h : Run m pc' ls' st M Q) : Run m pc ls (vL x :: st) M Q := by
  subst hp
  have hd : decode (zby m) pc = .ok (.lstore_n (zFin a), 1) := (zdc hc).1
  have hb : a < 4 := of_decide_eq_true (show decide _ = true from (zdc hc).2.2.1)
  refine R_pure (fun Z p l e R s mid args below meth cc Qs C H locs cells slots lr sr hl hs hH hS b1 b2 k => ?_) h
  obtain ⟨w1, ws1, rfl, ⟨rfl, g1⟩, hs1⟩ := srel_cons hs
  have hs := hs1
  have hi : a + 1 < zml m := by have := (stL2_spec hx).1; have := hl.2.2.1; omega
  exact lv_lstore_n C.1 C.2.1 hd (by simp [zFin, hb]) (lvAll_has hl) hi rfl (fun lr' h' => k lr' _ (lst2 hl hx ⟨rfl, g1⟩ h') hs)
theorem R_lstore {m pc pc' : Nat} {ls st : List MV} {M : MH} {Q : Res → MH → Prop} {a b d : Nat} {z : Int} {tb : List (Int × Nat)} (hc : cod m pc = some (17, a, b, d, z, tb)) (hp : pc + 2 = pc') {x : Int} {ls' : List MV} (hx : stL2 ls a (vL x) = some ls') (h : Run m pc' ls' st M Q) : Run m pc ls (vL x :: st) M Q := by
  subst hp
  have hd : decode (zby m) pc = .ok (.lstore a, 2) := (zdc hc).1
  refine R_pure (fun Z p l e R s mid args below meth cc Qs C H locs cells slots lr sr hl hs hH hS b1 b2 k => ?_) h
  obtain ⟨w1, ws1, rfl, ⟨rfl, g1⟩, hs1⟩ := srel_cons hs
  have hs := hs1
  have hi : a + 1 < zml m := by have := (stL2_spec hx).1; have := hl.2.2.1; omega
  exact lv_lstore C.1 C.2.1 hd (lvAll_has hl) hi rfl (fun lr' h' => k lr' _ (lst2 hl hx ⟨rfl, g1⟩ h') hs)
theorem R_iinc {m pc pc' : Nat} {ls st : List MV} {M : MH} {Q : Res → MH → Prop} {a b d : Nat} {z : Int} {tb : List (Int × Nat)} (hc : cod m pc = some (18, a, b, d, z, tb)) (hp : pc + 3 = pc') {x : Int} {ls' : List MV} (hx : ls[a]? = some (vI x)) (hr : r32 (x + z)) (hy : stL1 ls a (vI (x + z)) = some ls') (h : Run m pc' ls' st M Q) : Run m pc ls st M Q := by
  subst hp
  have hd : decode (zby m) pc = .ok (.iinc a z, 3) := (zdc hc).1
  refine R_pure (fun Z p l e R s mid args below meth cc Qs C H locs cells slots lr sr hl hs hH hS b1 b2 k => ?_) h
  obtain ⟨w, e1, rfl, e2⟩ := lget hl hx (by intro q; cases q)
  have hi : a < zml m := by have := (stL1_spec hy).1; have := hl.2.2.1; omega
  obtain ⟨j, hj⟩ := List.mem_iff_getElem?.mp (lvAll_mem hi e1)
  exact lv_iinc C.1 C.2.1 hd (lvAll_has hl) hj (v := Int32.ofInt (x + z)) i32add hi rfl (fun lr' h' => k lr' _ (lst1 hl hy (fun _ => ⟨rfl, hr⟩) h') hs)
theorem R_iadd {m pc pc' : Nat} {ls st : List MV} {M : MH} {Q : Res → MH → Prop} {a b d : Nat} {z : Int} {tb : List (Int × Nat)} (hc : cod m pc = some (19, a, b, d, z, tb)) (hp : pc + 1 = pc') {x y : Int} (hr : r32 (x + y)) (h : Run m pc' ls (vI (x + y) :: st) M Q) : Run m pc ls (vI y :: vI x :: st) M Q := by
  subst hp
  have hd : decode (zby m) pc = .ok (.iadd, 1) := (zdc hc).1
  refine R_pure (fun Z p l e R s mid args below meth cc Qs C H locs cells slots lr sr hl hs hH hS b1 b2 k => ?_) h
  obtain ⟨w1, ws1, rfl, ⟨rfl, g1⟩, hs1⟩ := srel_cons hs
  have hs := hs1
  obtain ⟨w2, ws2, rfl, ⟨rfl, g2⟩, hs2⟩ := srel_cons hs
  have hs := hs2
  exact lv_iadd C.1 C.2.1 hd (k lr _ hl ⟨⟨by rw [i32add], hr⟩, hs⟩)
theorem R_isub {m pc pc' : Nat} {ls st : List MV} {M : MH} {Q : Res → MH → Prop} {a b d : Nat} {z : Int} {tb : List (Int × Nat)} (hc : cod m pc = some (20, a, b, d, z, tb)) (hp : pc + 1 = pc') {x y : Int} (hr : r32 (x - y)) (h : Run m pc' ls (vI (x - y) :: st) M Q) : Run m pc ls (vI y :: vI x :: st) M Q := by
  subst hp
  have hd : decode (zby m) pc = .ok (.isub, 1) := (zdc hc).1
  refine R_pure (fun Z p l e R s mid args below meth cc Qs C H locs cells slots lr sr hl hs hH hS b1 b2 k => ?_) h
  obtain ⟨w1, ws1, rfl, ⟨rfl, g1⟩, hs1⟩ := srel_cons hs
  have hs := hs1
  obtain ⟨w2, ws2, rfl, ⟨rfl, g2⟩, hs2⟩ := srel_cons hs
  have hs := hs2
  exact lv_isub C.1 C.2.1 hd (k lr _ hl ⟨⟨by rw [i32sub], hr⟩, hs⟩)
theorem R_imul {m pc pc' : Nat} {ls st : List MV} {M : MH} {Q : Res → MH → Prop} {a b d : Nat} {z : Int} {tb : List (Int × Nat)} (hc : cod m pc = some (21, a, b, d, z, tb)) (hp : pc + 1 = pc') {x y : Int} (hr : r32 (x * y)) (h : Run m pc' ls (vI (x * y) :: st) M Q) : Run m pc ls (vI y :: vI x :: st) M Q := by
  subst hp
  have hd : decode (zby m) pc = .ok (.imul, 1) := (zdc hc).1
  refine R_pure (fun Z p l e R s mid args below meth cc Qs C H locs cells slots lr sr hl hs hH hS b1 b2 k => ?_) h
  obtain ⟨w1, ws1, rfl, ⟨rfl, g1⟩, hs1⟩ := srel_cons hs
  have hs := hs1
  obtain ⟨w2, ws2, rfl, ⟨rfl, g2⟩, hs2⟩ := srel_cons hs
  have hs := hs2
  exact lv_imul C.1 C.2.1 hd (k lr _ hl ⟨⟨by rw [i32mul], hr⟩, hs⟩)
theorem R_idiv {m pc pc' : Nat} {ls st : List MV} {M : MH} {Q : Res → MH → Prop} {a b d : Nat} {z : Int} {tb : List (Int × Nat)} (hc : cod m pc = some (22, a, b, d, z, tb)) (hp : pc + 1 = pc') {x y : Int} (hy : y ≠ 0) (hr : r32 (x.tdiv y)) (h : Run m pc' ls (vI (x.tdiv y) :: st) M Q) : Run m pc ls (vI y :: vI x :: st) M Q := by
  subst hp
  have hd : decode (zby m) pc = .ok (.idiv, 1) := (zdc hc).1
  refine R_pure (fun Z p l e R s mid args below meth cc Qs C H locs cells slots lr sr hl hs hH hS b1 b2 k => ?_) h
  obtain ⟨w1, ws1, rfl, ⟨rfl, g1⟩, hs1⟩ := srel_cons hs
  have hs := hs1
  obtain ⟨w2, ws2, rfl, ⟨rfl, g2⟩, hs2⟩ := srel_cons hs
  have hs := hs2
  exact lv_idiv C.1 C.2.1 hd (fun q => hy ((i32z g1).mp q)) (k lr _ hl ⟨⟨by rw [i32div g2 g1 hr], hr⟩, hs⟩)
theorem R_irem {m pc pc' : Nat} {ls st : List MV} {M : MH} {Q : Res → MH → Prop} {a b d : Nat} {z : Int} {tb : List (Int × Nat)} (hc : cod m pc = some (23, a, b, d, z, tb)) (hp : pc + 1 = pc') {x y : Int} (hy : y ≠ 0) (hr : r32 (x.tdiv y)) (hr2 : r32 (x.tmod y)) (h : Run m pc' ls (vI (x.tmod y) :: st) M Q) : Run m pc ls (vI y :: vI x :: st) M Q := by
  subst hp
  have hd : decode (zby m) pc = .ok (.irem, 1) := (zdc hc).1
  refine R_pure (fun Z p l e R s mid args below meth cc Qs C H locs cells slots lr sr hl hs hH hS b1 b2 k => ?_) h
  obtain ⟨w1, ws1, rfl, ⟨rfl, g1⟩, hs1⟩ := srel_cons hs
  have hs := hs1
  obtain ⟨w2, ws2, rfl, ⟨rfl, g2⟩, hs2⟩ := srel_cons hs
  have hs := hs2
  exact lv_irem C.1 C.2.1 hd (fun q => hy ((i32z g1).mp q)) (k lr _ hl ⟨⟨by rw [i32div g2 g1 hr, i32mul, i32sub, Int.tmod_def, Int.mul_comm], hr2⟩, hs⟩)
theorem R_iand255 {m pc pc' : Nat} {ls st : List MV} {M : MH} {Q : Res → MH → Prop} {a b d : Nat} {z : Int} {tb : List (Int × Nat)} (hc : cod m pc = some (24, a, b, d, z, tb)) (hp : pc + 1 = pc') {x : Int} (h : Run m pc' ls (vI (x % 256) :: st) M Q) : Run m pc ls (vI 255 :: vI x :: st) M Q := by
  subst hp
  have hd : decode (zby m) pc = .ok (.iand, 1) := (zdc hc).1
  refine R_pure (fun Z p l e R s mid args below meth cc Qs C H locs cells slots lr sr hl hs hH hS b1 b2 k => ?_) h
  obtain ⟨w1, ws1, rfl, ⟨rfl, g1⟩, hs1⟩ := srel_cons hs
  have hs := hs1
  obtain ⟨w2, ws2, rfl, ⟨rfl, g2⟩, hs2⟩ := srel_cons hs
  have hs := hs2
  refine lv_iand C.1 C.2.1 hd (k lr _ hl ⟨⟨?_, by constructor <;> omega⟩, hs⟩)
  rw [i32and 8 (by decide) rfl]
  rfl
theorem R_iand15 {m pc pc' : Nat} {ls st : List MV} {M : MH} {Q : Res → MH → Prop} {a b d : Nat} {z : Int} {tb : List (Int × Nat)} (hc : cod m pc = some (24, a, b, d, z, tb)) (hp : pc + 1 = pc') {x : Int} (h : Run m pc' ls (vI (x % 16) :: st) M Q) : Run m pc ls (vI 15 :: vI x :: st) M Q := by
  subst hp
  have hd : decode (zby m) pc = .ok (.iand, 1) := (zdc hc).1
  refine R_pure (fun Z p l e R s mid args below meth cc Qs C H locs cells slots lr sr hl hs hH hS b1 b2 k => ?_) h
  obtain ⟨w1, ws1, rfl, ⟨rfl, g1⟩, hs1⟩ := srel_cons hs
  have hs := hs1
  obtain ⟨w2, ws2, rfl, ⟨rfl, g2⟩, hs2⟩ := srel_cons hs
  have hs := hs2
  refine lv_iand C.1 C.2.1 hd (k lr _ hl ⟨⟨?_, by constructor <;> omega⟩, hs⟩)
  rw [i32and 4 (by decide) rfl]
  rfl
theorem R_i2l {m pc pc' : Nat} {ls st : List MV} {M : MH} {Q : Res → MH → Prop} {a b d : Nat} {z : Int} {tb : List (Int × Nat)} (hc : cod m pc = some (25, a, b, d, z, tb)) (hp : pc + 1 = pc') {x : Int} (h : Run m pc' ls (vL x :: st) M Q) : Run m pc ls (vI x :: st) M Q := by
  subst hp
  have hd : decode (zby m) pc = .ok (.i2l, 1) := (zdc hc).1
  refine R_pure (fun Z p l e R s mid args below meth cc Qs C H locs cells slots lr sr hl hs hH hS b1 b2 k => ?_) h
  obtain ⟨w1, ws1, rfl, ⟨rfl, g1⟩, hs1⟩ := srel_cons hs
  have hs := hs1
  exact lv_i2l C.1 C.2.1 hd (eq64 (by rw [Int32.toInt_toInt64, i32t g1])) (k lr _ hl ⟨⟨rfl, by obtain ⟨q1, q2⟩ := g1; constructor <;> omega⟩, hs⟩)
theorem R_l2i {m pc pc' : Nat} {ls st : List MV} {M : MH} {Q : Res → MH → Prop} {a b d : Nat} {z : Int} {tb : List (Int × Nat)} (hc : cod m pc = some (26, a, b, d, z, tb)) (hp : pc + 1 = pc') {x : Int} (hr : r32 x) (h : Run m pc' ls (vI x :: st) M Q) : Run m pc ls (vL x :: st) M Q := by
  subst hp
  have hd : decode (zby m) pc = .ok (.l2i, 1) := (zdc hc).1
  refine R_pure (fun Z p l e R s mid args below meth cc Qs C H locs cells slots lr sr hl hs hH hS b1 b2 k => ?_) h
  obtain ⟨w1, ws1, rfl, ⟨rfl, g1⟩, hs1⟩ := srel_cons hs
  have hs := hs1
  exact lv_l2i C.1 C.2.1 hd (eq32 (by rw [Int64.toInt_toInt32, i64t g1, bm32 hr])) (k lr _ hl ⟨⟨rfl, hr⟩, hs⟩)
theorem R_i2b {m pc pc' : Nat} {ls st : List MV} {M : MH} {Q : Res → MH → Prop} {a b d : Nat} {z : Int} {tb : List (Int × Nat)} (hc : cod m pc = some (27, a, b, d, z, tb)) (hp : pc + 1 = pc') {x : Int} (h : Run m pc' ls (vI ((x + 128) % 256 - 128) :: st) M Q) : Run m pc ls (vI x :: st) M Q := by
  subst hp
  have hd : decode (zby m) pc = .ok (.i2b, 1) := (zdc hc).1
  refine R_pure (fun Z p l e R s mid args below meth cc Qs C H locs cells slots lr sr hl hs hH hS b1 b2 k => ?_) h
  obtain ⟨w1, ws1, rfl, ⟨rfl, g1⟩, hs1⟩ := srel_cons hs
  have hs := hs1
  exact lv_i2b C.1 C.2.1 hd (eq32 (by rw [Int8.toInt_toInt32, Int32.toInt_toInt8, i32t g1, Int.bmod_def]; omega)) (k lr _ hl ⟨⟨rfl, by constructor <;> omega⟩, hs⟩)
theorem R_lcmp {m pc pc' : Nat} {ls st : List MV} {M : MH} {Q : Res → MH → Prop} {a b d : Nat} {z : Int} {tb : List (Int × Nat)} (hc : cod m pc = some (28, a, b, d, z, tb)) (hp : pc + 1 = pc') {x y : Int} (h : Run m pc' ls (vI (if y < x then 1 else if x = y then 0 else -1) :: st) M Q) : Run m pc ls (vL y :: vL x :: st) M Q := by
  subst hp
  have hd : decode (zby m) pc = .ok (.lcmp, 1) := (zdc hc).1
  refine R_pure (fun Z p l e R s mid args below meth cc Qs C H locs cells slots lr sr hl hs hH hS b1 b2 k => ?_) h
  obtain ⟨w1, ws1, rfl, ⟨rfl, g1⟩, hs1⟩ := srel_cons hs
  have hs := hs1
  obtain ⟨w2, ws2, rfl, ⟨rfl, g2⟩, hs2⟩ := srel_cons hs
  have hs := hs2
  refine W.lcmp C.1 C.2.1 hd (k lr _ hl ⟨⟨?_, by constructor <;> (split <;> (try split) <;> decide)⟩, hs⟩)
  unfold lg_cmp
  have q1 := i64lt g1 g2
  have q2 := i64eq g2 g1
  by_cases c1 : y < x
  · rw [if_pos (q1.mpr c1), if_pos c1]; rfl
  · rw [if_neg (fun q => c1 (q1.mp q)), if_neg c1]
    by_cases c2 : x = y
    · rw [if_pos (q2.mpr c2), if_pos c2]; rfl
    · rw [if_neg (fun q => c2 (q2.mp q)), if_neg c2]; rfl
theorem R_ldiv {m pc pc' : Nat} {ls st : List MV} {M : MH} {Q : Res → MH → Prop} {a b d : Nat} {z : Int} {tb : List (Int × Nat)} (hc : cod m pc = some (29, a, b, d, z, tb)) (hp : pc + 1 = pc') {x y : Int} (hy : y ≠ 0) (hr : r64 (x.tdiv y)) (h : Run m pc' ls (vL (x.tdiv y) :: st) M Q) : Run m pc ls (vL y :: vL x :: st) M Q := by
  subst hp
  have hd : decode (zby m) pc = .ok (.ldiv, 1) := (zdc hc).1
  refine R_pure (fun Z p l e R s mid args below meth cc Qs C H locs cells slots lr sr hl hs hH hS b1 b2 k => ?_) h
  obtain ⟨w1, ws1, rfl, ⟨rfl, g1⟩, hs1⟩ := srel_cons hs
  have hs := hs1
  obtain ⟨w2, ws2, rfl, ⟨rfl, g2⟩, hs2⟩ := srel_cons hs
  have hs := hs2
  exact lv_ldiv C.1 C.2.1 hd (fun q => hy ((i64eq g1 (by constructor <;> decide : r64 0)).mp q)) (k lr _ hl ⟨⟨by rw [i64div g2 g1 hr], hr⟩, hs⟩)
theorem R_lrem {m pc pc' : Nat} {ls st : List MV} {M : MH} {Q : Res → MH → Prop} {a b d : Nat} {z : Int} {tb : List (Int × Nat)} (hc : cod m pc = some (30, a, b, d, z, tb)) (hp : pc + 1 = pc') {x y : Int} (hy : y ≠ 0) (hr : r64 (x.tdiv y)) (hr2 : r64 (x.tmod y)) (h : Run m pc' ls (vL (x.tmod y) :: st) M Q) : Run m pc ls (vL y :: vL x :: st) M Q := by
  subst hp
  have hd : decode (zby m) pc = .ok (.lrem, 1) := (zdc hc).1
  refine R_pure (fun Z p l e R s mid args below meth cc Qs C H locs cells slots lr sr hl hs hH hS b1 b2 k => ?_) h
  obtain ⟨w1, ws1, rfl, ⟨rfl, g1⟩, hs1⟩ := srel_cons hs
  have hs := hs1
  obtain ⟨w2, ws2, rfl, ⟨rfl, g2⟩, hs2⟩ := srel_cons hs
  have hs := hs2
  exact lv_lrem C.1 C.2.1 hd (fun q => hy ((i64eq g1 (by constructor <;> decide : r64 0)).mp q)) (k lr _ hl ⟨⟨by rw [i64div g2 g1 hr, i64mul, i64sub, Int.tmod_def, Int.mul_comm], hr2⟩, hs⟩)
theorem R_lshr {m pc pc' : Nat} {ls st : List MV} {M : MH} {Q : Res → MH → Prop} {a b d : Nat} {z : Int} {tb : List (Int × Nat)} (hc : cod m pc = some (31, a, b, d, z, tb)) (hp : pc + 1 = pc') {x y : Int} (hy : 0 ≤ y ∧ y < 64) (hr : r64 (x >>> y.toNat)) (h : Run m pc' ls (vL (x >>> y.toNat) :: st) M Q) : Run m pc ls (vI y :: vL x :: st) M Q := by
  subst hp
  have hd : decode (zby m) pc = .ok (.lshr, 1) := (zdc hc).1
  refine R_pure (fun Z p l e R s mid args below meth cc Qs C H locs cells slots lr sr hl hs hH hS b1 b2 k => ?_) h
  obtain ⟨w1, ws1, rfl, ⟨rfl, g1⟩, hs1⟩ := srel_cons hs
  have hs := hs1
  obtain ⟨w2, ws2, rfl, ⟨rfl, g2⟩, hs2⟩ := srel_cons hs
  have hs := hs2
  exact lv_lshr C.1 C.2.1 hd (i64shr g2 hy.1 hy.2) (k lr _ hl ⟨⟨rfl, hr⟩, hs⟩)
theorem R_land255 {m pc pc' : Nat} {ls st : List MV} {M : MH} {Q : Res → MH → Prop} {a b d : Nat} {z : Int} {tb : List (Int × Nat)} (hc : cod m pc = some (32, a, b, d, z, tb)) (hp : pc + 1 = pc') {x : Int} (h : Run m pc' ls (vL (x % 256) :: st) M Q) : Run m pc ls (vL 255 :: vL x :: st) M Q := by
  subst hp
  have hd : decode (zby m) pc = .ok (.land, 1) := (zdc hc).1
  refine R_pure (fun Z p l e R s mid args below meth cc Qs C H locs cells slots lr sr hl hs hH hS b1 b2 k => ?_) h
  obtain ⟨w1, ws1, rfl, ⟨rfl, g1⟩, hs1⟩ := srel_cons hs
  have hs := hs1
  obtain ⟨w2, ws2, rfl, ⟨rfl, g2⟩, hs2⟩ := srel_cons hs
  have hs := hs2
  exact lv_land C.1 C.2.1 hd (k lr _ hl ⟨⟨by rw [i64and], by constructor <;> omega⟩, hs⟩)
theorem vcat {Z : EP} {top : Nat} {v : MV} {w : Value} (h : vrel Z top v w) (hv : isLg (some v) = false) : w.category = 1 := by
  rcases lv_cat w with q | q
  · exact q
  · rw [vrel_lg h q] at hv
    cases hv
theorem R_dup {m pc pc' : Nat} {ls st : List MV} {M : MH} {Q : Res → MH → Prop} {a b d : Nat} {z : Int} {tb : List (Int × Nat)} (hc : cod m pc = some (33, a, b, d, z, tb)) (hp : pc + 1 = pc') {v : MV} (hv : isLg (some v) = false) (h : Run m pc' ls (v :: v :: st) M Q) : Run m pc ls (v :: st) M Q := by
  subst hp
  have hd : decode (zby m) pc = .ok (.dup, 1) := (zdc hc).1
  refine R_pure (fun Z p l e R s mid args below meth cc Qs C H locs cells slots lr sr hl hs hH hS b1 b2 k => ?_) h
  obtain ⟨w1, ws1, rfl, g1, hs1⟩ := srel_cons hs
  have hs := hs1
  exact lv_dup C.1 C.2.1 hd (vcat g1 hv) (k lr _ hl ⟨g1, g1, hs⟩)
theorem R_dup2 {m pc pc' : Nat} {ls st : List MV} {M : MH} {Q : Res → MH → Prop} {a b d : Nat} {z : Int} {tb : List (Int × Nat)} (hc : cod m pc = some (34, a, b, d, z, tb)) (hp : pc + 1 = pc') {v u : MV} (hv : isLg (some v) = false) (hu : isLg (some u) = false) (h : Run m pc' ls (v :: u :: v :: u :: st) M Q) : Run m pc ls (v :: u :: st) M Q := by
  subst hp
  have hd : decode (zby m) pc = .ok (.dup2, 1) := (zdc hc).1
  refine R_pure (fun Z p l e R s mid args below meth cc Qs C H locs cells slots lr sr hl hs hH hS b1 b2 k => ?_) h
  obtain ⟨w1, ws1, rfl, g1, hs1⟩ := srel_cons hs
  obtain ⟨w2, ws2, rfl, g2, hs2⟩ := srel_cons hs1
  have hs := hs2
  exact lv_dup2_11 C.1 C.2.1 hd (vcat g1 hv) (vcat g2 hu) (k lr _ hl ⟨g1, g2, g1, g2, hs⟩)
theorem R_pop {m pc pc' : Nat} {ls st : List MV} {M : MH} {Q : Res → MH → Prop} {a b d : Nat} {z : Int} {tb : List (Int × Nat)} (hc : cod m pc = some (35, a, b, d, z, tb)) (hp : pc + 1 = pc') {v : MV} (hv : isLg (some v) = false) (h : Run m pc' ls st M Q) : Run m pc ls (v :: st) M Q := by
  subst hp
  have hd : decode (zby m) pc = .ok (.pop, 1) := (zdc hc).1
  refine R_pure (fun Z p l e R s mid args below meth cc Qs C H locs cells slots lr sr hl hs hH hS b1 b2 k => ?_) h
  obtain ⟨w1, ws1, rfl, g1, hs1⟩ := srel_cons hs
  have hs := hs1
  exact lv_pop C.1 C.2.1 hd (vcat g1 hv) (k lr _ hl hs)
theorem i32ze {x : Int} (g : r32 x) : Int32.ofInt x = 0 ↔ x = 0 := i32z g
theorem i32zn {x : Int} (g : r32 x) : (¬ Int32.ofInt x = 0) ↔ ¬ x = 0 := not_congr (i32z g)
theorem i32zl {x : Int} (g : r32 x) : Int32.ofInt x < 0 ↔ x < 0 := i32neg g
theorem i32zg {x : Int} (g : r32 x) : 0 ≤ Int32.ofInt x ↔ 0 ≤ x := i32le r32_0 g
theorem i32zp {x : Int} (g : r32 x) : 0 < Int32.ofInt x ↔ 0 < x := i32lt r32_0 g
theorem i32zm {x : Int} (g : r32 x) : Int32.ofInt x ≤ 0 ↔ x ≤ 0 := i32le g r32_0
theorem R_ifeq {m pc pc' : Nat} {ls st : List MV} {M : MH} {Q : Res → MH → Prop} {a b d : Nat} {z : Int} {tb : List (Int × Nat)} {x : Int} (hc : cod m pc = some (36, a, b, d, z, tb)) (hp : pc + 3 = pc') (ht : (x = 0) → Run m a ls st M Q) (hf : ¬ (x = 0) → Run m pc' ls st M Q) : Run m pc ls (vI x :: st) M Q := by
  subst hp
  have hd : decode (zby m) pc = .ok (.ifCond .eq z, 3) := (zdc hc).1
  have hb : (pc : Int) + z = a := of_decide_eq_true (show decide _ = true from (zdc hc).2.2.1)
  by_cases hh : (x = 0)
  · refine R_pure (fun Z p l e R s mid args below meth cc Qs C H locs cells slots lr sr hl hs hH hS b1 b2 k => ?_) (ht hh)
    obtain ⟨w1, ws1, rfl, ⟨rfl, g1⟩, hs1⟩ := srel_cons hs
    have hs := hs1
    exact lv_if_eq C.1 C.2.1 hd hb (fun _ => k lr _ hl hs) (fun q => by first | exact absurd ((i32ze g1).mpr hh) q | exact absurd q ((i32ze g1).mpr hh))
  · refine R_pure (fun Z p l e R s mid args below meth cc Qs C H locs cells slots lr sr hl hs hH hS b1 b2 k => ?_) (hf hh)
    obtain ⟨w1, ws1, rfl, ⟨rfl, g1⟩, hs1⟩ := srel_cons hs
    have hs := hs1
    exact lv_if_eq C.1 C.2.1 hd hb (fun q => absurd ((i32ze g1).mp q) hh) (fun _ => k lr _ hl hs)
theorem R_ifne {m pc pc' : Nat} {ls st : List MV} {M : MH} {Q : Res → MH → Prop} {a b d : Nat} {z : Int} {tb : List (Int × Nat)} {x : Int} (hc : cod m pc = some (37, a, b, d, z, tb)) (hp : pc + 3 = pc') (ht : (¬ x = 0) → Run m a ls st M Q) (hf : ¬ (¬ x = 0) → Run m pc' ls st M Q) : Run m pc ls (vI x :: st) M Q := by
  subst hp
  have hd : decode (zby m) pc = .ok (.ifCond .ne z, 3) := (zdc hc).1
  have hb : (pc : Int) + z = a := of_decide_eq_true (show decide _ = true from (zdc hc).2.2.1)
  by_cases hh : (¬ x = 0)
  · refine R_pure (fun Z p l e R s mid args below meth cc Qs C H locs cells slots lr sr hl hs hH hS b1 b2 k => ?_) (ht hh)
    obtain ⟨w1, ws1, rfl, ⟨rfl, g1⟩, hs1⟩ := srel_cons hs
    have hs := hs1
    exact lv_if_ne C.1 C.2.1 hd hb (fun _ => k lr _ hl hs) (fun q => by first | exact absurd ((i32zn g1).mpr hh) q | exact absurd q ((i32zn g1).mpr hh))
  · refine R_pure (fun Z p l e R s mid args below meth cc Qs C H locs cells slots lr sr hl hs hH hS b1 b2 k => ?_) (hf hh)
    obtain ⟨w1, ws1, rfl, ⟨rfl, g1⟩, hs1⟩ := srel_cons hs
    have hs := hs1
    exact lv_if_ne C.1 C.2.1 hd hb (fun q => absurd ((i32zn g1).mp q) hh) (fun _ => k lr _ hl hs)
theorem R_iflt {m pc pc' : Nat} {ls st : List MV} {M : MH} {Q : Res → MH → Prop} {a b d : Nat} {z : Int} {tb : List (Int × Nat)} {x : Int} (hc : cod m pc = some (38, a, b, d, z, tb)) (hp : pc + 3 = pc') (ht : (x < 0) → Run m a ls st M Q) (hf : ¬ (x < 0) → Run m pc' ls st M Q) : Run m pc ls (vI x :: st) M Q := by
  subst hp
  have hd : decode (zby m) pc = .ok (.ifCond .lt z, 3) := (zdc hc).1
  have hb : (pc : Int) + z = a := of_decide_eq_true (show decide _ = true from (zdc hc).2.2.1)
  by_cases hh : (x < 0)
  · refine R_pure (fun Z p l e R s mid args below meth cc Qs C H locs cells slots lr sr hl hs hH hS b1 b2 k => ?_) (ht hh)
    obtain ⟨w1, ws1, rfl, ⟨rfl, g1⟩, hs1⟩ := srel_cons hs
    have hs := hs1
    exact lv_if_lt C.1 C.2.1 hd hb (fun _ => k lr _ hl hs) (fun q => by first | exact absurd ((i32zl g1).mpr hh) q | exact absurd q ((i32zl g1).mpr hh))
  · refine R_pure (fun Z p l e R s mid args below meth cc Qs C H locs cells slots lr sr hl hs hH hS b1 b2 k => ?_) (hf hh)
    obtain ⟨w1, ws1, rfl, ⟨rfl, g1⟩, hs1⟩ := srel_cons hs
    have hs := hs1
    exact lv_if_lt C.1 C.2.1 hd hb (fun q => absurd ((i32zl g1).mp q) hh) (fun _ => k lr _ hl hs)
theorem R_ifge {m pc pc' : Nat} {ls st : List MV} {M : MH} {Q : Res → MH → Prop} {a b d : Nat} {z : Int} {tb : List (Int × Nat)} {x : Int} (hc : cod m pc = some (39, a, b, d, z, tb)) (hp : pc + 3 = pc') (ht : (0 ≤ x) → Run m a ls st M Q) (hf : ¬ (0 ≤ x) → Run m pc' ls st M Q) : Run m pc ls (vI x :: st) M Q := by
  subst hp
  have hd : decode (zby m) pc = .ok (.ifCond .ge z, 3) := (zdc hc).1
  have hb : (pc : Int) + z = a := of_decide_eq_true (show decide _ = true from (zdc hc).2.2.1)
  by_cases hh : (0 ≤ x)
  · refine R_pure (fun Z p l e R s mid args below meth cc Qs C H locs cells slots lr sr hl hs hH hS b1 b2 k => ?_) (ht hh)
    obtain ⟨w1, ws1, rfl, ⟨rfl, g1⟩, hs1⟩ := srel_cons hs
    have hs := hs1
    exact lv_if_ge C.1 C.2.1 hd hb (fun _ => k lr _ hl hs) (fun q => by first | exact absurd ((i32zg g1).mpr hh) q | exact absurd q ((i32zg g1).mpr hh))
  · refine R_pure (fun Z p l e R s mid args below meth cc Qs C H locs cells slots lr sr hl hs hH hS b1 b2 k => ?_) (hf hh)
    obtain ⟨w1, ws1, rfl, ⟨rfl, g1⟩, hs1⟩ := srel_cons hs
    have hs := hs1
    exact lv_if_ge C.1 C.2.1 hd hb (fun q => absurd ((i32zg g1).mp q) hh) (fun _ => k lr _ hl hs)
theorem R_ifgt {m pc pc' : Nat} {ls st : List MV} {M : MH} {Q : Res → MH → Prop} {a b d : Nat} {z : Int} {tb : List (Int × Nat)} {x : Int} (hc : cod m pc = some (40, a, b, d, z, tb)) (hp : pc + 3 = pc') (ht : (0 < x) → Run m a ls st M Q) (hf : ¬ (0 < x) → Run m pc' ls st M Q) : Run m pc ls (vI x :: st) M Q := by
  subst hp
  have hd : decode (zby m) pc = .ok (.ifCond .gt z, 3) := (zdc hc).1
  have hb : (pc : Int) + z = a := of_decide_eq_true (show decide _ = true from (zdc hc).2.2.1)
  by_cases hh : (0 < x)
  · refine R_pure (fun Z p l e R s mid args below meth cc Qs C H locs cells slots lr sr hl hs hH hS b1 b2 k => ?_) (ht hh)
    obtain ⟨w1, ws1, rfl, ⟨rfl, g1⟩, hs1⟩ := srel_cons hs
    have hs := hs1
    exact lv_if_gt C.1 C.2.1 hd hb (fun _ => k lr _ hl hs) (fun q => by first | exact absurd ((i32zp g1).mpr hh) q | exact absurd q ((i32zp g1).mpr hh))
  · refine R_pure (fun Z p l e R s mid args below meth cc Qs C H locs cells slots lr sr hl hs hH hS b1 b2 k => ?_) (hf hh)
    obtain ⟨w1, ws1, rfl, ⟨rfl, g1⟩, hs1⟩ := srel_cons hs
    have hs := hs1
    exact lv_if_gt C.1 C.2.1 hd hb (fun q => absurd ((i32zp g1).mp q) hh) (fun _ => k lr _ hl hs)
theorem R_ifle {m pc pc' : Nat} {ls st : List MV} {M : MH} {Q : Res → MH → Prop} {a b d : Nat} {z : Int} {tb : List (Int × Nat)} {x : Int} (hc : cod m pc = some (41, a, b, d, z, tb)) (hp : pc + 3 = pc') (ht : (x ≤ 0) → Run m a ls st M Q) (hf : ¬ (x ≤ 0) → Run m pc' ls st M Q) : Run m pc ls (vI x :: st) M Q := by
  subst hp
  have hd : decode (zby m) pc = .ok (.ifCond .le z, 3) := (zdc hc).1
  have hb : (pc : Int) + z = a := of_decide_eq_true (show decide _ = true from (zdc hc).2.2.1)
  by_cases hh : (x ≤ 0)
  · refine R_pure (fun Z p l e R s mid args below meth cc Qs C H locs cells slots lr sr hl hs hH hS b1 b2 k => ?_) (ht hh)
    obtain ⟨w1, ws1, rfl, ⟨rfl, g1⟩, hs1⟩ := srel_cons hs
    have hs := hs1
    exact lv_if_le C.1 C.2.1 hd hb (fun _ => k lr _ hl hs) (fun q => by first | exact absurd ((i32zm g1).mpr hh) q | exact absurd q ((i32zm g1).mpr hh))
  · refine R_pure (fun Z p l e R s mid args below meth cc Qs C H locs cells slots lr sr hl hs hH hS b1 b2 k => ?_) (hf hh)
    obtain ⟨w1, ws1, rfl, ⟨rfl, g1⟩, hs1⟩ := srel_cons hs
    have hs := hs1
    exact lv_if_le C.1 C.2.1 hd hb (fun q => absurd ((i32zm g1).mp q) hh) (fun _ => k lr _ hl hs)
theorem R_iceq {m pc pc' : Nat} {ls st : List MV} {M : MH} {Q : Res → MH → Prop} {a b d : Nat} {z : Int} {tb : List (Int × Nat)} {x y : Int} (hc : cod m pc = some (42, a, b, d, z, tb)) (hp : pc + 3 = pc') (ht : (x = y) → Run m a ls st M Q) (hf : ¬ (x = y) → Run m pc' ls st M Q) : Run m pc ls (vI y :: vI x :: st) M Q := by
  subst hp
  have hd : decode (zby m) pc = .ok (.if_icmp .eq z, 3) := (zdc hc).1
  have hb : (pc : Int) + z = a := of_decide_eq_true (show decide _ = true from (zdc hc).2.2.1)
  by_cases hh : (x = y)
  · refine R_pure (fun Z p l e R s mid args below meth cc Qs C H locs cells slots lr sr hl hs hH hS b1 b2 k => ?_) (ht hh)
    obtain ⟨w1, ws1, rfl, ⟨rfl, g1⟩, hs1⟩ := srel_cons hs
    have hs := hs1
    obtain ⟨w2, ws2, rfl, ⟨rfl, g2⟩, hs2⟩ := srel_cons hs
    have hs := hs2
    exact lv_icmp_eq C.1 C.2.1 hd hb (fun _ => k lr _ hl hs) (fun q => by first | exact absurd ((i32eq g2 g1).mpr hh) q | exact absurd q ((i32eq g2 g1).mpr hh))
  · refine R_pure (fun Z p l e R s mid args below meth cc Qs C H locs cells slots lr sr hl hs hH hS b1 b2 k => ?_) (hf hh)
    obtain ⟨w1, ws1, rfl, ⟨rfl, g1⟩, hs1⟩ := srel_cons hs
    have hs := hs1
    obtain ⟨w2, ws2, rfl, ⟨rfl, g2⟩, hs2⟩ := srel_cons hs
    have hs := hs2
    exact lv_icmp_eq C.1 C.2.1 hd hb (fun q => absurd ((i32eq g2 g1).mp q) hh) (fun _ => k lr _ hl hs)
theorem R_icne {m pc pc' : Nat} {ls st : List MV} {M : MH} {Q : Res → MH → Prop} {a b d : Nat} {z : Int} {tb : List (Int × Nat)} {x y : Int} (hc : cod m pc = some (43, a, b, d, z, tb)) (hp : pc + 3 = pc') (ht : (¬ x = y) → Run m a ls st M Q) (hf : ¬ (¬ x = y) → Run m pc' ls st M Q) : Run m pc ls (vI y :: vI x :: st) M Q := by
  subst hp
  have hd : decode (zby m) pc = .ok (.if_icmp .ne z, 3) := (zdc hc).1
  have hb : (pc : Int) + z = a := of_decide_eq_true (show decide _ = true from (zdc hc).2.2.1)
  by_cases hh : (¬ x = y)
  · refine R_pure (fun Z p l e R s mid args below meth cc Qs C H locs cells slots lr sr hl hs hH hS b1 b2 k => ?_) (ht hh)
    obtain ⟨w1, ws1, rfl, ⟨rfl, g1⟩, hs1⟩ := srel_cons hs
    have hs := hs1
    obtain ⟨w2, ws2, rfl, ⟨rfl, g2⟩, hs2⟩ := srel_cons hs
    have hs := hs2
    exact lv_icmp_ne C.1 C.2.1 hd hb (fun _ => k lr _ hl hs) (fun q => by first | exact absurd ((not_congr (i32eq g2 g1)).mpr hh) q | exact absurd q ((not_congr (i32eq g2 g1)).mpr hh))
  · refine R_pure (fun Z p l e R s mid args below meth cc Qs C H locs cells slots lr sr hl hs hH hS b1 b2 k => ?_) (hf hh)
    obtain ⟨w1, ws1, rfl, ⟨rfl, g1⟩, hs1⟩ := srel_cons hs
    have hs := hs1
    obtain ⟨w2, ws2, rfl, ⟨rfl, g2⟩, hs2⟩ := srel_cons hs
    have hs := hs2
    exact lv_icmp_ne C.1 C.2.1 hd hb (fun q => absurd ((not_congr (i32eq g2 g1)).mp q) hh) (fun _ => k lr _ hl hs)
theorem R_iclt {m pc pc' : Nat} {ls st : List MV} {M : MH} {Q : Res → MH → Prop} {a b d : Nat} {z : Int} {tb : List (Int × Nat)} {x y : Int} (hc : cod m pc = some (44, a, b, d, z, tb)) (hp : pc + 3 = pc') (ht : (x < y) → Run m a ls st M Q) (hf : ¬ (x < y) → Run m pc' ls st M Q) : Run m pc ls (vI y :: vI x :: st) M Q := by
  subst hp
  have hd : decode (zby m) pc = .ok (.if_icmp .lt z, 3) := (zdc hc).1
  have hb : (pc : Int) + z = a := of_decide_eq_true (show decide _ = true from (zdc hc).2.2.1)
  by_cases hh : (x < y)
  · refine R_pure (fun Z p l e R s mid args below meth cc Qs C H locs cells slots lr sr hl hs hH hS b1 b2 k => ?_) (ht hh)
    obtain ⟨w1, ws1, rfl, ⟨rfl, g1⟩, hs1⟩ := srel_cons hs
    have hs := hs1
    obtain ⟨w2, ws2, rfl, ⟨rfl, g2⟩, hs2⟩ := srel_cons hs
    have hs := hs2
    exact lv_icmp_lt C.1 C.2.1 hd hb (fun _ => k lr _ hl hs) (fun q => by first | exact absurd ((i32lt g2 g1).mpr hh) q | exact absurd q ((i32lt g2 g1).mpr hh))
  · refine R_pure (fun Z p l e R s mid args below meth cc Qs C H locs cells slots lr sr hl hs hH hS b1 b2 k => ?_) (hf hh)
    obtain ⟨w1, ws1, rfl, ⟨rfl, g1⟩, hs1⟩ := srel_cons hs
    have hs := hs1
    obtain ⟨w2, ws2, rfl, ⟨rfl, g2⟩, hs2⟩ := srel_cons hs
    have hs := hs2
    exact lv_icmp_lt C.1 C.2.1 hd hb (fun q => absurd ((i32lt g2 g1).mp q) hh) (fun _ => k lr _ hl hs)
theorem R_icge {m pc pc' : Nat} {ls st : List MV} {M : MH} {Q : Res → MH → Prop} {a b d : Nat} {z : Int} {tb : List (Int × Nat)} {x y : Int} (hc : cod m pc = some (45, a, b, d, z, tb)) (hp : pc + 3 = pc') (ht : (y ≤ x) → Run m a ls st M Q) (hf : ¬ (y ≤ x) → Run m pc' ls st M Q) : Run m pc ls (vI y :: vI x :: st) M Q := by
  subst hp
  have hd : decode (zby m) pc = .ok (.if_icmp .ge z, 3) := (zdc hc).1
  have hb : (pc : Int) + z = a := of_decide_eq_true (show decide _ = true from (zdc hc).2.2.1)
  by_cases hh : (y ≤ x)
  · refine R_pure (fun Z p l e R s mid args below meth cc Qs C H locs cells slots lr sr hl hs hH hS b1 b2 k => ?_) (ht hh)
    obtain ⟨w1, ws1, rfl, ⟨rfl, g1⟩, hs1⟩ := srel_cons hs
    have hs := hs1
    obtain ⟨w2, ws2, rfl, ⟨rfl, g2⟩, hs2⟩ := srel_cons hs
    have hs := hs2
    exact lv_icmp_ge C.1 C.2.1 hd hb (fun _ => k lr _ hl hs) (fun q => by first | exact absurd ((i32le g1 g2).mpr hh) q | exact absurd q ((i32le g1 g2).mpr hh))
  · refine R_pure (fun Z p l e R s mid args below meth cc Qs C H locs cells slots lr sr hl hs hH hS b1 b2 k => ?_) (hf hh)
    obtain ⟨w1, ws1, rfl, ⟨rfl, g1⟩, hs1⟩ := srel_cons hs
    have hs := hs1
    obtain ⟨w2, ws2, rfl, ⟨rfl, g2⟩, hs2⟩ := srel_cons hs
    have hs := hs2
    exact lv_icmp_ge C.1 C.2.1 hd hb (fun q => absurd ((i32le g1 g2).mp q) hh) (fun _ => k lr _ hl hs)
theorem R_icgt {m pc pc' : Nat} {ls st : List MV} {M : MH} {Q : Res → MH → Prop} {a b d : Nat} {z : Int} {tb : List (Int × Nat)} {x y : Int} (hc : cod m pc = some (46, a, b, d, z, tb)) (hp : pc + 3 = pc') (ht : (y < x) → Run m a ls st M Q) (hf : ¬ (y < x) → Run m pc' ls st M Q) : Run m pc ls (vI y :: vI x :: st) M Q := by
  subst hp
  have hd : decode (zby m) pc = .ok (.if_icmp .gt z, 3) := (zdc hc).1
  have hb : (pc : Int) + z = a := of_decide_eq_true (show decide _ = true from (zdc hc).2.2.1)
  by_cases hh : (y < x)
  · refine R_pure (fun Z p l e R s mid args below meth cc Qs C H locs cells slots lr sr hl hs hH hS b1 b2 k => ?_) (ht hh)
    obtain ⟨w1, ws1, rfl, ⟨rfl, g1⟩, hs1⟩ := srel_cons hs
    have hs := hs1
    obtain ⟨w2, ws2, rfl, ⟨rfl, g2⟩, hs2⟩ := srel_cons hs
    have hs := hs2
    exact lv_icmp_gt C.1 C.2.1 hd hb (fun _ => k lr _ hl hs) (fun q => by first | exact absurd ((i32lt g1 g2).mpr hh) q | exact absurd q ((i32lt g1 g2).mpr hh))
  · refine R_pure (fun Z p l e R s mid args below meth cc Qs C H locs cells slots lr sr hl hs hH hS b1 b2 k => ?_) (hf hh)
    obtain ⟨w1, ws1, rfl, ⟨rfl, g1⟩, hs1⟩ := srel_cons hs
    have hs := hs1
    obtain ⟨w2, ws2, rfl, ⟨rfl, g2⟩, hs2⟩ := srel_cons hs
    have hs := hs2
    exact lv_icmp_gt C.1 C.2.1 hd hb (fun q => absurd ((i32lt g1 g2).mp q) hh) (fun _ => k lr _ hl hs)
theorem R_icle {m pc pc' : Nat} {ls st : List MV} {M : MH} {Q : Res → MH → Prop} {a b d : Nat} {z : Int} {tb : List (Int × Nat)} {x y : Int} (hc : cod m pc = some (47, a, b, d, z, tb)) (hp : pc + 3 = pc') (ht : (x ≤ y) → Run m a ls st M Q) (hf : ¬ (x ≤ y) → Run m pc' ls st M Q) : Run m pc ls (vI y :: vI x :: st) M Q := by
  subst hp
  have hd : decode (zby m) pc = .ok (.if_icmp .le z, 3) := (zdc hc).1
  have hb : (pc : Int) + z = a := of_decide_eq_true (show decide _ = true from (zdc hc).2.2.1)
  by_cases hh : (x ≤ y)
  · refine R_pure (fun Z p l e R s mid args below meth cc Qs C H locs cells slots lr sr hl hs hH hS b1 b2 k => ?_) (ht hh)
    obtain ⟨w1, ws1, rfl, ⟨rfl, g1⟩, hs1⟩ := srel_cons hs
    have hs := hs1
    obtain ⟨w2, ws2, rfl, ⟨rfl, g2⟩, hs2⟩ := srel_cons hs
    have hs := hs2
    exact lv_icmp_le C.1 C.2.1 hd hb (fun _ => k lr _ hl hs) (fun q => by first | exact absurd ((i32le g2 g1).mpr hh) q | exact absurd q ((i32le g2 g1).mpr hh))
  · refine R_pure (fun Z p l e R s mid args below meth cc Qs C H locs cells slots lr sr hl hs hH hS b1 b2 k => ?_) (hf hh)
    obtain ⟨w1, ws1, rfl, ⟨rfl, g1⟩, hs1⟩ := srel_cons hs
    have hs := hs1
    obtain ⟨w2, ws2, rfl, ⟨rfl, g2⟩, hs2⟩ := srel_cons hs
    have hs := hs2
    exact lv_icmp_le C.1 C.2.1 hd hb (fun q => absurd ((i32le g2 g1).mp q) hh) (fun _ => k lr _ hl hs)
theorem R_ifnull {m pc pc' : Nat} {ls st : List MV} {M : MH} {Q : Res → MH → Prop} {a b d : Nat} {z : Int} {tb : List (Int × Nat)} {r : Option Nat} (hc : cod m pc = some (48, a, b, d, z, tb)) (hp : pc + 3 = pc') (ht : r = none → Run m a ls st M Q) (hf : ∀ q, r = some q → Run m pc' ls st M Q) : Run m pc ls (vR r :: st) M Q := by
  subst hp
  have hd : decode (zby m) pc = .ok (.ifnull z, 3) := (zdc hc).1
  have hb : (pc : Int) + z = a := of_decide_eq_true (show decide _ = true from (zdc hc).2.2.1)
  cases r with
  | none =>
    refine R_pure (fun Z p l e R s mid args below meth cc Qs C H locs cells slots lr sr hl hs hH hS b1 b2 k => ?_) (ht rfl)
    obtain ⟨w1, ws1, rfl, ⟨rfl, g1⟩, hs1⟩ := srel_cons hs
    have hs := hs1
    exact lv_ifnullN C.1 C.2.1 hd hb (k lr _ hl hs)
  | some q =>
    refine R_pure (fun Z p l e R s mid args below meth cc Qs C H locs cells slots lr sr hl hs hH hS b1 b2 k => ?_) (hf q rfl)
    obtain ⟨w1, ws1, rfl, ⟨rfl, g1⟩, hs1⟩ := srel_cons hs
    have hs := hs1
    exact lv_ifnull C.1 C.2.1 hd (k lr _ hl hs)
theorem R_ifnonnull {m pc pc' : Nat} {ls st : List MV} {M : MH} {Q : Res → MH → Prop} {a b d : Nat} {z : Int} {tb : List (Int × Nat)} {r : Option Nat} (hc : cod m pc = some (49, a, b, d, z, tb)) (hp : pc + 3 = pc') (ht : ∀ q, r = some q → Run m a ls st M Q) (hf : r = none → Run m pc' ls st M Q) : Run m pc ls (vR r :: st) M Q := by
  subst hp
  have hd : decode (zby m) pc = .ok (.ifnonnull z, 3) := (zdc hc).1
  have hb : (pc : Int) + z = a := of_decide_eq_true (show decide _ = true from (zdc hc).2.2.1)
  cases r with
  | none =>
    refine R_pure (fun Z p l e R s mid args below meth cc Qs C H locs cells slots lr sr hl hs hH hS b1 b2 k => ?_) (hf rfl)
    obtain ⟨w1, ws1, rfl, ⟨rfl, g1⟩, hs1⟩ := srel_cons hs
    have hs := hs1
    exact lv_ifnonnullN C.1 C.2.1 hd (k lr _ hl hs)
  | some q =>
    refine R_pure (fun Z p l e R s mid args below meth cc Qs C H locs cells slots lr sr hl hs hH hS b1 b2 k => ?_) (ht q rfl)
    obtain ⟨w1, ws1, rfl, ⟨rfl, g1⟩, hs1⟩ := srel_cons hs
    have hs := hs1
    exact lv_ifnonnull C.1 C.2.1 hd hb (k lr _ hl hs)
theorem R_goto {m pc : Nat} {ls st : List MV} {M : MH} {Q : Res → MH → Prop} {a b d : Nat} {z : Int} {tb : List (Int × Nat)} (hc : cod m pc = some (50, a, b, d, z, tb)) (h : Run m a ls st M Q) : Run m pc ls st M Q := by
  have hd : decode (zby m) pc = .ok (.goto z, 3) := (zdc hc).1
  have hb : (pc : Int) + z = a := of_decide_eq_true (show decide _ = true from (zdc hc).2.2.1)
  refine R_pure (fun Z p l e R s mid args below meth cc Qs C H locs cells slots lr sr hl hs hH hS b1 b2 k => ?_) h
  exact lv_goto C.1 C.2.1 hd hb (k lr _ hl hs)
theorem R_null {m pc pc' : Nat} {ls st : List MV} {M : MH} {Q : Res → MH → Prop} {a b d : Nat} {z : Int} {tb : List (Int × Nat)} (hc : cod m pc = some (71, a, b, d, z, tb)) (hp : pc + 1 = pc') (h : Run m pc' ls (vR none :: st) M Q) : Run m pc ls st M Q := by
  subst hp
  have hd : decode (zby m) pc = .ok (.aconst_null, 1) := (zdc hc).1
  refine R_pure (fun Z p l e R s mid args below meth cc Qs C H locs cells slots lr sr hl hs hH hS b1 b2 k => ?_) h
  exact lv_null C.1 C.2.1 hd (k lr _ hl ⟨⟨rfl, fun q h => by cases h⟩, hs⟩)
end
section
/-! rules that read or write cells -/
theorem zcl_at {b : Nat} (hb : b < 10) : zcl[b]? = some (zcn b, zT b, znF b) := by
  unfold zcl
  rw [List.getElem?_map, List.getElem?_range hb]
  rfl
theorem zclk_at {b : Nat} (hb : b < 10) : zclk b = true := List.all_eq_true.mp zclkA b (List.mem_range.mpr hb)
theorem zin_at {b : Nat} (hb : b < 10) : ∀ w ∈ u_ws (zcn b) (zT b) (znF b), w ∈ gW := by
  intro w hw
  have h := zclk_at hb
  unfold zclk at h
  simp only [Bool.and_eq_true] at h
  obtain ⟨k, hk, rfl⟩ := List.mem_map.mp hw
  have h2 := List.all_eq_true.mp h.1.1 k hk
  simp only [Bool.and_eq_true] at h2
  exact inW_ok h2.1.1.1
theorem zty_at {b k : Nat} (hb : b < 10) (hk : k < znF b) : parseFieldDescriptor (zT b k).2.2.1 = some (zty b k) ∧ ztc (zty b k) (zft b k) = true := by
  have h := zclk_at hb
  unfold zclk at h
  simp only [Bool.and_eq_true] at h
  have h2 := List.all_eq_true.mp h.1.1 k (List.mem_range.mpr hk)
  simp only [Bool.and_eq_true, decide_eq_true_eq] at h2
  exact ⟨h2.1.1.2, h2.1.2⟩
theorem znm_at {b : Nat} (hb : b < 10) : ∀ k, k < znF b → ∀ j, j < znF b → k ≠ j → (zT b k).2.1 ≠ (zT b j).2.1 := by
  intro k hk j hj hne
  have h := zclk_at hb
  unfold zclk at h
  simp only [Bool.and_eq_true] at h
  have h2 := List.all_eq_true.mp h.1.1 k (List.mem_range.mpr hk)
  simp only [Bool.and_eq_true] at h2
  have h3 := List.all_eq_true.mp h2.2 j (List.mem_range.mpr hj)
  simp only [Bool.or_eq_true, decide_eq_true_eq] at h3
  exact h3.resolve_left hne
theorem obj_of {Z : EP} {M : MH} {H : Heap} {q b : Nat} (hH : HRel Z M H) (hq : q < M.2.2.1) (hk : K0 q = b + 1) (hb : b < 10) : objR Z M H q b := by
  have h := hH.2.2.1 q hq
  unfold celR at h
  rw [hk, if_pos (by omega)] at h
  exact h
theorem arr_of {Z : EP} {M : MH} {H : Heap} {q t : Nat} (hH : HRel Z M H) (hq : q < M.2.2.1) (hk : K0 q = t + 21) : arrR Z M H q t := by
  have h := hH.2.2.1 q hq
  unfold celR at h
  rw [hk, if_neg (by omega)] at h
  exact h
theorem celR_same {Z : EP} {M M2 : MH} {H H2 : Heap} {a : Nat} (h : celR Z M H a) (hI : ∀ k, M2.1 a k = M.1 a k) (hR : ∀ k, M2.2.1 a k = M.2.1 a k) (ht : M.2.2.1 ≤ M2.2.2.1) (hH : H2[Z.1 + a]? = H[Z.1 + a]?) : celR Z M2 H2 a := by
  have hf : ∀ (t : Nat) (z : Int) (r : Option Nat), fok M.2.2.1 t z r → fok M2.2.2.1 t z r := by
    intro t z r h
    unfold fok at h ⊢
    split
    · rename_i e
      rw [if_pos e] at h
      exact fun q hq => Nat.lt_of_lt_of_le (h q hq) ht
    · rename_i e
      rw [if_neg e] at h
      exact h
  have ha : ∀ (t : Nat) (z : Int) (r : Option Nat), aok M.2.2.1 t z r → aok M2.2.2.1 t z r := by
    intro t z r h
    unfold aok at h ⊢
    split
    · rename_i e
      rw [if_pos e] at h
      exact fun q hq => Nat.lt_of_lt_of_le (h q hq) ht
    · rename_i e
      rw [if_neg e] at h
      exact h
  unfold celR at h ⊢
  split
  · rename_i c
    rw [if_pos c] at h
    obtain ⟨h1, h2⟩ := h
    exact ⟨(h1.kept hH).to (fun k _ => by rw [hI, hR]), fun k hk => by rw [hI, hR]; exact hf _ _ _ (h2 k hk)⟩
  · rename_i c
    rw [if_neg c] at h
    obtain ⟨h1, h2⟩ := h
    refine ⟨?_, fun k hk => by rw [hI, hR]; exact ha _ _ _ (h2 k hk)⟩
    rw [hH, h1]
    have : (fun j => av Z.1 (K0 a - 21) (M2.1 a j) (M2.2.1 a j)) = (fun j => av Z.1 (K0 a - 21) (M.1 a j) (M.2.1 a j)) := by funext j; rw [hI, hR]
    rw [this]
theorem HRel_put {Z : EP} {M M2 : MH} {H H2 : Heap} {q : Nat} (h : HRel Z M H) (ht : M2.2.2 = M.2.2) (hI : ∀ a, a ≠ q → ∀ k, M2.1 a k = M.1 a k) (hR : ∀ a, a ≠ q → ∀ k, M2.2.1 a k = M.2.1 a k) (hz : H2.size = H.size) (ho : ∀ x : Nat, x ≠ Z.1 + q → H2[x]? = H[x]?) (hc : celR Z M2 H2 q) : HRel Z M2 H2 := by
  obtain ⟨h1, h2, h3, h4, h5, h6⟩ := h
  have e1 : M2.2.2.1 = M.2.2.1 := by rw [ht]
  refine ⟨fun e => by rw [hz, e1]; exact h1 (by rw [← ht]; exact e), by rw [hz, e1]; exact h2, fun a ha => ?_, by rw [ht]; exact h4, by rw [ht]; exact h5, by rw [ht]; exact h6⟩
  by_cases e : a = q
  · rw [e]; exact hc
  · exact celR_same (h3 a (by rw [← e1]; exact ha)) (hI a e) (hR a e) (by rw [e1]; exact Nat.le_refl _) (ho _ (by omega))
/-- one instruction that writes a cell -/
theorem R_heap {m pc pc' : Nat} {ls ls' st st' : List MV} {M M2 : MH} {Q : Res → MH → Prop} (htop : M2.2.2 = M.2.2)
    (step : ∀ (Z : EP) (p : Program) (l : Launch) (e : Env) (R : Room) (s : State) (mid : MethodId) (args : Array Value) (below : List Frame) (meth : Method) (c : Code) (Qs : State → Prop), Cx m Z p l e R s mid args below meth c →
      ∀ (H : Heap) (locs : List Loc) (cells slots : Nat) (lr : Array Slot) (sr : List Value), lrel Z M.2.2.1 (zml m) ls lr → srel Z M.2.2.1 st sr → HRel Z M H → va_S (zA Z) s.heap H locs → cells ≤ R.cells → slots ≤ R.slots →
        (∀ (H' : Heap) (locs' : List Loc) (lr' : Array Slot) (sr' : List Value), lrel Z M.2.2.1 (zml m) ls' lr' → srel Z M.2.2.1 st' sr' → HRel Z M2 H' → va_S (zA Z) s.heap H' locs' → W p l e R s mid args below meth c H' locs' cells slots Qs (F0 mid pc' lr' sr')) →
        W p l e R s mid args below meth c H locs cells slots Qs (F0 mid pc lr sr))
    (h : Run m pc' ls' st' M2 Q) : Run m pc ls st M Q := by
  obtain ⟨r, M', hQ, hm, hX⟩ := h
  have h1 := mle_c hm
  have h2 := mle_s hm
  have e1 : cst M2 = cst M := by unfold cst; rw [htop]
  have e2 : sst M2 = sst M := by unfold sst; rw [htop]
  refine ⟨r, M', hQ, by unfold mle at hm ⊢; rw [htop] at hm; exact hm, ?_⟩
  intro Z p l e R s mid args below meth c Qs C H locs cells slots lr sr hl hs hH hS b1 b2 hE
  exact step Z p l e R s mid args below meth c Qs C H locs cells slots lr sr hl hs hH hS (by omega) (by omega) fun H' locs' lr' sr' hl' hs' hH' hS' => hX Z p l e R s mid args below meth c Qs C H' locs' cells slots lr' sr' (by rw [htop]; exact hl') (by rw [htop]; exact hs') hH' hS' (by omega) (by omega) hE
theorem zEv {m : Nat} {Z : EP} {p : Program} {l : Launch} {e : Env} {R : Room} {s : State} {mid : MethodId} {args : Array Value} {below : List Frame} {meth : Method} {c : Code} (C : Cx m Z p l e R s mid args below meth c) : Ev Z s s.heap := C.2.2.2.2.2.2.2.2.2.2.2.2.1
theorem zK {m : Nat} {Z : EP} {p : Program} {l : Launch} {e : Env} {R : Room} {s : State} {mid : MethodId} {args : Array Value} {below : List Frame} {meth : Method} {c : Code} (C : Cx m Z p l e R s mid args below meth c) : va_K Z.2.1 zcl (ztys Z) s := (zEv C).1
theorem zN {m : Nat} {Z : EP} {p : Program} {l : Launch} {e : Env} {R : Room} {s : State} {mid : MethodId} {args : Array Value} {below : List Frame} {meth : Method} {c : Code} (C : Cx m Z p l e R s mid args below meth c) {w : Cond} (hw : w ∈ nW) (ho : w.onTables = true) : w.before args s = true := va_Nw.use ho ((zEv C).2.2.2.2.2.2.1 w hw)
theorem ztys_at (Z : EP) {t : Nat} (ht : t < 5) : ∃ ty, (ztys Z)[t]? = some (Z.2.2.1 t, ty) ∧ (t = 0 → ty = .int) ∧ (t = 1 → ty = .byte) ∧ (t = 2 → ty = .boolean) ∧ (t = 3 → ty = .long) ∧ (t = 4 → ty = .object "RepairScan$Found") := by
  rcases (show t = 0 ∨ t = 1 ∨ t = 2 ∨ t = 3 ∨ t = 4 by omega) with rfl | rfl | rfl | rfl | rfl
  all_goals exact ⟨_, rfl, by simp, by simp, by simp, by simp, by simp⟩
theorem in32 {i : Int} {n : Nat} (hi : r32 i) (h0 : 0 ≤ i) (h1 : i < n) : ¬ (Int32.ofInt i < 0 ∨ n ≤ (Int32.ofInt i).toNatClampNeg) := by
  rw [i32neg hi, i32clamp hi]
  omega
theorem ft_nref {b d : Nat} (h : zft b d ≠ 4) (z : Int) (r : Option Nat) (B : Nat) : fv B (zft b d) z r = .int (Int32.ofInt z) := if_neg h
theorem ft_ref {b d : Nat} (h : zft b d = 4) (z : Int) (r : Option Nat) (B : Nat) : fv B (zft b d) z r = zrv B r := if_pos h
theorem fok_r32 {top t : Nat} {z : Int} {r : Option Nat} (ht : t ≠ 4) (h : fok top t z r) : r32 z := by
  unfold fok at h
  rw [if_neg ht] at h
  split at h
  · rcases h with rfl | rfl <;> (constructor <;> decide)
  · exact h
theorem R_getI {m pc pc' : Nat} {ls st : List MV} {M : MH} {Q : Res → MH → Prop} {a b d : Nat} {z : Int} {tb : List (Int × Nat)} {q : Nat} (hc : cod m pc = some (53, a, b, d, z, tb)) (hp : pc + 3 = pc') (ht : zft b d ≠ 4) (hk : K0 q = b + 1) (h : Run m pc' ls (vI (M.1 q d) :: st) M Q) : Run m pc ls (vR (some q) :: st) M Q := by
  subst hp
  have hd : decode (zby m) pc = .ok (.getfield a, 3) := (zdc hc).1
  have hw := Bool.and_eq_true_iff.mp (show (inW (66 + z.toNat) (.fieldLink (zyn m).cls a (zfD b d).1 (zfD b d).2.1 (zfD b d).2.2.1) && decide (d < znF b ∧ b < 10)) = true from (zdc hc).2.1)
  obtain ⟨hd1, hb⟩ : d < znF b ∧ b < 10 := of_decide_eq_true hw.2
  refine R_pure (fun Z p l e R s mid args below meth cc Qs C H locs cells slots lr sr hl hs hH hS b1 b2 k => ?_) h
  obtain ⟨w1, ws1, rfl, ⟨rfl, g1⟩, hs1⟩ := srel_cons hs
  obtain ⟨⟨cell, q1, q2, q3, q4⟩, hfo⟩ := obj_of hH (g1 q rfl) hk hb
  obtain ⟨hS', hfc, kC, hkC, hkind⟩ := (zK C).1 b _ (zcl_at hb)
  obtain ⟨cf, kf, fi, f, hi, hsl⟩ := hS' d hd1
  refine W.getf C.1 C.2.1 C.2.2.2.1 (C.2.2.2.2.1 _ (inW_ok hw.1)) hi (u_facts hfc hkC (u_lays C.2.2.2.2.1 (zin_at hb) hd1) hi).1 q1 (by rw [q3]; exact fun h => by cases h) (v := fv Z.1 (zft b d) (M.1 q d) (M.2.1 q d)) (by rw [hsl]; exact q4 d hd1) rfl rfl hd ?_
  refine k lr _ hl ⟨?_, hs1⟩
  have hf := hfo d hd1
  rw [ft_nref ht]
  exact ⟨rfl, fok_r32 ht hf⟩
theorem R_getIN {m pc pc' : Nat} {ls st : List MV} {M : MH} {Q : Res → MH → Prop} {a b d : Nat} {z : Int} {tb : List (Int × Nat)} {q : Nat} (hc : cod m pc = some (54, a, b, d, z, tb)) (hp : pc + 3 = pc') (ht : zft b d ≠ 4) (hk : K0 q = b + 1) (h : Run m pc' ls (vI (M.1 q d) :: st) M Q) : Run m pc ls (vR (some q) :: st) M Q := by
  subst hp
  have hd : decode (zby m) pc = .ok (.getfield a, 3) := (zdc hc).1
  have hw := Bool.and_eq_true_iff.mp (show (inN (66 + z.toNat) (.fieldLinkNest (zyn m).cls a (zfD b d).1 (zfD b d).2.1 (zfD b d).2.2.1 "RepairScan") && decide (d < znF b ∧ b < 10)) = true from (zdc hc).2.1)
  obtain ⟨hd1, hb⟩ : d < znF b ∧ b < 10 := of_decide_eq_true hw.2
  refine R_pure (fun Z p l e R s mid args below meth cc Qs C H locs cells slots lr sr hl hs hH hS b1 b2 k => ?_) h
  obtain ⟨w1, ws1, rfl, ⟨rfl, g1⟩, hs1⟩ := srel_cons hs
  obtain ⟨⟨cell, q1, q2, q3, q4⟩, hfo⟩ := obj_of hH (g1 q rfl) hk hb
  obtain ⟨hS', hfc, kC, hkC, hkind⟩ := (zK C).1 b _ (zcl_at hb)
  obtain ⟨cf, kf, fi, f, hi, hsl⟩ := hS' d hd1
  refine va_Wgetf C.1 C.2.1 C.2.2.2.1 (zN C (inN_ok hw.1) rfl) hi (u_facts hfc hkC (u_lays C.2.2.2.2.1 (zin_at hb) hd1) hi).1 q1 (by rw [q3]; exact fun h => by cases h) (v := fv Z.1 (zft b d) (M.1 q d) (M.2.1 q d)) (by rw [hsl]; exact q4 d hd1) rfl rfl hd ?_
  refine k lr _ hl ⟨?_, hs1⟩
  have hf := hfo d hd1
  rw [ft_nref ht]
  exact ⟨rfl, fok_r32 ht hf⟩
theorem R_getR {m pc pc' : Nat} {ls st : List MV} {M : MH} {Q : Res → MH → Prop} {a b d : Nat} {z : Int} {tb : List (Int × Nat)} {q : Nat} (hc : cod m pc = some (53, a, b, d, z, tb)) (hp : pc + 3 = pc') (ht : zft b d = 4) (hk : K0 q = b + 1) (h : Run m pc' ls (vR (M.2.1 q d) :: st) M Q) : Run m pc ls (vR (some q) :: st) M Q := by
  subst hp
  have hd : decode (zby m) pc = .ok (.getfield a, 3) := (zdc hc).1
  have hw := Bool.and_eq_true_iff.mp (show (inW (66 + z.toNat) (.fieldLink (zyn m).cls a (zfD b d).1 (zfD b d).2.1 (zfD b d).2.2.1) && decide (d < znF b ∧ b < 10)) = true from (zdc hc).2.1)
  obtain ⟨hd1, hb⟩ : d < znF b ∧ b < 10 := of_decide_eq_true hw.2
  refine R_pure (fun Z p l e R s mid args below meth cc Qs C H locs cells slots lr sr hl hs hH hS b1 b2 k => ?_) h
  obtain ⟨w1, ws1, rfl, ⟨rfl, g1⟩, hs1⟩ := srel_cons hs
  obtain ⟨⟨cell, q1, q2, q3, q4⟩, hfo⟩ := obj_of hH (g1 q rfl) hk hb
  obtain ⟨hS', hfc, kC, hkC, hkind⟩ := (zK C).1 b _ (zcl_at hb)
  obtain ⟨cf, kf, fi, f, hi, hsl⟩ := hS' d hd1
  refine W.getf C.1 C.2.1 C.2.2.2.1 (C.2.2.2.2.1 _ (inW_ok hw.1)) hi (u_facts hfc hkC (u_lays C.2.2.2.2.1 (zin_at hb) hd1) hi).1 q1 (by rw [q3]; exact fun h => by cases h) (v := fv Z.1 (zft b d) (M.1 q d) (M.2.1 q d)) (by rw [hsl]; exact q4 d hd1) rfl rfl hd ?_
  refine k lr _ hl ⟨?_, hs1⟩
  have hf := hfo d hd1
  rw [ft_ref ht]
  unfold fok at hf
  rw [if_pos ht] at hf
  exact ⟨rfl, hf⟩
theorem R_getRN {m pc pc' : Nat} {ls st : List MV} {M : MH} {Q : Res → MH → Prop} {a b d : Nat} {z : Int} {tb : List (Int × Nat)} {q : Nat} (hc : cod m pc = some (54, a, b, d, z, tb)) (hp : pc + 3 = pc') (ht : zft b d = 4) (hk : K0 q = b + 1) (h : Run m pc' ls (vR (M.2.1 q d) :: st) M Q) : Run m pc ls (vR (some q) :: st) M Q := by
  subst hp
  have hd : decode (zby m) pc = .ok (.getfield a, 3) := (zdc hc).1
  have hw := Bool.and_eq_true_iff.mp (show (inN (66 + z.toNat) (.fieldLinkNest (zyn m).cls a (zfD b d).1 (zfD b d).2.1 (zfD b d).2.2.1 "RepairScan") && decide (d < znF b ∧ b < 10)) = true from (zdc hc).2.1)
  obtain ⟨hd1, hb⟩ : d < znF b ∧ b < 10 := of_decide_eq_true hw.2
  refine R_pure (fun Z p l e R s mid args below meth cc Qs C H locs cells slots lr sr hl hs hH hS b1 b2 k => ?_) h
  obtain ⟨w1, ws1, rfl, ⟨rfl, g1⟩, hs1⟩ := srel_cons hs
  obtain ⟨⟨cell, q1, q2, q3, q4⟩, hfo⟩ := obj_of hH (g1 q rfl) hk hb
  obtain ⟨hS', hfc, kC, hkC, hkind⟩ := (zK C).1 b _ (zcl_at hb)
  obtain ⟨cf, kf, fi, f, hi, hsl⟩ := hS' d hd1
  refine va_Wgetf C.1 C.2.1 C.2.2.2.1 (zN C (inN_ok hw.1) rfl) hi (u_facts hfc hkC (u_lays C.2.2.2.2.1 (zin_at hb) hd1) hi).1 q1 (by rw [q3]; exact fun h => by cases h) (v := fv Z.1 (zft b d) (M.1 q d) (M.2.1 q d)) (by rw [hsl]; exact q4 d hd1) rfl rfl hd ?_
  refine k lr _ hl ⟨?_, hs1⟩
  have hf := hfo d hd1
  rw [ft_ref ht]
  unfold fok at hf
  rw [if_pos ht] at hf
  exact ⟨rfl, hf⟩
theorem updV_fvI {M : MH} {q b d B : Nat} {x : Int} (ht : zft b d ≠ 4) (k : Nat) : updV (fun k => fv B (zft b k) (M.1 q k) (M.2.1 q k)) d (.int (Int32.ofInt x)) k = fv B (zft b k) ((sI M q d x).1 q k) ((sI M q d x).2.1 q k) := by
  unfold updV sI
  by_cases e : k = d
  · subst e
    simp [fv, ht]
  · simp [e]
theorem updV_fvR {M : MH} {q b d B : Nat} {r : Option Nat} (ht : zft b d = 4) (k : Nat) : updV (fun k => fv B (zft b k) (M.1 q k) (M.2.1 q k)) d (zrv B r) k = fv B (zft b k) ((sR M q d r).1 q k) ((sR M q d r).2.1 q k) := by
  unfold updV sR
  by_cases e : k = d
  · subst e
    simp [fv, ht]
  · simp [e]
theorem zfitI {b d : Nat} {x : Int} (hb : b < 10) (hd : d < znF b) (ht : zft b d ≠ 4) (hx : zft b d = 1 → x = 0 ∨ x = 1) : narrow (zty b d) (.int (Int32.ofInt x)) = .int (Int32.ofInt x) ∧ fits (zty b d) (.int (Int32.ofInt x)) = true := by
  have h := (zty_at hb hd).2
  generalize zty b d = ty at h ⊢
  generalize zft b d = n at h ht hx
  cases ty with
  | int => exact ⟨rfl, rfl⟩
  | boolean =>
    have e : n = 1 := by simpa [ztc] using h
    rcases hx e with rfl | rfl <;> exact ⟨by decide, by decide⟩
  | object _ => exact absurd (by simpa [ztc] using h) ht
  | array _ => exact absurd (by simpa [ztc] using h) ht
  | _ => simp [ztc] at h
theorem zfitR {b d : Nat} {r : Option Nat} {B : Nat} (hb : b < 10) (hd : d < znF b) (ht : zft b d = 4) : narrow (zty b d) (zrv B r) = zrv B r ∧ fits (zty b d) (zrv B r) = true := by
  have h := (zty_at hb hd).2
  generalize zty b d = ty at h ⊢
  rw [ht] at h
  cases ty with
  | object _ => cases r <;> exact ⟨rfl, rfl⟩
  | array _ => cases r <;> exact ⟨rfl, rfl⟩
  | _ => simp [ztc] at h
theorem R_putI {m pc pc' : Nat} {ls st : List MV} {M : MH} {Q : Res → MH → Prop} {a b d : Nat} {z : Int} {tb : List (Int × Nat)} {q : Nat} {x : Int} (hc : cod m pc = some (55, a, b, d, z, tb)) (hp : pc + 3 = pc') (ht : zft b d ≠ 4) (hx : zft b d = 1 → x = 0 ∨ x = 1) (hk : K0 q = b + 1) (h : Run m pc' ls st (sI M q d x) Q) : Run m pc ls (vI x :: vR (some q) :: st) M Q := by
  subst hp
  have hd : decode (zby m) pc = .ok (.putfield a, 3) := (zdc hc).1
  have hw := Bool.and_eq_true_iff.mp (show (inW (66 + z.toNat) (.fieldLink (zyn m).cls a (zfD b d).1 (zfD b d).2.1 (zfD b d).2.2.1) && decide (d < znF b ∧ b < 10 ∧ (zfD b d).2.2.2 = false)) = true from (zdc hc).2.1)
  obtain ⟨hd1, hb, hfi⟩ : d < znF b ∧ b < 10 ∧ (zfD b d).2.2.2 = false := of_decide_eq_true hw.2
  refine R_heap (M2 := (sI M q d x)) rfl (fun Z p l e R s mid args below meth cc Qs C H locs cells slots lr sr hl hs hH hS b1 b2 k => ?_) h
  obtain ⟨w1, ws1, rfl, ⟨rfl, g1⟩, hs1⟩ := srel_cons hs
  obtain ⟨w2, ws2, rfl, ⟨rfl, g2⟩, hs2⟩ := srel_cons hs1
  obtain ⟨⟨cell, q1, q2, q3, q4⟩, hfo⟩ := obj_of hH (g2 q rfl) hk hb
  have hap := va_apart (own := (zyn m).cls) C.2.2.2.2.1 (zin_at hb) (zty b) (fun k hk => (zty_at hb hk).1) (znm_at hb) (zK C) (zcl_at hb)
  obtain ⟨hS', hfc, kC, hkC, hkind⟩ := (zK C).1 b _ (zcl_at hb)
  obtain ⟨cf, kf, fi, f, hi, hsl⟩ := hS' d hd1
  have hfit := zfitI hb hd1 ht hx
  have hlay := C.2.2.2.2.1 _ (zin_at hb _ (u_in_lay hd1))
  unfold u_lay at hlay
  rw [if_neg (by rw [show (zT b d).2.2.2 = false from hfi]; decide)] at hlay
  have hst := (u_facts hfc hkC (u_lays C.2.2.2.2.1 (zin_at hb) hd1) hi).1
  have h6 := u_store hfc hkC hkind hlay hi (zty_at hb hd1).1 hfit.1 hfit.2
  refine W.putK C.1 C.2.1 (f := f) ⟨C.2.2.2.1, C.2.2.2.2.1 _ (inW_ok hw.1), ⟨_, _, _, hi⟩, hst⟩ (by rw [q2]; exact h6) q1 q3 (by rw [hsl]; exact k2_hasslot (q4 d hd1)) rfl rfl hd fun H' e1 e2 e3 => ?_
  rw [hsl] at e1
  refine k H' _ lr _ hl hs2 (HRel_put (q := q) hH rfl (fun a' hne k' => ?_) (fun a' hne k' => ?_) e2 e3 ?_) (hS.put e2 e3 (show Z.1 ≤ Z.1 + q by omega))
  · simp [sI, hne]
  · simp [sI, hne]
  · unfold celR
    rw [hk, if_pos (by omega)]
    refine ⟨t_OB.to ⟨_, e1, q2, q3, t_set q4 hap hd1 _⟩ (fun j _ => updV_fvI ht j), fun j hj => ?_⟩
    by_cases e : j = d
    · subst e
      simp only [sI, and_self, if_true]
      unfold fok
      rw [Nat.add_sub_cancel, if_neg ht]
      split
      · rename_i e9
        exact hx e9
      · exact g1
    · have := hfo j hj
      simpa [sI, e] using this
theorem R_putIN {m pc pc' : Nat} {ls st : List MV} {M : MH} {Q : Res → MH → Prop} {a b d : Nat} {z : Int} {tb : List (Int × Nat)} {q : Nat} {x : Int} (hc : cod m pc = some (56, a, b, d, z, tb)) (hp : pc + 3 = pc') (ht : zft b d ≠ 4) (hx : zft b d = 1 → x = 0 ∨ x = 1) (hk : K0 q = b + 1) (h : Run m pc' ls st (sI M q d x) Q) : Run m pc ls (vI x :: vR (some q) :: st) M Q := by
  subst hp
  have hd : decode (zby m) pc = .ok (.putfield a, 3) := (zdc hc).1
  have hw := Bool.and_eq_true_iff.mp (show (inN (66 + z.toNat) (.fieldLinkNest (zyn m).cls a (zfD b d).1 (zfD b d).2.1 (zfD b d).2.2.1 "RepairScan") && decide (d < znF b ∧ b < 10 ∧ (zfD b d).2.2.2 = false)) = true from (zdc hc).2.1)
  obtain ⟨hd1, hb, hfi⟩ : d < znF b ∧ b < 10 ∧ (zfD b d).2.2.2 = false := of_decide_eq_true hw.2
  refine R_heap (M2 := (sI M q d x)) rfl (fun Z p l e R s mid args below meth cc Qs C H locs cells slots lr sr hl hs hH hS b1 b2 k => ?_) h
  obtain ⟨w1, ws1, rfl, ⟨rfl, g1⟩, hs1⟩ := srel_cons hs
  obtain ⟨w2, ws2, rfl, ⟨rfl, g2⟩, hs2⟩ := srel_cons hs1
  obtain ⟨⟨cell, q1, q2, q3, q4⟩, hfo⟩ := obj_of hH (g2 q rfl) hk hb
  have hap := va_apart (own := (zyn m).cls) C.2.2.2.2.1 (zin_at hb) (zty b) (fun k hk => (zty_at hb hk).1) (znm_at hb) (zK C) (zcl_at hb)
  obtain ⟨hS', hfc, kC, hkC, hkind⟩ := (zK C).1 b _ (zcl_at hb)
  obtain ⟨cf, kf, fi, f, hi, hsl⟩ := hS' d hd1
  have hfit := zfitI hb hd1 ht hx
  have hlay := C.2.2.2.2.1 _ (zin_at hb _ (u_in_lay hd1))
  unfold u_lay at hlay
  rw [if_neg (by rw [show (zT b d).2.2.2 = false from hfi]; decide)] at hlay
  have hst := (u_facts hfc hkC (u_lays C.2.2.2.2.1 (zin_at hb) hd1) hi).1
  have h6 := u_store hfc hkC hkind hlay hi (zty_at hb hd1).1 hfit.1 hfit.2
  refine va_WputK C.1 C.2.1 C.2.2.2.1 (zN C (inN_ok hw.1) rfl) hi hst (by rw [q2]; exact h6) q1 q3 (by rw [hsl]; exact k2_hasslot (q4 d hd1)) rfl rfl hd fun H' e1 e2 e3 => ?_
  rw [hsl] at e1
  refine k H' _ lr _ hl hs2 (HRel_put (q := q) hH rfl (fun a' hne k' => ?_) (fun a' hne k' => ?_) e2 e3 ?_) (hS.put e2 e3 (show Z.1 ≤ Z.1 + q by omega))
  · simp [sI, hne]
  · simp [sI, hne]
  · unfold celR
    rw [hk, if_pos (by omega)]
    refine ⟨t_OB.to ⟨_, e1, q2, q3, t_set q4 hap hd1 _⟩ (fun j _ => updV_fvI ht j), fun j hj => ?_⟩
    by_cases e : j = d
    · subst e
      simp only [sI, and_self, if_true]
      unfold fok
      rw [Nat.add_sub_cancel, if_neg ht]
      split
      · rename_i e9
        exact hx e9
      · exact g1
    · have := hfo j hj
      simpa [sI, e] using this
theorem R_putIF {m pc pc' : Nat} {ls st : List MV} {M : MH} {Q : Res → MH → Prop} {a b d : Nat} {z : Int} {tb : List (Int × Nat)} {q : Nat} {x : Int} (hc : cod m pc = some (57, a, b, d, z, tb)) (hp : pc + 3 = pc') (ht : zft b d ≠ 4) (hx : zft b d = 1 → x = 0 ∨ x = 1) (hk : K0 q = b + 1) (hinit : (zyn m).name = "<init>") (h : Run m pc' ls st (sI M q d x) Q) : Run m pc ls (vI x :: vR (some q) :: st) M Q := by
  subst hp
  have hd : decode (zby m) pc = .ok (.putfield a, 3) := (zdc hc).1
  have hw := Bool.and_eq_true_iff.mp (show (inW (66 + z.toNat) (.fieldLink (zyn m).cls a (zfD b d).1 (zfD b d).2.1 (zfD b d).2.2.1) && decide (d < znF b ∧ b < 10 ∧ (zfD b d).2.2.2 = true ∧ (zfD b d).1 = (zyn m).cls)) = true from (zdc hc).2.1)
  obtain ⟨hd1, hb, hfi, hdc⟩ : d < znF b ∧ b < 10 ∧ (zfD b d).2.2.2 = true ∧ (zfD b d).1 = (zyn m).cls := of_decide_eq_true hw.2
  refine R_heap (M2 := (sI M q d x)) rfl (fun Z p l e R s mid args below meth cc Qs C H locs cells slots lr sr hl hs hH hS b1 b2 k => ?_) h
  obtain ⟨w1, ws1, rfl, ⟨rfl, g1⟩, hs1⟩ := srel_cons hs
  obtain ⟨w2, ws2, rfl, ⟨rfl, g2⟩, hs2⟩ := srel_cons hs1
  obtain ⟨⟨cell, q1, q2, q3, q4⟩, hfo⟩ := obj_of hH (g2 q rfl) hk hb
  have hap := va_apart (own := (zyn m).cls) C.2.2.2.2.1 (zin_at hb) (zty b) (fun k hk => (zty_at hb hk).1) (znm_at hb) (zK C) (zcl_at hb)
  obtain ⟨hS', hfc, kC, hkC, hkind⟩ := (zK C).1 b _ (zcl_at hb)
  obtain ⟨cf, kf, fi, f, hi, hsl⟩ := hS' d hd1
  have hfit := zfitI hb hd1 ht hx
  have hlay := C.2.2.2.2.1 _ (zin_at hb _ (u_in_lay hd1))
  unfold u_lay at hlay
  rw [if_pos (show (zT b d).2.2.2 = true from hfi)] at hlay
  have hst := (u_facts hfc hkC (u_lays C.2.2.2.2.1 (zin_at hb) hd1) hi).1
  have hcf : mid.cls = cf := by
    obtain ⟨_, _, c', _, _, _, -, -, hf', -, -, -, hown2, -⟩ := Cond.laysFinal_spec hlay
    have e1 : c' = cf := by have := hi.symm.trans hf'; simp at this; exact this.1.symm
    rw [show (zT b d).1 = (zyn m).cls from hdc] at hown2
    rw [← e1]; exact Option.some.inj (C.2.2.2.1.symm.trans hown2)
  have h6 := u_fits hfc hkC hkind (Or.inr hlay) hi (zty_at hb hd1).1 hfit.1 hfit.2
  refine W.putFinK C.1 C.2.1 C.2.2.2.1 (C.2.2.2.2.1 _ (inW_ok hw.1)) hi hst hcf (C.2.2.2.2.2.2.2.1 hinit) (by rw [q2]; exact h6) q1 q3 (by rw [hsl]; exact k2_hasslot (q4 d hd1)) rfl rfl hd fun H' e1 e2 e3 => ?_
  rw [hsl] at e1
  refine k H' _ lr _ hl hs2 (HRel_put (q := q) hH rfl (fun a' hne k' => ?_) (fun a' hne k' => ?_) e2 e3 ?_) (hS.put e2 e3 (show Z.1 ≤ Z.1 + q by omega))
  · simp [sI, hne]
  · simp [sI, hne]
  · unfold celR
    rw [hk, if_pos (by omega)]
    refine ⟨t_OB.to ⟨_, e1, q2, q3, t_set q4 hap hd1 _⟩ (fun j _ => updV_fvI ht j), fun j hj => ?_⟩
    by_cases e : j = d
    · subst e
      simp only [sI, and_self, if_true]
      unfold fok
      rw [Nat.add_sub_cancel, if_neg ht]
      split
      · rename_i e9
        exact hx e9
      · exact g1
    · have := hfo j hj
      simpa [sI, e] using this
theorem R_putR {m pc pc' : Nat} {ls st : List MV} {M : MH} {Q : Res → MH → Prop} {a b d : Nat} {z : Int} {tb : List (Int × Nat)} {q : Nat} {r : Option Nat} (hc : cod m pc = some (55, a, b, d, z, tb)) (hp : pc + 3 = pc') (ht : zft b d = 4) (hk : K0 q = b + 1) (h : Run m pc' ls st (sR M q d r) Q) : Run m pc ls (vR r :: vR (some q) :: st) M Q := by
  subst hp
  have hd : decode (zby m) pc = .ok (.putfield a, 3) := (zdc hc).1
  have hw := Bool.and_eq_true_iff.mp (show (inW (66 + z.toNat) (.fieldLink (zyn m).cls a (zfD b d).1 (zfD b d).2.1 (zfD b d).2.2.1) && decide (d < znF b ∧ b < 10 ∧ (zfD b d).2.2.2 = false)) = true from (zdc hc).2.1)
  obtain ⟨hd1, hb, hfi⟩ : d < znF b ∧ b < 10 ∧ (zfD b d).2.2.2 = false := of_decide_eq_true hw.2
  refine R_heap (M2 := (sR M q d r)) rfl (fun Z p l e R s mid args below meth cc Qs C H locs cells slots lr sr hl hs hH hS b1 b2 k => ?_) h
  obtain ⟨w1, ws1, rfl, ⟨rfl, g1⟩, hs1⟩ := srel_cons hs
  obtain ⟨w2, ws2, rfl, ⟨rfl, g2⟩, hs2⟩ := srel_cons hs1
  obtain ⟨⟨cell, q1, q2, q3, q4⟩, hfo⟩ := obj_of hH (g2 q rfl) hk hb
  have hap := va_apart (own := (zyn m).cls) C.2.2.2.2.1 (zin_at hb) (zty b) (fun k hk => (zty_at hb hk).1) (znm_at hb) (zK C) (zcl_at hb)
  obtain ⟨hS', hfc, kC, hkC, hkind⟩ := (zK C).1 b _ (zcl_at hb)
  obtain ⟨cf, kf, fi, f, hi, hsl⟩ := hS' d hd1
  have hfit := @zfitR b d r Z.1 hb hd1 ht
  have hlay := C.2.2.2.2.1 _ (zin_at hb _ (u_in_lay hd1))
  unfold u_lay at hlay
  rw [if_neg (by rw [show (zT b d).2.2.2 = false from hfi]; decide)] at hlay
  have hst := (u_facts hfc hkC (u_lays C.2.2.2.2.1 (zin_at hb) hd1) hi).1
  have h6 := u_store hfc hkC hkind hlay hi (zty_at hb hd1).1 hfit.1 hfit.2
  refine W.putK C.1 C.2.1 (f := f) ⟨C.2.2.2.1, C.2.2.2.2.1 _ (inW_ok hw.1), ⟨_, _, _, hi⟩, hst⟩ (by rw [q2]; exact h6) q1 q3 (by rw [hsl]; exact k2_hasslot (q4 d hd1)) rfl rfl hd fun H' e1 e2 e3 => ?_
  rw [hsl] at e1
  refine k H' _ lr _ hl hs2 (HRel_put (q := q) hH rfl (fun a' hne k' => ?_) (fun a' hne k' => ?_) e2 e3 ?_) (hS.put e2 e3 (show Z.1 ≤ Z.1 + q by omega))
  · simp [sR, hne]
  · simp [sR, hne]
  · unfold celR
    rw [hk, if_pos (by omega)]
    refine ⟨t_OB.to ⟨_, e1, q2, q3, t_set q4 hap hd1 _⟩ (fun j _ => updV_fvR ht j), fun j hj => ?_⟩
    by_cases e : j = d
    · subst e
      simp only [sR, and_self, if_true]
      unfold fok
      rw [Nat.add_sub_cancel, if_pos ht]
      exact g1
    · have := hfo j hj
      simpa [sR, e] using this
theorem R_putRN {m pc pc' : Nat} {ls st : List MV} {M : MH} {Q : Res → MH → Prop} {a b d : Nat} {z : Int} {tb : List (Int × Nat)} {q : Nat} {r : Option Nat} (hc : cod m pc = some (56, a, b, d, z, tb)) (hp : pc + 3 = pc') (ht : zft b d = 4) (hk : K0 q = b + 1) (h : Run m pc' ls st (sR M q d r) Q) : Run m pc ls (vR r :: vR (some q) :: st) M Q := by
  subst hp
  have hd : decode (zby m) pc = .ok (.putfield a, 3) := (zdc hc).1
  have hw := Bool.and_eq_true_iff.mp (show (inN (66 + z.toNat) (.fieldLinkNest (zyn m).cls a (zfD b d).1 (zfD b d).2.1 (zfD b d).2.2.1 "RepairScan") && decide (d < znF b ∧ b < 10 ∧ (zfD b d).2.2.2 = false)) = true from (zdc hc).2.1)
  obtain ⟨hd1, hb, hfi⟩ : d < znF b ∧ b < 10 ∧ (zfD b d).2.2.2 = false := of_decide_eq_true hw.2
  refine R_heap (M2 := (sR M q d r)) rfl (fun Z p l e R s mid args below meth cc Qs C H locs cells slots lr sr hl hs hH hS b1 b2 k => ?_) h
  obtain ⟨w1, ws1, rfl, ⟨rfl, g1⟩, hs1⟩ := srel_cons hs
  obtain ⟨w2, ws2, rfl, ⟨rfl, g2⟩, hs2⟩ := srel_cons hs1
  obtain ⟨⟨cell, q1, q2, q3, q4⟩, hfo⟩ := obj_of hH (g2 q rfl) hk hb
  have hap := va_apart (own := (zyn m).cls) C.2.2.2.2.1 (zin_at hb) (zty b) (fun k hk => (zty_at hb hk).1) (znm_at hb) (zK C) (zcl_at hb)
  obtain ⟨hS', hfc, kC, hkC, hkind⟩ := (zK C).1 b _ (zcl_at hb)
  obtain ⟨cf, kf, fi, f, hi, hsl⟩ := hS' d hd1
  have hfit := @zfitR b d r Z.1 hb hd1 ht
  have hlay := C.2.2.2.2.1 _ (zin_at hb _ (u_in_lay hd1))
  unfold u_lay at hlay
  rw [if_neg (by rw [show (zT b d).2.2.2 = false from hfi]; decide)] at hlay
  have hst := (u_facts hfc hkC (u_lays C.2.2.2.2.1 (zin_at hb) hd1) hi).1
  have h6 := u_store hfc hkC hkind hlay hi (zty_at hb hd1).1 hfit.1 hfit.2
  refine va_WputK C.1 C.2.1 C.2.2.2.1 (zN C (inN_ok hw.1) rfl) hi hst (by rw [q2]; exact h6) q1 q3 (by rw [hsl]; exact k2_hasslot (q4 d hd1)) rfl rfl hd fun H' e1 e2 e3 => ?_
  rw [hsl] at e1
  refine k H' _ lr _ hl hs2 (HRel_put (q := q) hH rfl (fun a' hne k' => ?_) (fun a' hne k' => ?_) e2 e3 ?_) (hS.put e2 e3 (show Z.1 ≤ Z.1 + q by omega))
  · simp [sR, hne]
  · simp [sR, hne]
  · unfold celR
    rw [hk, if_pos (by omega)]
    refine ⟨t_OB.to ⟨_, e1, q2, q3, t_set q4 hap hd1 _⟩ (fun j _ => updV_fvR ht j), fun j hj => ?_⟩
    by_cases e : j = d
    · subst e
      simp only [sR, and_self, if_true]
      unfold fok
      rw [Nat.add_sub_cancel, if_pos ht]
      exact g1
    · have := hfo j hj
      simpa [sR, e] using this
theorem R_putRF {m pc pc' : Nat} {ls st : List MV} {M : MH} {Q : Res → MH → Prop} {a b d : Nat} {z : Int} {tb : List (Int × Nat)} {q : Nat} {r : Option Nat} (hc : cod m pc = some (57, a, b, d, z, tb)) (hp : pc + 3 = pc') (ht : zft b d = 4) (hk : K0 q = b + 1) (hinit : (zyn m).name = "<init>") (h : Run m pc' ls st (sR M q d r) Q) : Run m pc ls (vR r :: vR (some q) :: st) M Q := by
  subst hp
  have hd : decode (zby m) pc = .ok (.putfield a, 3) := (zdc hc).1
  have hw := Bool.and_eq_true_iff.mp (show (inW (66 + z.toNat) (.fieldLink (zyn m).cls a (zfD b d).1 (zfD b d).2.1 (zfD b d).2.2.1) && decide (d < znF b ∧ b < 10 ∧ (zfD b d).2.2.2 = true ∧ (zfD b d).1 = (zyn m).cls)) = true from (zdc hc).2.1)
  obtain ⟨hd1, hb, hfi, hdc⟩ : d < znF b ∧ b < 10 ∧ (zfD b d).2.2.2 = true ∧ (zfD b d).1 = (zyn m).cls := of_decide_eq_true hw.2
  refine R_heap (M2 := (sR M q d r)) rfl (fun Z p l e R s mid args below meth cc Qs C H locs cells slots lr sr hl hs hH hS b1 b2 k => ?_) h
  obtain ⟨w1, ws1, rfl, ⟨rfl, g1⟩, hs1⟩ := srel_cons hs
  obtain ⟨w2, ws2, rfl, ⟨rfl, g2⟩, hs2⟩ := srel_cons hs1
  obtain ⟨⟨cell, q1, q2, q3, q4⟩, hfo⟩ := obj_of hH (g2 q rfl) hk hb
  have hap := va_apart (own := (zyn m).cls) C.2.2.2.2.1 (zin_at hb) (zty b) (fun k hk => (zty_at hb hk).1) (znm_at hb) (zK C) (zcl_at hb)
  obtain ⟨hS', hfc, kC, hkC, hkind⟩ := (zK C).1 b _ (zcl_at hb)
  obtain ⟨cf, kf, fi, f, hi, hsl⟩ := hS' d hd1
  have hfit := @zfitR b d r Z.1 hb hd1 ht
  have hlay := C.2.2.2.2.1 _ (zin_at hb _ (u_in_lay hd1))
  unfold u_lay at hlay
  rw [if_pos (show (zT b d).2.2.2 = true from hfi)] at hlay
  have hst := (u_facts hfc hkC (u_lays C.2.2.2.2.1 (zin_at hb) hd1) hi).1
  have hcf : mid.cls = cf := by
    obtain ⟨_, _, c', _, _, _, -, -, hf', -, -, -, hown2, -⟩ := Cond.laysFinal_spec hlay
    have e1 : c' = cf := by have := hi.symm.trans hf'; simp at this; exact this.1.symm
    rw [show (zT b d).1 = (zyn m).cls from hdc] at hown2
    rw [← e1]; exact Option.some.inj (C.2.2.2.1.symm.trans hown2)
  have h6 := u_fits hfc hkC hkind (Or.inr hlay) hi (zty_at hb hd1).1 hfit.1 hfit.2
  refine W.putFinK C.1 C.2.1 C.2.2.2.1 (C.2.2.2.2.1 _ (inW_ok hw.1)) hi hst hcf (C.2.2.2.2.2.2.2.1 hinit) (by rw [q2]; exact h6) q1 q3 (by rw [hsl]; exact k2_hasslot (q4 d hd1)) rfl rfl hd fun H' e1 e2 e3 => ?_
  rw [hsl] at e1
  refine k H' _ lr _ hl hs2 (HRel_put (q := q) hH rfl (fun a' hne k' => ?_) (fun a' hne k' => ?_) e2 e3 ?_) (hS.put e2 e3 (show Z.1 ≤ Z.1 + q by omega))
  · simp [sR, hne]
  · simp [sR, hne]
  · unfold celR
    rw [hk, if_pos (by omega)]
    refine ⟨t_OB.to ⟨_, e1, q2, q3, t_set q4 hap hd1 _⟩ (fun j _ => updV_fvR ht j), fun j hj => ?_⟩
    by_cases e : j = d
    · subst e
      simp only [sR, and_self, if_true]
      unfold fok
      rw [Nat.add_sub_cancel, if_pos ht]
      exact g1
    · have := hfo j hj
      simpa [sR, e] using this
end
section
/-! arrays, new cells, the script, switches, texts -/
theorem zarr {m : Nat} {Z : EP} {p : Program} {l : Launch} {e : Env} {R : Room} {s : State} {mid : MethodId} {args : Array Value} {below : List Frame} {meth : Method} {c : Code} (C : Cx m Z p l e R s mid args below meth c) (t : Nat) (ht : t < 5) : ∃ ty, ArrOfT s (Z.2.2.1 t) ty ∧ va_RA s (Z.2.2.1 t) ty ∧ (t = 0 → ty = .int) ∧ (t = 1 → ty = .byte) ∧ (t = 2 → ty = .boolean) ∧ (t = 3 → ty = .long) ∧ (t = 4 → ty = .object "RepairScan$Found") := by
  obtain ⟨ty, h, h2⟩ := ztys_at Z ht
  exact ⟨ty, ((zK C).2 t _ h).1, ((zK C).2 t _ h).2, h2⟩
theorem arr_in {i : Int} {cA : ClassId} {n : Nat} {f : Nat → Value} (hi : r32 i) (h0 : 0 ≤ i) (h1 : i < n) : ¬ (Int32.ofInt i < 0 ∨ (arrV cA n f).slots.size ≤ (Int32.ofInt i).toNatClampNeg) := by
  rw [arrV_size]
  exact in32 hi h0 h1
theorem arr_rd {i : Int} {cA : ClassId} {n : Nat} {f : Nat → Value} (hi : r32 i) (h0 : 0 ≤ i) (h1 : i < n) : (arrV cA n f).slots[(Int32.ofInt i).toNatClampNeg]? = some (f i.toNat) := by
  rw [i32clamp hi]
  exact arrV_read _ _ (by omega)
theorem celR_arr {Z : EP} {M : MH} {H : Heap} {q t : Nat} (hk : K0 q = t + 21) (h : arrR Z M H q t) : celR Z M H q := by
  unfold celR
  rw [hk, if_neg (by omega)]
  exact h
theorem updV_avI {M : MH} {q t i B : Nat} {x : Int} {w : Value} (hw : w = av B t x (M.2.1 q i)) : updV (fun j => av B t (M.1 q j) (M.2.1 q j)) i w = fun j => av B t ((sI M q i x).1 q j) ((sI M q i x).2.1 q j) := by
  funext j
  unfold updV sI
  by_cases e : j = i
  · subst e
    simp [hw]
  · simp [e]
theorem updV_avR {M : MH} {q i B : Nat} {r : Option Nat} : updV (fun j => av B 4 (M.1 q j) (M.2.1 q j)) i (zrv B r) = fun j => av B 4 ((sR M q i r).1 q j) ((sR M q i r).2.1 q j) := by
  funext j
  unfold updV sR
  by_cases e : j = i
  · subst e
    simp [av]
  · simp [e]
theorem R_iald {m pc pc' : Nat} {ls st : List MV} {M : MH} {Q : Res → MH → Prop} {a b d : Nat} {z : Int} {tb : List (Int × Nat)} {q : Nat} {i : Int} (hc : cod m pc = some (58, a, b, d, z, tb)) (hp : pc + 1 = pc') (hk : K0 q = 0 + 21) (h0 : 0 ≤ i) (h1 : i < L0 q) (h : Run m pc' ls (vI (M.1 q i.toNat) :: st) M Q) : Run m pc ls (vI i :: vR (some q) :: st) M Q := by
  subst hp
  have hd : decode (zby m) pc = .ok (.iaload, 1) := (zdc hc).1
  refine R_pure (fun Z p l e R s mid args below meth cc Qs C H locs cells slots lr sr hl hs hH hS b1 b2 k => ?_) h
  obtain ⟨w1, ws1, rfl, ⟨rfl, g1⟩, hs1⟩ := srel_cons hs
  obtain ⟨w2, ws2, rfl, ⟨rfl, g2⟩, hs2⟩ := srel_cons hs1
  obtain ⟨e1, e2⟩ := arr_of hH (g2 q rfl) hk
  obtain ⟨ty, a1, a2, y0, y1, y2, y3, y4⟩ := zarr C 0 (by decide)
  cases y0 rfl
  have hr := e2 i.toNat (by omega)
  refine W.iald C.1 C.2.1 e1 (a1 _ _) (fun q => by cases q) (arr_in g1 h0 h1) (arr_rd g1 h0 h1) rfl rfl hd ?_
  exact k lr _ hl ⟨⟨rfl, hr⟩, hs2⟩
theorem R_bald {m pc pc' : Nat} {ls st : List MV} {M : MH} {Q : Res → MH → Prop} {a b d : Nat} {z : Int} {tb : List (Int × Nat)} {q : Nat} {i : Int} (hc : cod m pc = some (60, a, b, d, z, tb)) (hp : pc + 1 = pc') (hk : K0 q = 1 + 21) (h0 : 0 ≤ i) (h1 : i < L0 q) (h : Run m pc' ls (vI (M.1 q i.toNat) :: st) M Q) : Run m pc ls (vI i :: vR (some q) :: st) M Q := by
  subst hp
  have hd : decode (zby m) pc = .ok (.baload, 1) := (zdc hc).1
  refine R_pure (fun Z p l e R s mid args below meth cc Qs C H locs cells slots lr sr hl hs hH hS b1 b2 k => ?_) h
  obtain ⟨w1, ws1, rfl, ⟨rfl, g1⟩, hs1⟩ := srel_cons hs
  obtain ⟨w2, ws2, rfl, ⟨rfl, g2⟩, hs2⟩ := srel_cons hs1
  obtain ⟨e1, e2⟩ := arr_of hH (g2 q rfl) hk
  obtain ⟨ty, a1, a2, y0, y1, y2, y3, y4⟩ := zarr C 1 (by decide)
  cases y1 rfl
  have hr := e2 i.toNat (by omega)
  refine W.bald C.1 C.2.1 e1 (a1 _ _) (fun q => by cases q) (arr_in g1 h0 h1) (arr_rd g1 h0 h1) rfl rfl hd ?_
  exact k lr _ hl ⟨⟨rfl, by have h9 : -128 ≤ M.1 q i.toNat ∧ M.1 q i.toNat < 128 := hr; constructor <;> omega⟩, hs2⟩
theorem R_zald {m pc pc' : Nat} {ls st : List MV} {M : MH} {Q : Res → MH → Prop} {a b d : Nat} {z : Int} {tb : List (Int × Nat)} {q : Nat} {i : Int} (hc : cod m pc = some (60, a, b, d, z, tb)) (hp : pc + 1 = pc') (hk : K0 q = 2 + 21) (h0 : 0 ≤ i) (h1 : i < L0 q) (h : Run m pc' ls (vI (M.1 q i.toNat) :: st) M Q) : Run m pc ls (vI i :: vR (some q) :: st) M Q := by
  subst hp
  have hd : decode (zby m) pc = .ok (.baload, 1) := (zdc hc).1
  refine R_pure (fun Z p l e R s mid args below meth cc Qs C H locs cells slots lr sr hl hs hH hS b1 b2 k => ?_) h
  obtain ⟨w1, ws1, rfl, ⟨rfl, g1⟩, hs1⟩ := srel_cons hs
  obtain ⟨w2, ws2, rfl, ⟨rfl, g2⟩, hs2⟩ := srel_cons hs1
  obtain ⟨e1, e2⟩ := arr_of hH (g2 q rfl) hk
  obtain ⟨ty, a1, a2, y0, y1, y2, y3, y4⟩ := zarr C 2 (by decide)
  cases y2 rfl
  have hr := e2 i.toNat (by omega)
  refine W.zald C.1 C.2.1 e1 (a1 _ _) (fun q => by cases q) (arr_in g1 h0 h1) (arr_rd g1 h0 h1) rfl rfl hd ?_
  exact k lr _ hl ⟨⟨rfl, by have h9 : M.1 q i.toNat = 0 ∨ M.1 q i.toNat = 1 := hr; constructor <;> omega⟩, hs2⟩
theorem R_lald {m pc pc' : Nat} {ls st : List MV} {M : MH} {Q : Res → MH → Prop} {a b d : Nat} {z : Int} {tb : List (Int × Nat)} {q : Nat} {i : Int} (hc : cod m pc = some (62, a, b, d, z, tb)) (hp : pc + 1 = pc') (hk : K0 q = 3 + 21) (h0 : 0 ≤ i) (h1 : i < L0 q) (h : Run m pc' ls (vL (M.1 q i.toNat) :: st) M Q) : Run m pc ls (vI i :: vR (some q) :: st) M Q := by
  subst hp
  have hd : decode (zby m) pc = .ok (.laload, 1) := (zdc hc).1
  refine R_pure (fun Z p l e R s mid args below meth cc Qs C H locs cells slots lr sr hl hs hH hS b1 b2 k => ?_) h
  obtain ⟨w1, ws1, rfl, ⟨rfl, g1⟩, hs1⟩ := srel_cons hs
  obtain ⟨w2, ws2, rfl, ⟨rfl, g2⟩, hs2⟩ := srel_cons hs1
  obtain ⟨e1, e2⟩ := arr_of hH (g2 q rfl) hk
  obtain ⟨ty, a1, a2, y0, y1, y2, y3, y4⟩ := zarr C 3 (by decide)
  cases y3 rfl
  have hr := e2 i.toNat (by omega)
  refine W.lald C.1 C.2.1 e1 (a1 _ _) (fun q => by cases q) (arr_in g1 h0 h1) (arr_rd g1 h0 h1) rfl rfl hd ?_
  exact k lr _ hl ⟨⟨rfl, hr⟩, hs2⟩
theorem R_aald {m pc pc' : Nat} {ls st : List MV} {M : MH} {Q : Res → MH → Prop} {a b d : Nat} {z : Int} {tb : List (Int × Nat)} {q : Nat} {i : Int} (hc : cod m pc = some (64, a, b, d, z, tb)) (hp : pc + 1 = pc') (hk : K0 q = 4 + 21) (h0 : 0 ≤ i) (h1 : i < L0 q) (h : Run m pc' ls (vR (M.2.1 q i.toNat) :: st) M Q) : Run m pc ls (vI i :: vR (some q) :: st) M Q := by
  subst hp
  have hd : decode (zby m) pc = .ok (.aaload, 1) := (zdc hc).1
  refine R_pure (fun Z p l e R s mid args below meth cc Qs C H locs cells slots lr sr hl hs hH hS b1 b2 k => ?_) h
  obtain ⟨w1, ws1, rfl, ⟨rfl, g1⟩, hs1⟩ := srel_cons hs
  obtain ⟨w2, ws2, rfl, ⟨rfl, g2⟩, hs2⟩ := srel_cons hs1
  obtain ⟨e1, e2⟩ := arr_of hH (g2 q rfl) hk
  obtain ⟨ty, a1, a2, y0, y1, y2, y3, y4⟩ := zarr C 4 (by decide)
  cases y4 rfl
  have hr := e2 i.toNat (by omega)
  refine W.aald C.1 C.2.1 e1 (a1 _ _) rfl (fun q => by cases q) (arr_in g1 h0 h1) (arr_rd g1 h0 h1) rfl rfl hd ?_
  exact k lr _ hl ⟨⟨rfl, hr⟩, hs2⟩
theorem R_iast {m pc pc' : Nat} {ls st : List MV} {M : MH} {Q : Res → MH → Prop} {a b d : Nat} {z : Int} {tb : List (Int × Nat)} {q : Nat} {i x : Int} (hc : cod m pc = some (59, a, b, d, z, tb)) (hp : pc + 1 = pc') (hk : K0 q = 0 + 21) (h0 : 0 ≤ i) (h1 : i < L0 q) (h : Run m pc' ls st (sI M q i.toNat x) Q) : Run m pc ls (vI x :: vI i :: vR (some q) :: st) M Q := by
  subst hp
  have hd : decode (zby m) pc = .ok (.iastore, 1) := (zdc hc).1
  refine R_heap (M2 := sI M q i.toNat x) rfl (fun Z p l e R s mid args below meth cc Qs C H locs cells slots lr sr hl hs hH hS b1 b2 k => ?_) h
  obtain ⟨w0, ws0, rfl, ⟨rfl, g0⟩, hs0⟩ := srel_cons hs
  obtain ⟨w1, ws1, rfl, ⟨rfl, g1⟩, hs1⟩ := srel_cons hs0
  obtain ⟨w2, ws2, rfl, ⟨rfl, g2⟩, hs2⟩ := srel_cons hs1
  obtain ⟨e1, e2⟩ := arr_of hH (g2 q rfl) hk
  obtain ⟨ty, a1, a2, y0, y1, y2, y3, y4⟩ := zarr C 0 (by decide)
  cases y0 rfl
  refine W.iast C.1 C.2.1 e1 (a1 _ _) (fun q => by cases q) (arr_in g1 h0 h1) rfl rfl hd fun H1 q1 q2 q3 => ?_
  refine k H1 _ lr _ hl hs2 (HRel_put (q := q) hH rfl (fun a' hne k' => ?_) (fun a' hne k' => ?_) q2 q3 (celR_arr hk ⟨?_, fun j hj => ?_⟩)) (hS.put q2 q3 (show Z.1 ≤ Z.1 + q by omega))
  · simp [sI, hne]
  · rfl
  · rw [q1, i32clamp g1, arrV_store, updV_avI (x := x)]
    rfl
  · by_cases e : j = i.toNat
    · subst e
      simp only [sI, and_self, if_true]
      exact g0
    · have := e2 j hj
      simpa [sI, e] using this
theorem R_bast {m pc pc' : Nat} {ls st : List MV} {M : MH} {Q : Res → MH → Prop} {a b d : Nat} {z : Int} {tb : List (Int × Nat)} {q : Nat} {i x : Int} (hc : cod m pc = some (61, a, b, d, z, tb)) (hp : pc + 1 = pc') (hk : K0 q = 1 + 21) (h0 : 0 ≤ i) (h1 : i < L0 q) (h : Run m pc' ls st (sI M q i.toNat ((x + 128) % 256 - 128)) Q) : Run m pc ls (vI x :: vI i :: vR (some q) :: st) M Q := by
  subst hp
  have hd : decode (zby m) pc = .ok (.bastore, 1) := (zdc hc).1
  refine R_heap (M2 := sI M q i.toNat ((x + 128) % 256 - 128)) rfl (fun Z p l e R s mid args below meth cc Qs C H locs cells slots lr sr hl hs hH hS b1 b2 k => ?_) h
  obtain ⟨w0, ws0, rfl, ⟨rfl, g0⟩, hs0⟩ := srel_cons hs
  obtain ⟨w1, ws1, rfl, ⟨rfl, g1⟩, hs1⟩ := srel_cons hs0
  obtain ⟨w2, ws2, rfl, ⟨rfl, g2⟩, hs2⟩ := srel_cons hs1
  obtain ⟨e1, e2⟩ := arr_of hH (g2 q rfl) hk
  obtain ⟨ty, a1, a2, y0, y1, y2, y3, y4⟩ := zarr C 1 (by decide)
  cases y1 rfl
  refine W.bast C.1 C.2.1 e1 (a1 _ _) (fun q => by cases q) (arr_in g1 h0 h1) rfl rfl hd fun H1 q1 q2 q3 => ?_
  refine k H1 _ lr _ hl hs2 (HRel_put (q := q) hH rfl (fun a' hne k' => ?_) (fun a' hne k' => ?_) q2 q3 (celR_arr hk ⟨?_, fun j hj => ?_⟩)) (hS.put q2 q3 (show Z.1 ≤ Z.1 + q by omega))
  · simp [sI, hne]
  · rfl
  · rw [q1, i32clamp g1, arrV_store, updV_avI (x := ((x + 128) % 256 - 128))]
    show narrow .byte (.int (Int32.ofInt x)) = .int (Int32.ofInt ((x + 128) % 256 - 128))
    show Value.int ((Int32.ofInt x).toInt8.toInt32) = _
    rw [eq32 (x := (Int32.ofInt x).toInt8.toInt32) (z := (x + 128) % 256 - 128) (by rw [Int8.toInt_toInt32, Int32.toInt_toInt8, i32t g0, Int.bmod_def]; omega)]
  · by_cases e : j = i.toNat
    · subst e
      simp only [sI, and_self, if_true]
      show -128 ≤ (x + 128) % 256 - 128 ∧ (x + 128) % 256 - 128 < 128; omega
    · have := e2 j hj
      simpa [sI, e] using this
theorem R_zast {m pc pc' : Nat} {ls st : List MV} {M : MH} {Q : Res → MH → Prop} {a b d : Nat} {z : Int} {tb : List (Int × Nat)} {q : Nat} {i x : Int} (hc : cod m pc = some (61, a, b, d, z, tb)) (hp : pc + 1 = pc') (hk : K0 q = 2 + 21) (h0 : 0 ≤ i) (h1 : i < L0 q) (hx : x = 0 ∨ x = 1) (h : Run m pc' ls st (sI M q i.toNat x) Q) : Run m pc ls (vI x :: vI i :: vR (some q) :: st) M Q := by
  subst hp
  have hd : decode (zby m) pc = .ok (.bastore, 1) := (zdc hc).1
  refine R_heap (M2 := sI M q i.toNat x) rfl (fun Z p l e R s mid args below meth cc Qs C H locs cells slots lr sr hl hs hH hS b1 b2 k => ?_) h
  obtain ⟨w0, ws0, rfl, ⟨rfl, g0⟩, hs0⟩ := srel_cons hs
  obtain ⟨w1, ws1, rfl, ⟨rfl, g1⟩, hs1⟩ := srel_cons hs0
  obtain ⟨w2, ws2, rfl, ⟨rfl, g2⟩, hs2⟩ := srel_cons hs1
  obtain ⟨e1, e2⟩ := arr_of hH (g2 q rfl) hk
  obtain ⟨ty, a1, a2, y0, y1, y2, y3, y4⟩ := zarr C 2 (by decide)
  cases y2 rfl
  refine W.zast C.1 C.2.1 e1 (a1 _ _) (fun q => by cases q) (arr_in g1 h0 h1) rfl rfl hd fun H1 q1 q2 q3 => ?_
  refine k H1 _ lr _ hl hs2 (HRel_put (q := q) hH rfl (fun a' hne k' => ?_) (fun a' hne k' => ?_) q2 q3 (celR_arr hk ⟨?_, fun j hj => ?_⟩)) (hS.put q2 q3 (show Z.1 ≤ Z.1 + q by omega))
  · simp [sI, hne]
  · rfl
  · rw [q1, i32clamp g1, arrV_store, updV_avI (x := x)]
    rcases hx with rfl | rfl <;> rfl
  · by_cases e : j = i.toNat
    · subst e
      simp only [sI, and_self, if_true]
      exact hx
    · have := e2 j hj
      simpa [sI, e] using this
theorem R_last {m pc pc' : Nat} {ls st : List MV} {M : MH} {Q : Res → MH → Prop} {a b d : Nat} {z : Int} {tb : List (Int × Nat)} {q : Nat} {i x : Int} (hc : cod m pc = some (63, a, b, d, z, tb)) (hp : pc + 1 = pc') (hk : K0 q = 3 + 21) (h0 : 0 ≤ i) (h1 : i < L0 q) (h : Run m pc' ls st (sI M q i.toNat x) Q) : Run m pc ls (vL x :: vI i :: vR (some q) :: st) M Q := by
  subst hp
  have hd : decode (zby m) pc = .ok (.lastore, 1) := (zdc hc).1
  refine R_heap (M2 := sI M q i.toNat x) rfl (fun Z p l e R s mid args below meth cc Qs C H locs cells slots lr sr hl hs hH hS b1 b2 k => ?_) h
  obtain ⟨w0, ws0, rfl, ⟨rfl, g0⟩, hs0⟩ := srel_cons hs
  obtain ⟨w1, ws1, rfl, ⟨rfl, g1⟩, hs1⟩ := srel_cons hs0
  obtain ⟨w2, ws2, rfl, ⟨rfl, g2⟩, hs2⟩ := srel_cons hs1
  obtain ⟨e1, e2⟩ := arr_of hH (g2 q rfl) hk
  obtain ⟨ty, a1, a2, y0, y1, y2, y3, y4⟩ := zarr C 3 (by decide)
  cases y3 rfl
  refine W.last C.1 C.2.1 e1 (a1 _ _) (fun q => by cases q) (arr_in g1 h0 h1) rfl rfl hd fun H1 q1 q2 q3 => ?_
  refine k H1 _ lr _ hl hs2 (HRel_put (q := q) hH rfl (fun a' hne k' => ?_) (fun a' hne k' => ?_) q2 q3 (celR_arr hk ⟨?_, fun j hj => ?_⟩)) (hS.put q2 q3 (show Z.1 ≤ Z.1 + q by omega))
  · simp [sI, hne]
  · rfl
  · rw [q1, i32clamp g1, arrV_store, updV_avI (x := x)]
    rfl
  · by_cases e : j = i.toNat
    · subst e
      simp only [sI, and_self, if_true]
      exact g0
    · have := e2 j hj
      simpa [sI, e] using this
theorem R_aast {m pc pc' : Nat} {ls st : List MV} {M : MH} {Q : Res → MH → Prop} {a b d : Nat} {z : Int} {tb : List (Int × Nat)} {q v : Nat} {i : Int} (hc : cod m pc = some (65, a, b, d, z, tb)) (hp : pc + 1 = pc') (hk : K0 q = 4 + 21) (h0 : 0 ≤ i) (h1 : i < L0 q) (hv : K0 v = 3) (h : Run m pc' ls st (sR M q i.toNat (some v)) Q) : Run m pc ls (vR (some v) :: vI i :: vR (some q) :: st) M Q := by
  subst hp
  have hd : decode (zby m) pc = .ok (.aastore, 1) := (zdc hc).1
  refine R_heap (M2 := sR M q i.toNat (some v)) rfl (fun Z p l e R s mid args below meth cc Qs C H locs cells slots lr sr hl hs hH hS b1 b2 k => ?_) h
  obtain ⟨w0, ws0, rfl, ⟨rfl, g0⟩, hs0⟩ := srel_cons hs
  obtain ⟨w1, ws1, rfl, ⟨rfl, g1⟩, hs1⟩ := srel_cons hs0
  obtain ⟨w2, ws2, rfl, ⟨rfl, g2⟩, hs2⟩ := srel_cons hs1
  obtain ⟨e1, e2⟩ := arr_of hH (g2 q rfl) hk
  obtain ⟨ty, a1, a2, y0, y1, y2, y3, y4⟩ := zarr C 4 (by decide)
  cases y4 rfl
  obtain ⟨⟨cellV, v1, v2, v3, -⟩, -⟩ := obj_of (b := 2) hH (g0 v rfl) hv (by decide)
  have hcls : ClassAt s (zcn 2) (Z.2.1.1 2) := ((zK C).1 2 _ (zcl_at (by decide))).2
  obtain ⟨kA, comp, k1, k2, k3, -⟩ := a2
  have hcomp : comp = Z.2.1.1 2 := Option.some.inj (k3.symm.trans hcls.1)
  subst hcomp
  obtain ⟨kC, hkC, -⟩ := hcls.2
  refine W.aast C.1 C.2.1 e1 (fun q h => by cases h) (fun h => by cases h) k1 k2 rfl hkC ⟨fun q => by rw [i32neg g1] at q; omega, by rw [arrV_size, i32clamp g1]; omega⟩ v1 (fun q h => by rw [v3] at h; cases h) (by rw [v2]; exact hkC) (by rw [v2]; exact va_assign hcls) rfl rfl hd fun H1 q1 q2 q3 => ?_
  refine k H1 _ lr _ hl hs2 (HRel_put (q := q) hH rfl (fun a' hne k' => ?_) (fun a' hne k' => ?_) q2 q3 (celR_arr hk ⟨?_, fun j hj => ?_⟩)) (hS.put q2 q3 (show Z.1 ≤ Z.1 + q by omega))
  · rfl
  · simp [sR, hne]
  · rw [q1, i32clamp g1, arrV_store]
    rw [← updV_avR (B := Z.1) (r := some v)]
    rfl
  · by_cases e : j = i.toNat
    · subst e
      simp only [sR, and_self, if_true]
      exact g0
    · have := e2 j hj
      simpa [sR, e] using this
theorem R_alen {m pc pc' : Nat} {ls st : List MV} {M : MH} {Q : Res → MH → Prop} {a b d : Nat} {z : Int} {tb : List (Int × Nat)} {q : Nat} (hc : cod m pc = some (66, a, b, d, z, tb)) (hp : pc + 1 = pc') (t : Nat) (hk : K0 q = t + 21) (ht : t < 5) (h : Run m pc' ls (vI (L0 q) :: st) M Q) : Run m pc ls (vR (some q) :: st) M Q := by
  subst hp
  have hd : decode (zby m) pc = .ok (.arraylength, 1) := (zdc hc).1
  refine R_pure (fun Z p l e R s mid args below meth cc Qs C H locs cells slots lr sr hl hs hH hS b1 b2 k => ?_) h
  obtain ⟨w2, ws2, rfl, ⟨rfl, g2⟩, hs2⟩ := srel_cons hs
  obtain ⟨e1, e2⟩ := arr_of hH (g2 q rfl) hk
  obtain ⟨ty, a1, a2, -⟩ := zarr C t ht
  refine W.alen (n := Int32.ofInt (L0 q)) C.1 C.2.1 e1 (a1 _ _) (by rw [arrV_size]; rfl) rfl rfl hd ?_
  refine k lr _ hl ⟨⟨rfl, ?_⟩, hs2⟩
  have hL : ∀ a, L0 a < 10000 := by
    intro a
    unfold L0
    rw [List.getD_eq_getElem?_getD]
    by_cases ha : a < zlL.length
    · have h9 : zlL.all (fun x => decide (x < 10000)) = true := by decide +kernel
      rw [List.getElem?_eq_getElem ha]
      exact of_decide_eq_true (List.all_eq_true.mp h9 _ (List.getElem_mem ha))
    · rw [List.getElem?_eq_none (by omega)]
      decide
  have := hL q
  constructor <;> omega
theorem R_slen {m pc pc' : Nat} {ls st : List MV} {M : MH} {Q : Res → MH → Prop} {a b d : Nat} {z : Int} {tb : List (Int × Nat)} (hc : cod m pc = some (66, a, b, d, z, tb)) (hp : pc + 1 = pc') (h : Run m pc' ls (vI M.2.2.2.2.1 :: st) M Q) : Run m pc ls (vS 100 :: st) M Q := by
  subst hp
  have hd : decode (zby m) pc = .ok (.arraylength, 1) := (zdc hc).1
  refine R_pure (fun Z p l e R s mid args below meth cc Qs C H locs cells slots lr sr hl hs hH hS b1 b2 k => ?_) h
  obtain ⟨w2, ws2, rfl, hw, hs2⟩ := srel_cons hs
  have hw : ws2 = ws2 ∧ w2 = .ref Z.2.2.2.2.2.1 := ⟨rfl, by rcases hw with ⟨h, -⟩ | ⟨-, h⟩; exact absurd h (by decide); exact h⟩
  obtain ⟨-, rfl⟩ := hw
  obtain ⟨-, -, -, -, -, -, -, -, -, hX, hlt, hA, -⟩ := zEv C
  obtain ⟨-, -, -, h4, h5, -⟩ := hH
  refine va_slen C.1 C.2.1 hX hlt hA hS hd ?_
  rw [← h4]
  exact k lr _ hl ⟨⟨rfl, by constructor <;> omega⟩, hs2⟩
theorem R_sald {m pc pc' : Nat} {ls st : List MV} {M : MH} {Q : Res → MH → Prop} {a b d : Nat} {z : Int} {tb : List (Int × Nat)} {i : Int} (hc : cod m pc = some (58, a, b, d, z, tb)) (hp : pc + 1 = pc') (h0 : 0 ≤ i) (h1 : i < M.2.2.2.2.1) (h : Run m pc' ls (vI (M.2.2.2.2.2 i.toNat) :: st) M Q) : Run m pc ls (vI i :: vS 100 :: st) M Q := by
  subst hp
  have hd : decode (zby m) pc = .ok (.iaload, 1) := (zdc hc).1
  refine R_pure (fun Z p l e R s mid args below meth cc Qs C H locs cells slots lr sr hl hs hH hS b1 b2 k => ?_) h
  obtain ⟨w1, ws1, rfl, ⟨rfl, g1⟩, hs1⟩ := srel_cons hs
  obtain ⟨w2, ws2, rfl, hw, hs2⟩ := srel_cons hs1
  have hw : ws2 = ws2 ∧ w2 = .ref Z.2.2.2.2.2.1 := ⟨rfl, by rcases hw with ⟨h, -⟩ | ⟨-, h⟩; exact absurd h (by decide); exact h⟩
  obtain ⟨-, rfl⟩ := hw
  obtain ⟨-, -, -, -, -, -, -, -, -, hX, hlt, hA, -⟩ := zEv C
  obtain ⟨-, -, -, h4, h5, h6⟩ := hH
  obtain ⟨q1, q2⟩ := h6 i.toNat (by omega)
  refine va_sld C.1 C.2.1 hX hlt hA hS (i := Int32.ofInt i) (by rw [← h4]; exact in32 g1 h0 h1) hd ?_
  rw [i32clamp g1, q1]
  exact k lr _ hl ⟨⟨rfl, q2⟩, hs2⟩
/-- a new cell -/
def aN (M : MH) : MH := (fun b j => if b = M.2.2.1 then 0 else M.1 b j, fun b j => if b = M.2.2.1 then none else M.2.1 b j, M.2.2.1 + 1, M.2.2.2)
theorem srel_mono {Z : EP} {t1 t2 : Nat} (ht : t1 ≤ t2) : ∀ {st : List MV} {sr : List Value}, srel Z t1 st sr → srel Z t2 st sr
  | [], [], _ => trivial
  | [], _ :: _, h => h.elim
  | _ :: _, [], h => h.elim
  | v :: vs, w :: ws, h => by
    refine ⟨?_, srel_mono ht h.2⟩
    match v, h.1 with
    | .inl z, q => exact q
    | .inr (.inl z), q => exact q
    | .inr (.inr (.inl r)), q => exact ⟨q.1, fun x hx => Nat.lt_of_lt_of_le (q.2 x hx) ht⟩
    | .inr (.inr (.inr (.inl k))), q => exact q
    | .inr (.inr (.inr (.inr _))), q => exact q
theorem vrel_mono {Z : EP} {t1 t2 : Nat} (ht : t1 ≤ t2) {v : MV} {w : Value} (h : vrel Z t1 v w) : vrel Z t2 v w := (srel_mono (st := [v]) (sr := [w]) ht ⟨h, trivial⟩).1
theorem lrel_mono {Z : EP} {t1 t2 n : Nat} (ht : t1 ≤ t2) {ls : List MV} {lr : Array Slot} (h : lrel Z t1 n ls lr) : lrel Z t2 n ls lr :=
  ⟨h.1, h.2.1, h.2.2.1, fun i v hi => (h.2.2.2 i v hi).elim Or.inl fun ⟨w, h1, h2⟩ => Or.inr ⟨w, h1, vrel_mono ht h2⟩⟩
theorem HRel_new {Z : EP} {M : MH} {H H2 : Heap} (h : HRel Z M H) (hx : M.2.2.2.1 = 0) (hz : H2.size = H.size + 1) (ho : ∀ x : Nat, x < H.size → H2[x]? = H[x]?) (hc : celR Z (aN M) H2 M.2.2.1) : HRel Z (aN M) H2 := by
  obtain ⟨h1, h2, h3, h4, h5, h6⟩ := h
  have e0 := h1 hx
  refine ⟨fun _ => by show H2.size = Z.1 + (M.2.2.1 + 1); omega, by show Z.1 + (M.2.2.1 + 1) ≤ H2.size; omega, fun a ha => ?_, h4, h5, h6⟩
  have ha : a < M.2.2.1 + 1 := ha
  by_cases e : a = M.2.2.1
  · rw [e]; exact hc
  · refine celR_same (h3 a (by omega)) (fun k => ?_) (fun k => ?_) (by show M.2.2.1 ≤ M.2.2.1 + 1; omega) (ho _ (by omega))
    · simp [aN, e]
    · simp [aN, e]
theorem R_alloc {m pc pc' : Nat} {ls st st' : List MV} {M : MH} {Q : Res → MH → Prop} (hx : M.2.2.2.1 = 0)
    (step : ∀ (Z : EP) (p : Program) (l : Launch) (e : Env) (R : Room) (s : State) (mid : MethodId) (args : Array Value) (below : List Frame) (meth : Method) (c : Code) (Qs : State → Prop), Cx m Z p l e R s mid args below meth c →
      ∀ (H : Heap) (locs : List Loc) (cells slots : Nat) (lr : Array Slot) (sr : List Value), lrel Z M.2.2.1 (zml m) ls lr → srel Z M.2.2.1 st sr → HRel Z M H → H.size = Z.1 + M.2.2.1 → cells + 1 ≤ R.cells → slots + zsz M.2.2.1 ≤ R.slots →
        (∀ (H' : Heap) (sr' : List Value), srel Z (M.2.2.1 + 1) st' sr' → H'.size = H.size + 1 → (∀ x : Nat, x < H.size → H'[x]? = H[x]?) → celR Z (aN M) H' M.2.2.1 → W p l e R s mid args below meth c H' locs (cells + 1) (slots + zsz M.2.2.1) Qs (F0 mid pc' lr sr')) →
        W p l e R s mid args below meth c H locs cells slots Qs (F0 mid pc lr sr))
    (h : Run m pc' ls st' (aN M) Q) : Run m pc ls st M Q := by
  obtain ⟨r, M', hQ, hm, hX⟩ := h
  have h1 := mle_c hm
  have h2 := mle_s hm
  have e1 : cst (aN M) = cst M + 1 := by show M.2.2.1 + 1 + M.2.2.2.1 = M.2.2.1 + M.2.2.2.1 + 1; omega
  have e2 : sst (aN M) = sst M + zsz M.2.2.1 := by show zss M.2.2.1 + zsz M.2.2.1 + 6 * M.2.2.2.1 = zss M.2.2.1 + 6 * M.2.2.2.1 + zsz M.2.2.1; omega
  refine ⟨r, M', hQ, ⟨by have := hm.1; have h9 : (aN M).2.2.1 = M.2.2.1 + 1 := rfl; omega, hm.2⟩, ?_⟩
  intro Z p l e R s mid args below meth c Qs C H locs cells slots lr sr hl hs hH hS b1 b2 hE
  refine step Z p l e R s mid args below meth c Qs C H locs cells slots lr sr hl hs hH (hH.1 hx) (by omega) (by omega) fun H' sr' hs' hz ho hc => ?_
  refine hX Z p l e R s mid args below meth c Qs C H' locs (cells + 1) (slots + zsz M.2.2.1) lr sr' (lrel_mono (Nat.le_succ _) hl) hs' (HRel_new hH hx hz ho hc) ⟨by have := hS.1; omega, fun x q1 q2 => ?_, hS.2.2⟩ (by omega) (by omega) hE
  rw [ho x (Nat.lt_of_lt_of_le q1 hS.1)]
  exact hS.2.1 x q1 q2
theorem R_new {m pc pc' : Nat} {ls st : List MV} {M : MH} {Q : Res → MH → Prop} {a b d : Nat} {z : Int} {tb : List (Int × Nat)} (hc : cod m pc = some (69, a, b, d, z, tb)) (hp : pc + 3 = pc') (hx : M.2.2.2.1 = 0) (hk : K0 M.2.2.1 = b + 1) (h : Run m pc' ls (vR (some M.2.2.1) :: st) (aN M) Q) : Run m pc ls st M Q := by
  subst hp
  have hd : decode (zby m) pc = .ok (.new a, 3) := (zdc hc).1
  have hw := Bool.and_eq_true_iff.mp (show (inW (66 + z.toNat) (.classLink (zyn m).cls a (zcn b)) && decide (b < 10)) = true from (zdc hc).2.1)
  have hb : b < 10 := of_decide_eq_true hw.2
  have hcl := zclk_at hb
  unfold zclk at hcl
  simp only [Bool.and_eq_true] at hcl
  have hsz : zsz M.2.2.1 = znF b := by
    unfold zsz
    rw [hk, if_pos (by omega)]
    rfl
  refine R_alloc hx (fun Z p l e R s mid args below meth cc Qs C H locs cells slots lr sr hl hs hH hz b1 b2 k => ?_) h
  obtain ⟨hS', hfc, kC', hkC', hkind⟩ := (zK C).1 b _ (zcl_at hb)
  rw [hsz] at b2 k
  refine W.newcK C.1 C.2.1 C.2.2.2.1 (C.2.2.2.2.1 _ (inW_ok hw.1)) (C.2.2.2.2.1 _ (inW_ok hcl.1.2)) (C.2.2.2.2.1 _ (inW_ok hcl.2)) rfl hd b1 b2 hfc rfl fun H1 kC hkC e1 z1 o1 => ?_
  refine k H1 _ ⟨⟨?_, fun q hq => ?_⟩, srel_mono (Nat.le_succ _) hs⟩ z1 o1 ?_
  · show Value.ref H.size = Value.ref (Z.1 + M.2.2.1)
    rw [hz]
  · cases hq; omega
  · unfold celR
    rw [hk, if_pos (by omega)]
    refine ⟨t_OB.to (u_born (zty b) C.2.2.2.2.1 (zin_at hb) ((zK C).1 b _ (zcl_at hb)) hkC (by rw [← hz]; exact e1) (fun k hk => (zty_at hb hk).1)) (fun j hj => ?_), fun j hj => ?_⟩
    · have h9 := (zty_at hb hj).2
      simp only [aN, if_true]
      rw [Nat.add_sub_cancel]
      generalize zty b j = ty at h9 ⊢
      cases ty with
      | int =>
        have e : zft b j = 0 := by simpa [ztc] using h9
        simp [fv, e, defaultValue]
      | boolean =>
        have e : zft b j = 1 := by simpa [ztc] using h9
        simp [fv, e, defaultValue]
      | object _ =>
        have e : zft b j = 4 := by simpa [ztc] using h9
        simp [fv, e, defaultValue, zrv]
      | array _ =>
        have e : zft b j = 4 := by simpa [ztc] using h9
        simp [fv, e, defaultValue, zrv]
      | _ => simp [ztc] at h9
    · simp only [aN, if_true]
      unfold fok
      split
      · intro q hq; cases hq
      · split
        · exact Or.inl rfl
        · exact r32_0
theorem R_newarr {m pc pc' : Nat} {ls st : List MV} {M : MH} {Q : Res → MH → Prop} {a b d : Nat} {z : Int} {tb : List (Int × Nat)} {n : Int} (hc : cod m pc = some (67, a, b, d, z, tb)) (hp : pc + 2 = pc') (hx : M.2.2.2.1 = 0) (ha : a < 4) (hk : K0 M.2.2.1 = a + 21) (hn : n = L0 M.2.2.1) (hb : L0 M.2.2.1 < 100000) (h : Run m pc' ls (vR (some M.2.2.1) :: st) (aN M) Q) : Run m pc ls (vI n :: st) M Q := by
  subst hp
  subst hn
  have hd : decode (zby m) pc = .ok (.newarray (zat a), 2) := (zdc hc).1
  have hsz : zsz M.2.2.1 = L0 M.2.2.1 := by
    unfold zsz
    rw [if_neg (by omega)]
  refine R_alloc hx (fun Z p l e R s mid args below meth cc Qs C H locs cells slots lr sr hl hs hH hz b1 b2 k => ?_) h
  obtain ⟨w1, ws1, rfl, ⟨rfl, g1⟩, hs1⟩ := srel_cons hs
  rw [hsz] at b2 k
  have hac : Cond.arrayClass (newarray.typeOf (zat a)) ∈ gW := by
    rcases (show a = 0 ∨ a = 1 ∨ a = 2 ∨ a = 3 by omega) with rfl | rfl | rfl | rfl
    · exact zw_ac_int
    · exact zw_ac_byte
    · exact zw_ac_boolean
    · exact zw_ac_long
  have hcb : componentBytes (newarray.typeOf (zat a)) ≤ 8 := by
    rcases (show a = 0 ∨ a = 1 ∨ a = 2 ∨ a = 3 by omega) with rfl | rfl | rfl | rfl <;> decide
  have hby : L0 M.2.2.1 * componentBytes (newarray.typeOf (zat a)) ≤ 536870912 := Nat.le_trans (Nat.mul_le_mul (Nat.le_of_lt hb) hcb) (by decide)
  refine va_newaK C.1 C.2.1 (C.2.2.2.2.1 _ hac) rfl hd rfl (N := L0 M.2.2.1) (fun q => by rw [i32neg g1] at q; omega) (by rw [i32clamp g1]; omega) hby b1 b2 rfl fun H1 cA e1 z1 o1 hAr hNm => ?_
  refine k H1 _ ⟨⟨?_, fun q hq => ?_⟩, srel_mono (Nat.le_succ _) hs1⟩ z1 o1 ?_
  · show Value.ref H.size = Value.ref (Z.1 + M.2.2.1)
    rw [hz]
  · cases hq; omega
  · refine celR_arr hk ⟨?_, fun j hj => ?_⟩
    · rw [← hz, e1]
      obtain ⟨ty, a1, a2, y0, y1, y2, y3, y4⟩ := zarr C a (by omega)
      have hty : newarray.typeOf (zat a) = ty := by
        rcases (show a = 0 ∨ a = 1 ∨ a = 2 ∨ a = 3 by omega) with rfl | rfl | rfl | rfl
        · rw [y0 rfl]; rfl
        · rw [y1 rfl]; rfl
        · rw [y2 rfl]; rfl
        · rw [y3 rfl]; rfl
      have hca : cA = Z.2.2.1 a := by
        rw [hty] at hNm
        rcases (show a = 0 ∨ a = 1 ∨ a = 2 ∨ a = 3 by omega) with rfl | rfl | rfl | rfl
        · cases y0 rfl; exact Option.some.inj (hNm.symm.trans a2)
        · cases y1 rfl; exact Option.some.inj (hNm.symm.trans a2)
        · cases y2 rfl; exact Option.some.inj (hNm.symm.trans a2)
        · cases y3 rfl; exact Option.some.inj (hNm.symm.trans a2)
      rw [hca]
      congr 1
      congr 1
      funext j
      simp only [aN, if_true]
      rcases (show a = 0 ∨ a = 1 ∨ a = 2 ∨ a = 3 by omega) with rfl | rfl | rfl | rfl <;> rfl
    · simp only [aN, if_true]
      rcases (show a = 0 ∨ a = 1 ∨ a = 2 ∨ a = 3 by omega) with rfl | rfl | rfl | rfl
      · exact r32_0
      · exact ⟨by decide, by decide⟩
      · exact Or.inl rfl
      · exact ⟨by decide, by decide⟩
theorem R_anew {m pc pc' : Nat} {ls st : List MV} {M : MH} {Q : Res → MH → Prop} {a b d : Nat} {z : Int} {tb : List (Int × Nat)} {n : Int} (hc : cod m pc = some (68, a, b, d, z, tb)) (hp : pc + 3 = pc') (hx : M.2.2.2.1 = 0) (hk : K0 M.2.2.1 = 4 + 21) (hn : n = L0 M.2.2.1) (hb : L0 M.2.2.1 < 100000) (h : Run m pc' ls (vR (some M.2.2.1) :: st) (aN M) Q) : Run m pc ls (vI n :: st) M Q := by
  subst hp
  subst hn
  have hd : decode (zby m) pc = .ok (.anewarray a, 3) := (zdc hc).1
  have hw : inW (66 + b) (.classLink (zyn m).cls a "RepairScan$Found") = true := (zdc hc).2.1
  have hsz : zsz M.2.2.1 = L0 M.2.2.1 := by
    unfold zsz
    rw [if_neg (by omega)]
  refine R_alloc hx (fun Z p l e R s mid args below meth cc Qs C H locs cells slots lr sr hl hs hH hz b1 b2 k => ?_) h
  obtain ⟨w1, ws1, rfl, ⟨rfl, g1⟩, hs1⟩ := srel_cons hs
  rw [hsz] at b2 k
  have hcl : (Int32.ofInt (L0 M.2.2.1 : Nat)).toNatClampNeg = L0 M.2.2.1 := by rw [i32clamp g1]; omega
  refine W.anew C.1 C.2.1 C.2.2.2.1 (C.2.2.2.2.1 _ (inW_ok hw)) (va_AO.use (zEv C).2.2.2.2.2.2.2.1) rfl hd rfl (fun q => by rw [i32neg g1] at q; omega) (by rw [hcl]; omega) b1 (by rw [hcl]; exact b2) fun cA kA comp r1 r2 r3 r4 => ?_
  rw [hcl]
  refine k _ _ ⟨⟨?_, fun q hq => ?_⟩, srel_mono (Nat.le_succ _) hs1⟩ (by simp) (fun x hx => by rw [Array.getElem?_push_lt hx, Array.getElem?_eq_getElem hx]) ?_
  · show Value.ref H.size = Value.ref (Z.1 + M.2.2.1)
    rw [hz]
  · cases hq; omega
  · obtain ⟨ty, a1, a2, y0, y1, y2, y3, y4⟩ := zarr C 4 (by decide)
    cases y4 rfl
    obtain ⟨kA', comp', k1, k2, k3, k4⟩ := a2
    have hca : cA = Z.2.2.1 4 := Option.some.inj (r1.symm.trans k4)
    refine celR_arr hk ⟨?_, fun j hj => ?_⟩
    · rw [← hz, hca]
      simp only [aN, if_true, Array.getElem?_push_size]
      congr 1
      unfold arrV
      congr 1
      apply Array.ext
      · simp
      · intro i q1 q2
        simp [av, zrv]
    · simp only [aN, if_true]
      intro q hq
      cases hq
def swT (a : Nat) (tb : List (Int × Nat)) (x : Int) : Nat := (tb.lookup x).getD a
theorem sw_lk {tb : List (Int × Nat)} {x : Int} {t : Nat} (h : tb.lookup x = some t) : ∃ k : Nat, tb[k]? = some (x, t) := by
  induction tb with
  | nil => simp at h
  | cons q l ih =>
    obtain ⟨u, v⟩ := q
    rw [List.lookup_cons] at h
    split at h
    · rename_i e
      have e1 : x = u := by simpa using e
      cases h
      exact ⟨0, by rw [e1]; rfl⟩
    · obtain ⟨k, hk⟩ := ih h
      exact ⟨k + 1, hk⟩
theorem sw_no {tb : List (Int × Nat)} {x : Int} (h : tb.lookup x = none) : ∀ q ∈ tb, q.1 ≠ x := by
  induction tb with
  | nil => intro q hq; cases hq
  | cons q l ih =>
    obtain ⟨u, v⟩ := q
    rw [List.lookup_cons] at h
    split at h
    · cases h
    · rename_i e
      intro q hq
      rcases List.mem_cons.mp hq with rfl | hq
      · intro e2
        have : x = u := e2.symm
        subst this
        simp at e
      · exact ih h q hq
theorem R_tsw {m pc pc' : Nat} {ls st : List MV} {M : MH} {Q : Res → MH → Prop} {a b d : Nat} {z : Int} {tb : List (Int × Nat)} {x : Int} (hc : cod m pc = some (51, a, b, d, z, tb)) (hp : swT a tb x = pc') (h : Run m pc' ls st M Q) : Run m pc ls (vI x :: st) M Q := by
  subst hp
  have hd : decode (zby m) pc = .ok (.tableswitch ((a : Int) - pc) z (z + (tb.length - 1 : Nat)) (tb.map fun q => (q.2 : Int) - pc).toArray, b) := (zdc hc).1
  have hb := Bool.and_eq_true_iff.mp (show (decide (tb.length ≠ 0) && (List.range tb.length).all (fun k => decide ((tb[k]?).map (·.1) = some (z + k)))) = true from (zdc hc).2.2.1)
  have hne : tb.length ≠ 0 := of_decide_eq_true hb.1
  have hall : ∀ k, k < tb.length → (tb[k]?).map (·.1) = some (z + k) := fun k hk => of_decide_eq_true (List.all_eq_true.mp hb.2 k (List.mem_range.mpr hk))
  refine R_pure (fun Z p l e R s mid args below meth cc Qs C H locs cells slots lr sr hl hs hH hS b1 b2 k => ?_) h
  obtain ⟨w1, ws1, rfl, ⟨rfl, g1⟩, hs1⟩ := srel_cons hs
  have k := k lr _ hl hs1
  unfold swT at k
  cases hlk : tb.lookup x with
  | some t =>
    rw [hlk] at k
    obtain ⟨j, hj⟩ := sw_lk hlk
    have hjl : j < tb.length := (List.getElem?_eq_some_iff.mp hj).1
    have hx : x = z + j := by
      have h9 := hall j hjl
      rw [hj] at h9
      exact Option.some.inj h9
    refine lv_tableIn C.1 C.2.1 hd (by rw [i32t g1]; omega) (by rw [i32t g1]; omega) (off := (t : Int) - pc) ?_ (tgt := t) (by omega) k
    rw [i32t g1, show (x - z).toNat = j by omega, List.getElem?_toArray, List.getElem?_map, hj]
    rfl
  | none =>
    rw [hlk] at k
    refine lv_tableOut C.1 C.2.1 hd ?_ (tgt := a) (by omega) k
    rw [i32t g1]
    by_cases q1 : x < z
    · exact Or.inl q1
    · refine Or.inr ?_
      by_cases q2 : z + ((tb.length - 1 : Nat) : Int) < x
      · exact q2
      · exfalso
        have hj : (x - z).toNat < tb.length := by omega
        have h9 := hall _ hj
        rw [List.getElem?_eq_getElem hj] at h9
        have h8 := Option.some.inj h9
        exact sw_no hlk _ (List.getElem_mem hj) (by have h7 : (tb[(x - z).toNat]).1 = z + ((x - z).toNat : Int) := h8; rw [h7]; omega)
theorem R_lsw {m pc pc' : Nat} {ls st : List MV} {M : MH} {Q : Res → MH → Prop} {a b d : Nat} {z : Int} {tb : List (Int × Nat)} {x : Int} (hc : cod m pc = some (52, a, b, d, z, tb)) (hp : swT a tb x = pc') (h : Run m pc' ls st M Q) : Run m pc ls (vI x :: st) M Q := by
  subst hp
  have hd : decode (zby m) pc = .ok (.lookupswitch ((a : Int) - pc) (tb.map fun q => (q.1, (q.2 : Int) - pc)).toArray, b) := (zdc hc).1
  have hb : (tb.zip (tb.drop 1)).all (fun q => decide (q.1.1 < q.2.1)) = true := (zdc hc).2.2.1
  refine R_pure (fun Z p l e R s mid args below meth cc Qs C H locs cells slots lr sr hl hs hH hS b1 b2 k => ?_) h
  obtain ⟨w1, ws1, rfl, ⟨rfl, g1⟩, hs1⟩ := srel_cons hs
  have k := k lr _ hl hs1
  have hoff : ∀ t : List (Int × Nat), Op.lookupswitch.offset (t.map fun q => (q.1, (q.2 : Int) - pc)) ((a : Int) - pc) x = ((swT a t x : Nat) : Int) - pc := by
    intro t
    induction t with
    | nil => rfl
    | cons q r ih =>
      obtain ⟨u, v⟩ := q
      by_cases e : x = u
      · subst e
        simp [Op.lookupswitch.offset, swT, List.lookup_cons]
      · have e2 : (x == u) = false := by simpa using e
        have e3 : ¬ u = x := fun q => e q.symm
        simp [swT, List.lookup_cons, e2] at ih ⊢
        simp [Op.lookupswitch.offset, e, e3]
        exact ih
  refine lv_lookup C.1 C.2.1 hd ?_ (off := ((swT a tb x : Nat) : Int) - pc) (by rw [i32t g1]; exact hoff tb) (by omega) k
  rw [← List.map_drop, List.zip_map, List.all_map]
  rw [← hb]
  congr 1
theorem R_ldcS {m pc pc' : Nat} {ls st : List MV} {M : MH} {Q : Res → MH → Prop} {a b d : Nat} {z : Int} {tb : List (Int × Nat)} (hc : cod m pc = some (70, a, b, d, z, tb)) (hp : pc + 2 = pc') (h : Run m pc' ls (vS b :: st) M Q) : Run m pc ls st M Q := by
  subst hp
  have hd : decode (zby m) pc = .ok (.ldc a, 2) := (zdc hc).1
  obtain ⟨q1, q2, q3⟩ : (zso b).1 = (zyn m).cls ∧ (zso b).2.1 = a ∧ b < 25 := of_decide_eq_true (show decide _ = true from (zdc hc).2.1)
  refine R_pure (fun Z p l e R s mid args below meth cc Qs C H locs cells slots lr sr hl hs hH hS b1 b2 k => ?_) h
  have hZ := (zEv C).2.2.1 b q3
  rw [q1, q2] at hZ
  exact va_ldcS C.1 C.2.1 C.2.2.2.1 hZ hd (k lr _ hl ⟨Or.inl ⟨q3, rfl⟩, hs⟩)
end
section
/-! ends, entries, calls -/
theorem R_end {m pc : Nat} {ls st : List MV} {M : MH} {Q : Res → MH → Prop} {r : Res} (hx : ∀ k, r ≠ .inr k) (he : endOK m pc r st) (hq : Q r M) : Run m pc ls st M Q := by
  refine ⟨r, M, hq, mle_refl, ?_⟩
  intro Z p l e R s mid args below meth c Qs C H locs cells slots lr sr hl hs hH hS b1 b2 hE
  exact hE H locs cells slots pc lr sr st he hs hl.1 hH hS (by omega) (by omega) (fun ⟨k, hk⟩ => absurd hk (hx k))
theorem R_vret {m pc : Nat} {ls : List MV} {M : MH} {Q : Res → MH → Prop} {a b d : Nat} {z : Int} {tb : List (Int × Nat)} (hc : cod m pc = some (86, a, b, d, z, tb)) (hr : zrt m = none) (hq : Q (.inl none) M) : Run m pc ls [] M Q :=
  R_end (r := .inl none) (fun _ h => by cases h) ⟨rfl, hr, a, b, d, z, tb, hc⟩ hq
theorem R_iret {m pc : Nat} {ls : List MV} {M : MH} {Q : Res → MH → Prop} {a b d : Nat} {z x : Int} {tb : List (Int × Nat)} (hc : cod m pc = some (83, a, b, d, z, tb)) (hr : zrt m = some .int) (hq : Q (.inl (some (vI x))) M) : Run m pc ls [vI x] M Q :=
  R_end (r := .inl (some (vI x))) (fun _ h => by cases h) ⟨rfl, Or.inl ⟨x, rfl, Or.inl hr, a, b, d, z, tb, hc⟩⟩ hq
theorem R_zret {m pc : Nat} {ls : List MV} {M : MH} {Q : Res → MH → Prop} {a b d : Nat} {z x : Int} {tb : List (Int × Nat)} (hc : cod m pc = some (83, a, b, d, z, tb)) (hr : zrt m = some .boolean) (hx : x = 0 ∨ x = 1) (hq : Q (.inl (some (vI x))) M) : Run m pc ls [vI x] M Q :=
  R_end (r := .inl (some (vI x))) (fun _ h => by cases h) ⟨rfl, Or.inl ⟨x, rfl, Or.inr ⟨hr, hx⟩, a, b, d, z, tb, hc⟩⟩ hq
theorem R_lret {m pc : Nat} {ls : List MV} {M : MH} {Q : Res → MH → Prop} {a b d : Nat} {z x : Int} {tb : List (Int × Nat)} (hc : cod m pc = some (84, a, b, d, z, tb)) (hr : zrt m = some .long) (hq : Q (.inl (some (vL x))) M) : Run m pc ls [vL x] M Q :=
  R_end (r := .inl (some (vL x))) (fun _ h => by cases h) ⟨rfl, Or.inr (Or.inl ⟨x, rfl, hr, a, b, d, z, tb, hc⟩)⟩ hq
theorem R_aret {m pc : Nat} {ls : List MV} {M : MH} {Q : Res → MH → Prop} {a b d : Nat} {z : Int} {tb : List (Int × Nat)} {r : Option Nat} (hc : cod m pc = some (85, a, b, d, z, tb)) (n : String) (hr : zrt m = some (.object n)) (hq : Q (.inl (some (vR r))) M) : Run m pc ls [vR r] M Q :=
  R_end (r := .inl (some (vR r))) (fun _ h => by cases h) ⟨rfl, Or.inr (Or.inr ⟨r, rfl, ⟨n, hr⟩, a, b, d, z, tb, hc⟩)⟩ hq
/-- throw new E() -/
theorem R_throw {m pc : Nat} {ls : List MV} {M : MH} {Q : Res → MH → Prop} {a k d : Nat} {z : Int} {tb : List (Int × Nat)} (hc : cod m pc = some (87, a, k, d, z, tb)) (hk : k < 4) (hcl : (zyn m).cls = "RepairScan") (hdp : 8 ≤ zdp m) (htb : ztb m = []) (ha : a = zik k) (hd : d = zic k) (h3 : ∃ i : MI, cod m (pc + 3) = some i ∧ i.1 = 33) (h4 : ∃ b' c' z' tb', cod m (pc + 4) = some (99, d, b', c', z', tb')) (h7 : ∃ i : MI, cod m (pc + 7) = some i ∧ i.1 = 98) (hq : Q (.inr k) M) : Run m pc ls [] M Q := by
  refine ⟨.inr k, M, hq, mle_refl, ?_⟩
  intro Z p l e R s mid args below meth c Qs C H locs cells slots lr sr hl hs hH hS b1 b2 hE
  have b1 : cells + cst M + 1 ≤ R.cells + cst M := b1
  have b2 : slots + sst M + 6 * 1 ≤ R.slots + sst M := b2
  exact hE H locs cells slots pc lr sr [] ⟨rfl, hk, hcl, hdp, htb, a, d, z, tb, ha, hd, hc, h3, h4, h7⟩ hs hl.1 hH hS (by omega) (by omega) (fun _ => ⟨by omega, by omega⟩)
def lay (as : List MV) : List MV := as.flatMap fun v => if isLg (some v) then [v, vJ] else [v]
def ent (m : Nat) (as : List MV) : List MV := lay as ++ List.replicate (zml m - (lay as).length) vJ
theorem vlong {Z : EP} {top : Nat} {v : MV} {w : Value} (h : vrel Z top v w) (hv : isLg (some v) = true) : w.category = 2 := by
  match v, h, hv with
  | .inl z, _, hv => cases hv
  | .inr (.inl z), h, _ => rw [h.1]; rfl
  | .inr (.inr (.inl r)), _, hv => cases hv
  | .inr (.inr (.inr (.inl k))), _, hv => cases hv
  | .inr (.inr (.inr (.inr _))), _, hv => cases hv
theorem lay_rel {Z : EP} {top : Nat} : ∀ {as : List MV} {ws : List Value}, srel Z top as ws → (lay as).length = (lg_sl ws).length ∧ ∀ (i : Nat) (v : MV), (lay as)[i]? = some v → v = vJ ∨ ∃ w, (lg_sl ws)[i]? = some (.val w) ∧ vrel Z top v w
  | [], [], _ => ⟨rfl, fun i v h => by simp [lay] at h⟩
  | [], _ :: _, h => h.elim
  | _ :: _, [], h => h.elim
  | a :: as, w :: ws, h => by
    obtain ⟨e1, e2⟩ := lay_rel h.2
    by_cases c : isLg (some a) = true
    · have c2 := vlong h.1 c
      have l1 : lay (a :: as) = a :: vJ :: lay as := by simp [lay, c]
      have l2 : lg_sl (w :: ws) = .val w :: .second :: lg_sl ws := by simp [lg_sl, c2]
      rw [l1, l2]
      refine ⟨by simp [e1], fun i v hv => ?_⟩
      match i, hv with
      | 0, hv => cases hv; exact Or.inr ⟨w, rfl, h.1⟩
      | 1, hv => cases hv; exact Or.inl rfl
      | i + 2, hv => exact e2 i v hv
    · have c1 : isLg (some a) = false := by simpa using c
      have c2 := vcat h.1 c1
      have l1 : lay (a :: as) = a :: lay as := by simp [lay, c1]
      have l2 : lg_sl (w :: ws) = .val w :: lg_sl ws := by simp [lg_sl, c2]
      rw [l1, l2]
      refine ⟨by simp [e1], fun i v hv => ?_⟩
      match i, hv with
      | 0, hv => cases hv; exact Or.inr ⟨w, rfl, h.1⟩
      | i + 1, hv => exact e2 i v hv
theorem ent_rel {Z : EP} {top m : Nat} {as : List MV} {ws : List Value} (h : srel Z top as ws) (hl : (lay as).length ≤ zml m) : lrel Z top (zml m) (ent m as) ((lg_sl ws ++ List.replicate (zml m - (lg_sl ws).length) Slot.unset).toArray) := by
  obtain ⟨e1, e2⟩ := lay_rel h
  have h2 := lv_entry ws (n := zml m) (by omega)
  refine ⟨h2.1, h2.2.1, by simp [ent]; omega, fun i v hv => ?_⟩
  unfold ent at hv
  by_cases c : i < (lay as).length
  · rw [List.getElem?_append_left c] at hv
    rcases e2 i v hv with q | ⟨w, q1, q2⟩
    · exact Or.inl q
    · refine Or.inr ⟨w, ?_, q2⟩
      rw [List.getElem?_toArray, List.getElem?_append_left (by omega)]
      exact q1
  · rw [List.getElem?_append_right (by omega), List.getElem?_replicate] at hv
    split at hv
    · cases hv; exact Or.inl rfl
    · cases hv
/-- a call's start and ends -/
def Pz (Z : EP) (as : List MV) (M : MH) : Array Value → State → Prop := fun a U => (∃ ws : List Value, a = ws.toArray ∧ srel Z M.2.2.1 as ws) ∧ HRel Z M U.heap ∧ Ev Z U U.heap ∧ Z.1 ≤ U.heap.size
def orel (Z : EP) (top : Nat) (v : Option MV) (w : Option Value) : Prop := match v with
  | none => w = none
  | some v => ∃ x, w = some x ∧ vrel Z top v x
def Qz (Z : EP) (v : Option MV) (M' : MH) : Array Value → State → Outcome → State → Prop := fun _ st o t => (∃ w, o = .returned w ∧ orel Z M'.2.2.1 v w) ∧ HRel Z M' t.heap ∧ va_F (zA Z) st t
def xN (M : MH) : MH := (M.1, M.2.1, M.2.2.1, M.2.2.2.1 + 1, M.2.2.2.2)
def Xz (Z : EP) (k : Nat) (M' : MH) : String → State → State → Prop := fun E st t => E = zex k ∧ HRel Z (xN M') t.heap ∧ va_F (zA Z) st t
def rmz (m : Nat) (r : Res) (M M' : MH) : Room := { frames := zdp m, cells := cst M' + xof r - cst M, slots := sst M' + 6 * xof r - sst M, locals := 40 * zdp m }
def wz (m : Nat) : List Cond := zcw m :: gW
def CallX (m : Nat) (as : List MV) (M : MH) (r : Res) (M' : MH) : Prop := ∀ (l : Launch) (Z : EP), l.stackTraces = false → match r with
  | .inl v => Met l (zyn m) (wz m) (rmz m r M M') (Pz Z as M) (Qz Z v M') (cst M' + 0 - cst M) (sst M' + 0 - sst M) (zA Z)
  | .inr k => vx_Met l (zyn m) (wz m) (rmz m r M M') (Pz Z as M) (fun _ _ _ _ => False) (Xz Z k M') (cst M' + 1 - cst M) (sst M' + 6 - sst M) (zA Z)
def Call (m : Nat) (as : List MV) (M : MH) (Q : Res → MH → Prop) : Prop := ∃ (r : Res) (M' : MH), Q r M' ∧ mle M M' ∧ CallX m as M r M'
theorem blindz {Z : EP} {as : List MV} {M : MH} : FrameBlind (Pz Z as M) := by
  intro a U g mk h
  obtain ⟨h1, h2, h3, h4⟩ := h
  exact ⟨h1, h2, Ev.same (u := U) rfl h3, h4⟩
def ckM (m : Nat) (as : List MV) : Bool := Nat.blt m 147 && (ztb m).isEmpty && Nat.ble (lay as).length (zml m)
theorem zmk_at {m : Nat} (hm : m < 147) : zmk m = true := List.all_eq_true.mp zmkA m (List.mem_range.mpr hm)
theorem zmk_plain {m : Nat} (hm : m < 147) : plainName (zyn m).cls = true := by
  have h := zmk_at hm
  unfold zmk at h
  simp only [Bool.and_eq_true] at h
  exact h.1.1.1.2
/-- the ends of a body that returns -/
theorem endz {m : Nat} {Z : EP} {p : Program} {l : Launch} {e : Env} {R : Room} {s : State} {mid : MethodId} {args : Array Value} {below : List Frame} {meth : Method} {c : Code} {v : Option MV} {M' : MH} (C : Cx m Z p l e R s mid args below meth c) : EndW m Z p l e R s mid args below meth c (MQ below (Qz Z v M') args s R.cells R.slots (zA Z)) (.inl v) M' := by
  intro H locs cells slots pc lr sr st he hs hlr hH hS b1 b2 _
  refine W.widen b1 b2 ?_
  cases v with
  | none =>
    obtain ⟨rfl, hr, a, b, d, z, tb, hc⟩ := he
    rw [srel_nil hs]
    exact W.vret C.1 C.2.1 (C.2.2.2.2.2.1.trans hr) (fun t ht hW => ⟨⟨none, rfl, rfl⟩, by rw [ht]; exact hH, hS.F ht⟩) hS.2.2 ((zdc hc).1 : decode (zby m) pc = .ok (.return_, 1)) C.2.2.2.2.2.2.1
  | some v =>
    obtain ⟨rfl, hv⟩ := he
    obtain ⟨w, ws, rfl, hw, hn⟩ := srel_cons hs
    rw [srel_nil hn]
    rcases hv with ⟨z, rfl, hr, a, b, d, z', tb, hc⟩ | ⟨z, rfl, hr, a, b, d, z', tb, hc⟩ | ⟨q, rfl, ⟨n, hr⟩, a, b, d, z', tb, hc⟩
    · obtain ⟨rfl, hz⟩ := hw
      rcases hr with hr | ⟨hr, h01⟩
      · exact W.iret C.1 C.2.1 (C.2.2.2.2.2.1.trans hr) (fun t ht hW => ⟨⟨_, rfl, _, rfl, rfl, hz⟩, by rw [ht]; exact hH, hS.F ht⟩) hS.2.2 ((zdc hc).1 : decode (zby m) pc = .ok (.ireturn, 1)) C.2.2.2.2.2.2.1
      · exact W.zret C.1 C.2.1 (C.2.2.2.2.2.1.trans hr) (by rcases h01 with rfl | rfl <;> decide) (fun t ht hW => ⟨⟨_, rfl, _, rfl, rfl, hz⟩, by rw [ht]; exact hH, hS.F ht⟩) hS.2.2 ((zdc hc).1 : decode (zby m) pc = .ok (.ireturn, 1)) C.2.2.2.2.2.2.1
    · obtain ⟨rfl, hz⟩ := hw
      exact W.lret C.1 C.2.1 (C.2.2.2.2.2.1.trans hr) (fun t ht hW => ⟨⟨_, rfl, _, rfl, rfl, hz⟩, by rw [ht]; exact hH, hS.F ht⟩) hS.2.2 ((zdc hc).1 : decode (zby m) pc = .ok (.lreturn, 1)) C.2.2.2.2.2.2.1
    · obtain ⟨rfl, hz⟩ := hw
      exact W.aret C.1 C.2.1 (C.2.2.2.2.2.1.trans hr) (Or.inl ⟨n, rfl⟩) (by cases q with
        | none => exact Or.inl rfl
        | some x => exact Or.inr ⟨_, rfl⟩) (fun t ht hW => ⟨⟨_, rfl, _, rfl, rfl, hz⟩, by rw [ht]; exact hH, hS.F ht⟩) hS.2.2 ((zdc hc).1 : decode (zby m) pc = .ok (.areturn, 1)) C.2.2.2.2.2.2.1
/-- what a body stands on -/
theorem Cx_of {m : Nat} {Z : EP} {p : Program} {l : Launch} {e : Env} {s : State} {mid : MethodId} {args : Array Value} {below : List Frame} {meth : Method} {c : Code} {s₁ : State} {r : Res} {M M' : MH} (hm : m < 147) (hl : l.stackTraces = false) (B : BodyLoose p l (zyn m) (headSpec (wz m) (rmz m r M M')) (zby m) (zml m) (zrt m) e s mid args below meth c s₁) (hml : c.maxLocals = zml m) (hE : Ev Z s s.heap) (hB : Z.1 ≤ s.heap.size) : Cx m Z p l e (headSpec (wz m) (rmz m r M M')).room s mid args below meth c := by
  have hts := atoms_spec (ws := wz m) B.pre
  refine ⟨B.exec, B.bytes, hml, findClass_of_methodNamed B.named, fun w hw => hts w (List.mem_cons_of_mem _ hw), B.returns, B.notSynchronized, fun h => (name_of_methodNamed B.named B.method).1.trans h, ?_, Nat.le_refl _, Nat.le_refl _, hl, hE, hB⟩
  have h0 := hts _ List.mem_cons_self
  unfold zcw at h0
  split at h0
  · rename_i hh
    have h1 := B.noHandlers h0
    have h2 : c.exceptionTable.toList = [] := by
      rw [Array.isEmpty_iff] at h1
      rw [h1]
    rw [h2, List.isEmpty_iff.mp hh]
    rfl
  · obtain ⟨m9, meth9, c9, hn9, h1, h2, -, -, h6, -⟩ := Cond.codeWith_spec h0
    cases Option.some.inj (hn9.symm.trans B.named)
    cases Option.some.inj (h1.symm.trans B.method)
    cases Option.some.inj (h2.symm.trans (Stand.of_body B).code)
    exact h6
/-- a method that returns, out of a run of its body -/
theorem CallX_ret {m : Nat} {as ls : List MV} {M M' : MH} {v : Option MV} (hm : m < 147) (hk : (lay as).length ≤ zml m) (hls : ent m as = ls) (hm' : mle M M') (hX : RunX m 0 ls [] M (.inl v) M') : CallX m as M (.inl v) M' := by
  intro l Z hl
  have h1 := mle_c hm'
  have h2 := mle_s hm'
  by_cases ht : (ztb m).isEmpty = true
  · refine Met.ofW (cc := zby m) (maxL := zml m) (ret := zrt m) (ws' := gW) (zmk_plain hm) (by unfold wz zcw; rw [if_pos ht]) ?_
    intro p e s mid args below meth c s₁ B hml hP
    obtain ⟨⟨ws, rfl, hs⟩, hH, hE, hB⟩ := hP
    rw [lg_entry_eq]
    have C := Cx_of (Z := Z) hm hl B hml hE hB
    refine hX Z p l e _ s mid _ below meth c _ C s.heap [] 0 0 _ [] (hls ▸ ent_rel hs hk) trivial hH va_S.rf ?_ ?_ (endz C)
    · show 0 + cst M' + 0 ≤ (cst M' + 0 - cst M) + cst M
      omega
    · show 0 + sst M' + 6 * 0 ≤ (sst M' + 6 * 0 - sst M) + sst M
      omega
  · refine va_MetW (cc := zby m) (maxL := zml m) (ret := zrt m) (hh := ztb m) (ws' := gW) (zmk_plain hm) (by unfold wz zcw; rw [if_neg ht]) ?_
    intro p e s mid args below meth c s₁ B hml hP
    obtain ⟨⟨ws, rfl, hs⟩, hH, hE, hB⟩ := hP
    rw [lg_entry_eq]
    have C := Cx_of (Z := Z) hm hl B hml hE hB
    refine hX Z p l e _ s mid _ below meth c _ C s.heap [] 0 0 _ [] (hls ▸ ent_rel hs hk) trivial hH va_S.rf ?_ ?_ (endz C)
    · show 0 + cst M' + 0 ≤ (cst M' + 0 - cst M) + cst M
      omega
    · show 0 + sst M' + 6 * 0 ≤ (sst M' + 6 * 0 - sst M) + sst M
      omega
end
section
/-! a method that throws -/
def znames : List String := ["java/lang/RuntimeException", "java/lang/Exception"]
def zthk (k : Nat) : Bool := (vx_at0 "RepairScan" (zic k) (zex k) znames).all (fun w => decide (w ∈ lw_tbl) && (goodWord w || (zNest w && w.onTables)) && vx_ot w)
theorem zth_0 : zthk 0 = true := by decide +kernel
theorem zth_1 : zthk 1 = true := by decide +kernel
theorem zth_2 : zthk 2 = true := by decide +kernel
theorem zth_3 : zthk 3 = true := by decide +kernel
def zxl : List Nat := [820, 892, 917, 932]
def zxi : List Nat := [80, 81, 88, 89]
def zxk (k : Nat) : Bool := inW (zxl.getD k 0) (.classLink "RepairScan" (zik k) (zex k)) && inW (zxi.getD k 0) (.initialized (zex k)) && Bundle.fit (zex k) && vx_ot (.classLink "RepairScan" (zik k) (zex k)) && vx_ot (.initialized (zex k))
theorem zxkA : ∀ k, k < 4 → zxk k = true := by decide +kernel
theorem zth_at {k : Nat} (hk : k < 4) : zthk k = true := by
  rcases (show k = 0 ∨ k = 1 ∨ k = 2 ∨ k = 3 by omega) with rfl | rfl | rfl | rfl
  · exact zth_0
  · exact zth_1
  · exact zth_2
  · exact zth_3
theorem HRel_x {Z : EP} {M : MH} {H H2 : Heap} (h : HRel Z M H) (hz : H.size ≤ H2.size) (ho : ∀ q : Nat, q < H.size → H2[q]? = H[q]?) : HRel Z (xN M) H2 := by
  obtain ⟨h1, h2, h3, h4, h5, h6⟩ := h
  refine ⟨fun e => absurd e (Nat.succ_ne_zero _), Nat.le_trans h2 hz, fun a ha => ?_, h4, h5, h6⟩
  have ha : a < M.2.2.1 := ha
  exact celR_same (h3 a ha) (fun _ => rfl) (fun _ => rfl) (Nat.le_refl _) (ho _ (by omega))
theorem endx {m : Nat} {Z : EP} {p : Program} {l : Launch} {e : Env} {R : Room} {s : State} {mid : MethodId} {args : Array Value} {below : List Frame} {meth : Method} {c : Code} {k : Nat} {M' : MH} (C : Cx m Z p l e R s mid args below meth c) : EndW m Z p l e R s mid args below meth c (vx_MQ below (fun _ _ _ _ => False) (Xz Z k M') args s R.cells R.slots (zA Z)) (.inr k) M' := by
  intro H locs cells slots pc lr sr st he hs hlr hH hS b1 b2 b3
  obtain ⟨b4, b5⟩ := b3 ⟨k, rfl⟩
  obtain ⟨rfl, hk, hcl, hdp, htb, a, d, z, tb, rfl, rfl, hc, ⟨i3, h3, e3⟩, ⟨b', c', z', tb', h4⟩, ⟨i7, h7, e7⟩⟩ := he
  rw [srel_nil hs]
  obtain ⟨hx, hb, hml, hown, hts, hr, hlocks, hini, htab, hfr, hlo, hl, hE, hB⟩ := C
  rw [hcl] at hown
  have hkk := zxkA k hk
  unfold zxk at hkk
  simp only [Bool.and_eq_true] at hkk
  have hth := List.all_eq_true.mp (zth_at hk)
  have d3 : decode (zby m) (pc + 3) = .ok (.dup, 1) := by
    obtain ⟨o, r⟩ := i3
    cases e3
    exact (zdc h3).1
  have d7 : decode (zby m) (pc + 7) = .ok (.athrow, 1) := by
    obtain ⟨o, r⟩ := i7
    cases e7
    exact (zdc h7).1
  have htl : c.exceptionTable.toList = [] := by
    rw [htb] at htab
    exact List.map_eq_nil_iff.mp htab
  refine vx_throw0 (names := znames) (A := zA Z) hx hb hl hown hkk.1.1.2 (fun n hn => ?_) (hts _ (inW_ok hkk.1.1.1.1)) (hts _ (inW_ok hkk.1.1.1.2)) (fun w hw => ?_) (fun w hw => ?_) hE.2.2.2.2.1 hE.2.2.2.2.2.1 hS (hlr.trans hml.symm) ((zdc hc).1 : decode (zby m) pc = .ok (.new (zik k), 3)) d3 ((zdc h4).1 : decode (zby m) (pc + 4) = .ok (.invokespecial (zic k), 3)) d7 (fun x hx9 => by rw [htl] at hx9; cases hx9) ?_ ?_ b4 b5 hlocks (fun t ha hz ho => ⟨rfl, HRel_x hH hz ho, Nat.le_trans hS.1 hz, fun q q1 q2 => by rw [ho q (Nat.lt_of_lt_of_le q1 hS.1)]; exact hS.2.1 q q1 q2⟩) hS.2.2 b4 b5
  · have h9 : znames.all Bundle.fit = true := by decide +kernel
    exact List.all_eq_true.mp h9 n hn
  · have h9 := hth w hw
    simp only [Bool.and_eq_true, Bool.or_eq_true, decide_eq_true_eq] at h9
    rcases h9.1.2 with q | ⟨q1, q2⟩
    · exact hts w (List.mem_filter.mpr ⟨h9.1.1, q⟩)
    · exact va_Nw.use q2 (hE.2.2.2.2.2.2.1 w (List.mem_filter.mpr ⟨h9.1.1, q1⟩))
  · rcases List.mem_cons.mp hw with rfl | hw
    · exact hkk.1.2
    · rcases List.mem_cons.mp hw with rfl | hw
      · exact hkk.2
      · have h9 := hth w hw
        simp only [Bool.and_eq_true] at h9
        exact h9.2
  · show 2 + 3 < R.frames
    omega
  · show 0 + (13 * (2 + 1) + 42) ≤ R.locals
    omega
theorem CallX_thr {m : Nat} {as ls : List MV} {M M' : MH} {k : Nat} (hm : m < 147) (ht : (ztb m).isEmpty = true) (hk : (lay as).length ≤ zml m) (hls : ent m as = ls) (hm' : mle M M') (hX : RunX m 0 ls [] M (.inr k) M') : CallX m as M (.inr k) M' := by
  intro l Z hl
  have h1 := mle_c hm'
  have h2 := mle_s hm'
  refine vx_ofW (cc := zby m) (maxL := zml m) (ret := zrt m) (ws' := gW) (zmk_plain hm) (by unfold wz zcw; rw [if_pos ht]) ?_
  intro p e s mid args below meth c s₁ B hml _ hP
  obtain ⟨⟨ws, rfl, hs⟩, hH, hE, hB⟩ := hP
  rw [lg_entry_eq]
  have C := Cx_of (Z := Z) hm hl B hml hE hB
  refine hX Z p l e _ s mid _ below meth c _ C s.heap [] 0 0 _ [] (hls ▸ ent_rel hs hk) trivial hH va_S.rf ?_ ?_ (endx C)
  · show 0 + cst M' + 1 ≤ (cst M' + 1 - cst M) + cst M
    omega
  · show 0 + sst M' + 6 * 1 ≤ (sst M' + 6 * 1 - sst M) + sst M
    omega
/-- a call, out of a run of its body -/
theorem Call_run {m : Nat} {as ls : List MV} {M : MH} {Q : Res → MH → Prop} (hk : ckM m as = true) (hls : ent m as = ls) (h : Run m 0 ls [] M Q) : Call m as M Q := by
  unfold ckM at hk
  simp only [Bool.and_eq_true, Nat.blt_eq] at hk
  obtain ⟨r, M', hQ, hm', hX⟩ := h
  refine ⟨r, M', hQ, hm', ?_⟩
  cases r with
  | inl v => exact CallX_ret hk.1.1 (Nat.le_of_ble_eq_true hk.2) hls hm' hX
  | inr k => exact CallX_thr hk.1.1 hk.1.2 (Nat.le_of_ble_eq_true hk.2) hls hm' hX
/-- of a method with a table of its own: it returns -/
theorem Call_runT {m : Nat} {as ls : List MV} {M : MH} {Q : Res → MH → Prop} (hm : m < 147) (hk : (lay as).length ≤ zml m) (hls : ent m as = ls) (h : Run m 0 ls [] M (fun r M' => (∃ v, r = .inl v) ∧ Q r M')) : Call m as M Q := by
  obtain ⟨r, M', ⟨⟨v, rfl⟩, hQ⟩, hm', hX⟩ := h
  exact ⟨_, M', hQ, hm', CallX_ret hm hk hls hm' hX⟩
end
section
/-! calls -/
def zciL : List Nat := [0, 0, 0, 1, 1, 1, 1, 1, 2, 2, 3, 3, 3, 3, 3, 3, 4, 4, 4, 4, 4, 4, 4, 5, 5, 5, 5, 5, 5, 5, 5, 5, 5, 5, 5, 5, 5, 5, 5, 5, 5, 5, 6, 6, 6, 6, 6, 6, 6, 6, 6, 6, 6, 6, 6, 6, 6, 6, 6, 7, 7, 7, 7, 7, 7, 7, 7, 7, 7, 8, 8, 8, 8, 8, 8, 8, 8, 8, 8, 8, 8, 8, 8, 8, 8, 9, 9, 9, 9, 9, 9, 9, 9, 9, 9, 9, 9, 9, 9, 9, 9, 9, 9, 9, 9, 9, 9, 9, 9, 9, 9, 9, 9, 9, 9, 9, 9, 9, 9, 9, 9, 9, 9, 9, 9, 9, 9, 9, 9, 9, 9, 9, 9, 9, 9, 9, 9, 99, 99, 99, 99, 99, 99, 99, 99, 99, 99, 99]
def zci (m : Nat) : Nat := zciL.getD m 99
theorem zciA : (List.range 147).all (fun m => zst m || (decide (zcn (zci m) = (zyn m).cls) && decide (zci m < 10))) = true := by decide +kernel
def zdk (m : Nat) (q : Nat × MI) : Bool := if 72 ≤ q.2.1 ∧ q.2.1 ≤ 76 then decide (zdp q.2.2.2.1 < zdp m) else if q.2.1 = 78 then decide (2 ≤ zdp m) else if q.2.1 = 79 then decide (4 ≤ zdp m) else if 77 ≤ q.2.1 ∧ q.2.1 ≤ 82 then decide (1 ≤ zdp m) else true
theorem zdkA : (List.range 148).all (fun m => (zcode m).all (zdk m)) = true := by decide +kernel
theorem zdk_at {m pc : Nat} {i : MI} (h : cod m pc = some i) : zdk m (pc, i) = true :=
  List.all_eq_true.mp (List.all_eq_true.mp zdkA m (List.mem_range.mpr (zdc h).2.2.2)) _ (zlk h)
def vcs (st : List MV) : Nat := match st with
  | [] => 0
  | v :: vs => (if isLg (some v) then 2 else 1) + vcs vs
theorem vcs_ok {Z : EP} {top : Nat} : ∀ {st : List MV} {sr : List Value}, srel Z top st sr → (sr.map fun v => v.category).sum = vcs st
  | [], [], _ => rfl
  | [], _ :: _, h => h.elim
  | _ :: _, [], h => h.elim
  | v :: vs, w :: ws, h => by
    have ih := vcs_ok h.2
    show w.category + (ws.map fun v => v.category).sum = _ + vcs vs
    rw [ih]
    by_cases c : isLg (some v) = true
    · rw [if_pos c, vlong h.1 c]
    · rw [if_neg c, vcat h.1 (by simpa using c)]
theorem srel_app {Z : EP} {top : Nat} : ∀ {a b : List MV} {sr : List Value}, srel Z top (a ++ b) sr → ∃ x y, sr = x ++ y ∧ srel Z top a x ∧ srel Z top b y
  | [], b, sr, h => ⟨[], sr, rfl, trivial, h⟩
  | v :: a, b, sr, h => by
    obtain ⟨w, ws, rfl, h1, h2⟩ := srel_cons h
    obtain ⟨x, y, rfl, h3, h4⟩ := srel_app h2
    exact ⟨w :: x, y, rfl, ⟨h1, h3⟩, h4⟩
theorem srel_cat {Z : EP} {top : Nat} : ∀ {a b : List MV} {x y : List Value}, srel Z top a x → srel Z top b y → srel Z top (a ++ b) (x ++ y)
  | [], _, [], _, _, h => h
  | [], _, _ :: _, _, h, _ => h.elim
  | _ :: _, _, [], _, h, _ => h.elim
  | _ :: a, b, _ :: x, y, h, h2 => ⟨h.1, srel_cat h.2 h2⟩
theorem srel_rev {Z : EP} {top : Nat} : ∀ {a : List MV} {x : List Value}, srel Z top a x → srel Z top a.reverse x.reverse
  | [], [], _ => trivial
  | [], _ :: _, h => h.elim
  | _ :: _, [], h => h.elim
  | v :: a, w :: x, h => by
    rw [List.reverse_cons, List.reverse_cons]
    exact srel_cat (srel_rev h.2) ⟨h.1, trivial⟩
theorem srel_len {Z : EP} {top : Nat} : ∀ {a : List MV} {x : List Value}, srel Z top a x → a.length = x.length
  | [], [], _ => rfl
  | [], _ :: _, h => h.elim
  | _ :: _, [], h => h.elim
  | _ :: _, _ :: _, h => congrArg (· + 1) (srel_len h.2)
/-- a callee's words -/
theorem wz_in {b : Nat} (hb : b < 147) : GoodIn gW (wz b) := by
  intro w hw
  rcases List.mem_cons.mp hw with rfl | hw
  · exact ⟨zcwG b hb, good_of_word (List.mem_filter.mp (zcwG b hb)).2⟩
  · exact ⟨hw, good_of_word (List.mem_filter.mp hw).2⟩
theorem zmk_parts {b : Nat} (hb : b < 147) : (if zst b then Cond.static (zyn b) ∈ gW else Cond.instanceMethod (zyn b) ∈ gW) ∧ (zst b = false → (zyn b).name ≠ "<init>" → Cond.selects (zyn b).cls (zyn b) (zyn b) ∈ gW) ∧ Cond.initialized (zyn b).cls ∈ gW ∧ ((zyn b).cls ≠ "java/lang/invoke/MethodHandle" ∧ (zyn b).cls ≠ "java/lang/invoke/VarHandle" ∧ (parseMethodDescriptor (zyn b).desc).map (fun d => d.parameters.length) = some (zna b)) ∧ zml b ≤ 14 := by
  have h := zmk_at hb
  unfold zmk at h
  simp only [Bool.and_eq_true, decide_eq_true_eq, Bool.or_eq_true] at h
  obtain ⟨⟨⟨⟨⟨⟨h1, h2⟩, h3⟩, h4⟩, h5⟩, h6⟩, h7⟩ := h
  refine ⟨?_, fun q1 q2 => ?_, inW_ok h3, ⟨h5.1, h5.2, h6⟩, h7⟩
  · by_cases c : zst b = true
    · rw [if_pos c] at h1 ⊢
      exact inW_ok h1
    · rw [if_neg c] at h1 ⊢
      exact inW_ok h1
  · rcases h2 with (q | q) | q
    · rw [q1] at q; cases q
    · exact absurd q q2
    · exact inW_ok q
theorem zroom {m b : Nat} {Z : EP} {p : Program} {l : Launch} {e : Env} {R : Room} {s : State} {mid : MethodId} {args : Array Value} {below : List Frame} {meth : Method} {c : Code} {r : Res} {M M' : MH} (C : Cx m Z p l e R s mid args below meth c) (hb : b < 147) (hd : zdp b < zdp m) : (rmz b r M M').frames + 1 ≤ R.frames ∧ 8 + (zml b + 11) + (rmz b r M M').locals ≤ R.locals := by
  have h1 := (zmk_parts hb).2.2.2.2
  obtain ⟨-, -, -, -, -, -, -, -, -, h2, h3, -⟩ := C
  show zdp b + 1 ≤ R.frames ∧ 8 + (zml b + 11) + 40 * zdp b ≤ R.locals
  omega
theorem zpre {m : Nat} {Z : EP} {p : Program} {l : Launch} {e : Env} {R : Room} {s : State} {mid : MethodId} {args : Array Value} {below : List Frame} {meth : Method} {c : Code} {H : Heap} {locs : List Loc} {as : List MV} {ws : List Value} {M : MH} (C : Cx m Z p l e R s mid args below meth c) (hS : va_S (zA Z) s.heap H locs) (hH : HRel Z M H) (hs : srel Z M.2.2.1 as ws) : ∀ U : State, U.heap = H → s.WarmedH U.vm → Pz Z as M ws.toArray U := by
  intro U hU hW
  refine ⟨⟨ws, rfl, hs⟩, by rw [hU]; exact hH, ?_, by rw [hU]; exact Nat.le_trans C.2.2.2.2.2.2.2.2.2.2.2.2.2 hS.1⟩
  rw [hU]
  exact ((zEv C).kept hS.1 hS.2.1).warm hW
theorem call_go {pc : Nat} {Z : EP} {p : Program} {l : Launch} {e : Env} {R : Room} {s : State} {mid : MethodId} {args : Array Value} {below : List Frame} {meth : Method} {c : Code} {H : Heap} {locs : List Loc} {cells slots mc ms : Nat} {lr : Array Slot} {sr rest : List Value} {Qa : State → Outcome → State → Prop} {Qs : State → Prop} {v : Option MV} {M1 : MH} (hS : va_S (zA Z) s.heap H locs)
    (hrun : va_Run p l e R s mid args below meth c H locs cells slots mc ms (F0 mid pc lr sr) rest Qa (zA Z)) (hQa : ∀ st o t, Qa st o t → Qz Z v M1 #[] st o t)
    (k : ∀ (H' : Heap) (locs' : List Loc) (w : Option Value), orel Z M1.2.2.1 v w → HRel Z M1 H' → va_S (zA Z) s.heap H' locs' → W p l e R s mid args below meth c H' locs' (cells + mc) (slots + ms) Qs (F0 mid (pc + 3) lr (w.toList ++ rest))) : W p l e R s mid args below meth c H locs cells slots Qs (F0 mid pc lr sr) := by
  intro T hT X
  obtain ⟨v', st₀, t, T', L, h0, X', hL, e1, e2, hq, go⟩ := hrun T hT X
  obtain ⟨⟨w, hw, ho⟩, hH', hF⟩ := hQa _ _ _ hq
  have hw : v' = w := Outcome.returned.inj hw
  subst hw
  have hF1 := hF.1
  have hF2 := hF.2
  rw [h0] at hF1 hF2
  obtain ⟨t2, a1, b1⟩ := k t.heap (locs ++ L) v' ho hH' ⟨Nat.le_trans hS.1 hF1, fun q q1 q2 => by rw [hF2 q (Nat.lt_of_lt_of_le q1 hS.1) q2]; exact hS.2.1 q q1 q2, fun x hx => (List.mem_append.mp hx).elim (hS.2.2 x) (hL x)⟩ T' e1 X'
  exact ⟨t2, go t2 a1, b1⟩
theorem orel_st {Z : EP} {top : Nat} {v : Option MV} {w : Option Value} {st : List MV} {sr : List Value} (h : orel Z top v w) (hs : srel Z top st sr) : srel Z top (v.toList ++ st) (w.toList ++ sr) := by
  cases v with
  | none => cases h; exact hs
  | some v => obtain ⟨x, rfl, hx⟩ := h; exact ⟨hx, hs⟩
/-- a call that returns, whatever its kind -/
theorem R_callG {m pc b : Nat} {ls stk rest as : List MV} {M : MH} {Q : Res → MH → Prop}
    (run : ∀ (Z : EP) (p : Program) (l : Launch) (e : Env) (R : Room) (s : State) (mid : MethodId) (args : Array Value) (below : List Frame) (meth : Method) (c : Code) (v : Option MV) (M1 : MH), Cx m Z p l e R s mid args below meth c → Met l (zyn b) (wz b) (rmz b (.inl v) M M1) (Pz Z as M) (Qz Z v M1) (cst M1 + 0 - cst M) (sst M1 + 0 - sst M) (zA Z) →
      ∀ (H : Heap) (locs : List Loc) (cells slots : Nat) (lr : Array Slot) (sr : List Value), lrel Z M.2.2.1 (zml m) ls lr → srel Z M.2.2.1 stk sr → HRel Z M H → va_S (zA Z) s.heap H locs → cells + (cst M1 + 0 - cst M) ≤ R.cells → slots + (sst M1 + 0 - sst M) ≤ R.slots →
        ∃ (rv : List Value) (av : Array Value), srel Z M.2.2.1 rest rv ∧ va_Run p l e R s mid args below meth c H locs cells slots (cst M1 + 0 - cst M) (sst M1 + 0 - sst M) (F0 mid pc lr sr) rv (Qz Z v M1 av) (zA Z))
    (h : Call b as M (fun r M1 => ∃ v, r = .inl v ∧ Run m (pc + 3) ls (v.toList ++ rest) M1 Q)) : Run m pc ls stk M Q := by
  obtain ⟨r, M1, ⟨v, rfl, r', M', hQ, hm2, hY⟩, hm1, hX⟩ := h
  refine ⟨r', M', hQ, mle_trans hm1 hm2, ?_⟩
  have c1 := mle_c hm1
  have c2 := mle_s hm1
  have c3 := mle_c hm2
  have c4 := mle_s hm2
  intro Z p l e R s mid args below meth c Qs C H locs cells slots lr sr hl hs hH hS b1 b2 hE
  have hMet := hX l Z C.2.2.2.2.2.2.2.2.2.2.2.1
  obtain ⟨rv, av, hrv, hrun⟩ := run Z p l e R s mid args below meth c v M1 C hMet H locs cells slots lr sr hl hs hH hS (by omega) (by omega)
  refine call_go hS hrun (fun st o t q => q) fun H' locs' w ho hH' hS' => ?_
  exact hY Z p l e R s mid args below meth c Qs C H' locs' _ _ lr _ (lrel_mono hm1.1 hl) (orel_st ho (srel_mono hm1.1 hrv)) hH' hS' (by omega) (by omega) hE
theorem zcode_if {b : Nat} (h : (ztb b).isEmpty = true) : wz b = Cond.code (zyn b) (zby b) (zml b) (zrt b) :: gW := by
  unfold wz zcw
  rw [if_pos h]
theorem callBz {m b a : Nat} {Z : EP} {p : Program} {l : Launch} {e : Env} {R : Room} {s : State} {mid : MethodId} {args : Array Value} {below : List Frame} {meth : Method} {c : Code} {r : Res} {M M1 : MH} (C : Cx m Z p l e R s mid args below meth c) (hb : b < 147) (ht : (ztb b).isEmpty = true) (hd : zdp b < zdp m) (hl : Cond.methodLink (zyn m).cls a (zyn b) ∈ gW) : CallB R s args (zyn m).cls a (zyn b) (zby b) (zml b) (zrt b) (wz b) (rmz b r M M1) (rmz b r M M1).cells (rmz b r M M1).slots (zna b) :=
  callB_of (zna b) C.2.2.2.2.1 (wz_in hb) (zcode_if ht) rfl rfl (C.2.2.2.2.1 _ (zmk_parts hb).2.2.1) (C.2.2.2.2.1 _ hl) (zmk_parts hb).2.2.2.1 (zroom C hb hd)
theorem R_iv {m pc pc' : Nat} {ls stk rest as : List MV} {M : MH} {Q : Res → MH → Prop} {a b d : Nat} {z : Int} {tb : List (Int × Nat)} {q : Nat} (hc : cod m pc = some (72, a, b, d, z, tb)) (hp : pc + 3 = pc') (ht : (ztb b).isEmpty = true) (hk : K0 q = zci b + 1) (hn : as.length = zna b) (hr : vcs rest ≤ 8) (hst : stk = as.reverse ++ vR (some q) :: rest) (h : Call b (vR (some q) :: as) M (fun r M1 => ∃ v, r = .inl v ∧ Run m pc' ls (v.toList ++ rest) M1 Q)) : Run m pc ls stk M Q := by
  subst hp
  subst hst
  have hd : decode (zby m) pc = .ok (.invokevirtual a, 3) := (zdc hc).1
  have hw := Bool.and_eq_true_iff.mp (show (inW (66 + z.toNat) (.methodLink (zyn m).cls a (zyn b)) && decide (zst b = false ∧ (zyn b).name ≠ "<init>" ∧ b < 147)) = true from (zdc hc).2.1)
  obtain ⟨hs1, hs2, hb⟩ : zst b = false ∧ (zyn b).name ≠ "<init>" ∧ b < 147 := of_decide_eq_true hw.2
  have hdp : zdp b < zdp m := of_decide_eq_true (show decide _ = true from zdk_at hc)
  have hci := List.all_eq_true.mp zciA b (List.mem_range.mpr hb)
  rw [hs1] at hci
  simp only [Bool.false_or, Bool.and_eq_true, decide_eq_true_eq] at hci
  obtain ⟨p1, p2, p3, p4, p5⟩ := zmk_parts hb
  rw [if_neg (by rw [hs1]; decide)] at p1
  refine R_callG (rest := rest) (as := vR (some q) :: as) (fun Z p l e R s mid args below meth c v M1 C hMet H locs cells slots lr sr hl hs hH hS b1 b2 => ?_) h
  obtain ⟨x, y, rfl, hx, hy⟩ := srel_app hs
  obtain ⟨w, rv, rfl, ⟨rfl, g1⟩, hrv⟩ := srel_cons hy
  have hx' := srel_rev hx
  rw [List.reverse_reverse] at hx'
  obtain ⟨⟨cell, q1, q2, q3, -⟩, -⟩ := obj_of hH (g1 q rfl) hk hci.2
  have hcl : s.vm.findClass (zcn (zci b)) = some (Z.2.1.1 (zci b)) := ((zK C).1 _ _ (zcl_at hci.2)).2.1
  refine ⟨rv, _, hrv, va_runV (As := x.reverse) (b := Z.1 + q) (Ts := gW) ⟨C.1, C.2.1, C.2.2.1, C.2.2.2.1, C.2.2.2.2.1⟩ hMet ⟨callBz C hb ht hdp (inW_ok hw.1), C.2.2.2.2.1 _ p1, C.2.2.2.2.1 _ (p2 hs1 hs2)⟩ ⟨blindz, ⟨cell, q1, by rw [q3]; rfl, by rw [← hci.1, hcl, q2]⟩, zpre C hS hH ⟨⟨rfl, g1⟩, hx'⟩⟩ rfl (by rw [← srel_len hx']; exact hn) (hl.1) (by rw [List.reverse_reverse]; rfl) (lv_room (by rw [vcs_ok hrv]; exact hr)) hd ⟨b1, b2⟩⟩
theorem R_is {m pc pc' : Nat} {ls stk rest as : List MV} {M : MH} {Q : Res → MH → Prop} {a b d : Nat} {z : Int} {tb : List (Int × Nat)} {q : Nat} (hc : cod m pc = some (73, a, b, d, z, tb)) (hp : pc + 3 = pc') (ht : (ztb b).isEmpty = true) (hv : zrt b = none) (hn : as.length = zna b) (hr : vcs rest ≤ 8) (hst : stk = as.reverse ++ vR (some q) :: rest) (h : Call b (vR (some q) :: as) M (fun r M1 => ∃ v, r = .inl v ∧ Run m pc' ls (v.toList ++ rest) M1 Q)) : Run m pc ls stk M Q := by
  subst hp
  subst hst
  have hd : decode (zby m) pc = .ok (.invokespecial a, 3) := (zdc hc).1
  have hw := Bool.and_eq_true_iff.mp (show (inW (66 + z.toNat) (.methodLink (zyn m).cls a (zyn b)) && decide (zst b = false ∧ (zyn b).name = "<init>" ∧ b < 147)) = true from (zdc hc).2.1)
  obtain ⟨hs1, hs2, hb⟩ : zst b = false ∧ (zyn b).name = "<init>" ∧ b < 147 := of_decide_eq_true hw.2
  have hdp : zdp b < zdp m := of_decide_eq_true (show decide _ = true from zdk_at hc)
  obtain ⟨p1, p2, p3, p4, p5⟩ := zmk_parts hb
  rw [if_neg (by rw [hs1]; decide)] at p1
  refine R_callG (rest := rest) (as := vR (some q) :: as) (fun Z p l e R s mid args below meth c v M1 C hMet H locs cells slots lr sr hl hs hH hS b1 b2 => ?_) h
  obtain ⟨x, y, rfl, hx, hy⟩ := srel_app hs
  obtain ⟨w, rv, rfl, ⟨rfl, g1⟩, hrv⟩ := srel_cons hy
  have hx' := srel_rev hx
  rw [List.reverse_reverse] at hx'
  have hB := callBz (r := .inl v) (M := M) (M1 := M1) C hb ht hdp (inW_ok hw.1)
  rw [hv] at hB
  refine ⟨rv, _, hrv, va_runI (As := x.reverse) (b := Z.1 + q) (Ts := gW) ⟨C.1, C.2.1, C.2.2.1, C.2.2.2.1, C.2.2.2.2.1⟩ hMet ⟨hB, hs2, C.2.2.2.2.1 _ p1⟩ ⟨blindz, zpre C hS hH ⟨⟨rfl, g1⟩, hx'⟩⟩ rfl (by rw [← srel_len hx']; exact hn) (hl.1) (by rw [List.reverse_reverse]; rfl) (lv_room (by rw [vcs_ok hrv]; exact hr)) hd ⟨b1, b2⟩⟩
theorem callNz {m b a : Nat} {Z : EP} {p : Program} {l : Launch} {e : Env} {R : Room} {s : State} {mid : MethodId} {args : Array Value} {below : List Frame} {meth : Method} {c : Code} {r : Res} {M M1 : MH} (C : Cx m Z p l e R s mid args below meth c) (hb : b < 147) (ht : (ztb b).isEmpty = true) (hd : zdp b < zdp m) (hl : Cond.methodLinkNest (zyn m).cls a (zyn b) "RepairScan" ∈ nW) : va_CN R s args (zyn m).cls a (zyn b) "RepairScan" (zby b) (zml b) (zrt b) (wz b) (rmz b r M M1) (rmz b r M M1).cells (rmz b r M M1).slots (zna b) :=
  va_cnB (zna b) C.2.2.2.2.1 (wz_in hb) (zcode_if ht) rfl rfl ((zEv C).2.2.2.2.2.2.1 _ hl) (C.2.2.2.2.1 _ (zmk_parts hb).2.2.1) (zmk_parts hb).2.2.2.1 (zroom C hb hd)
theorem R_isN {m pc pc' : Nat} {ls stk rest as : List MV} {M : MH} {Q : Res → MH → Prop} {a b d : Nat} {z : Int} {tb : List (Int × Nat)} {q : Nat} (hc : cod m pc = some (74, a, b, d, z, tb)) (hp : pc + 3 = pc') (ht : (ztb b).isEmpty = true) (hv : zrt b = none) (hn : as.length = zna b) (hr : vcs rest ≤ 8) (hst : stk = as.reverse ++ vR (some q) :: rest) (h : Call b (vR (some q) :: as) M (fun r M1 => ∃ v, r = .inl v ∧ Run m pc' ls (v.toList ++ rest) M1 Q)) : Run m pc ls stk M Q := by
  subst hp
  subst hst
  have hd : decode (zby m) pc = .ok (.invokespecial a, 3) := (zdc hc).1
  have hw := Bool.and_eq_true_iff.mp (show (inN (66 + z.toNat) (.methodLinkNest (zyn m).cls a (zyn b) "RepairScan") && decide (zst b = false ∧ (zyn b).name = "<init>" ∧ b < 147)) = true from (zdc hc).2.1)
  obtain ⟨hs1, hs2, hb⟩ : zst b = false ∧ (zyn b).name = "<init>" ∧ b < 147 := of_decide_eq_true hw.2
  have hdp : zdp b < zdp m := of_decide_eq_true (show decide _ = true from zdk_at hc)
  obtain ⟨p1, p2, p3, p4, p5⟩ := zmk_parts hb
  rw [if_neg (by rw [hs1]; decide)] at p1
  refine R_callG (rest := rest) (as := vR (some q) :: as) (fun Z p l e R s mid args below meth c v M1 C hMet H locs cells slots lr sr hl hs hH hS b1 b2 => ?_) h
  obtain ⟨x, y, rfl, hx, hy⟩ := srel_app hs
  obtain ⟨w, rv, rfl, ⟨rfl, g1⟩, hrv⟩ := srel_cons hy
  have hx' := srel_rev hx
  rw [List.reverse_reverse] at hx'
  have hB := callNz (r := .inl v) (M := M) (M1 := M1) C hb ht hdp (inN_ok hw.1)
  rw [hv] at hB
  refine ⟨rv, _, hrv, va_runIN (As := x.reverse) (b := Z.1 + q) (Ts := gW) ⟨C.1, C.2.1, C.2.2.1, C.2.2.2.1, C.2.2.2.2.1⟩ hMet ⟨hB, hs2, C.2.2.2.2.1 _ p1⟩ ⟨blindz, zpre C hS hH ⟨⟨rfl, g1⟩, hx'⟩⟩ rfl (by rw [← srel_len hx']; exact hn) (hl.1) (by rw [List.reverse_reverse]; rfl) (lv_room (by rw [vcs_ok hrv]; exact hr)) hd ⟨b1, b2⟩⟩
theorem R_st {m pc pc' : Nat} {ls stk rest as : List MV} {M : MH} {Q : Res → MH → Prop} {a b d : Nat} {z : Int} {tb : List (Int × Nat)} (hc : cod m pc = some (75, a, b, d, z, tb)) (hp : pc + 3 = pc') (hn : as.length = zna b) (hr : vcs rest ≤ 8) (hst : stk = as.reverse ++ rest) (h : Call b as M (fun r M1 => ∃ v, r = .inl v ∧ Run m pc' ls (v.toList ++ rest) M1 Q)) : Run m pc ls stk M Q := by
  subst hp
  subst hst
  have hd : decode (zby m) pc = .ok (.invokestatic a, 3) := (zdc hc).1
  have hw := Bool.and_eq_true_iff.mp (show (inW (66 + z.toNat) (.methodLink (zyn m).cls a (zyn b)) && decide (zst b = true ∧ b < 147)) = true from (zdc hc).2.1)
  obtain ⟨hs1, hb⟩ : zst b = true ∧ b < 147 := of_decide_eq_true hw.2
  have hdp : zdp b < zdp m := of_decide_eq_true (show decide _ = true from zdk_at hc)
  obtain ⟨p1, p2, p3, p4, p5⟩ := zmk_parts hb
  rw [if_pos hs1] at p1
  refine R_callG (rest := rest) (as := as) (fun Z p l e R s mid args below meth c v M1 C hMet H locs cells slots lr sr hl hs hH hS b1 b2 => ?_) h
  obtain ⟨x, rv, rfl, hx, hrv⟩ := srel_app hs
  have hx' := srel_rev hx
  rw [List.reverse_reverse] at hx'
  by_cases ht : (ztb b).isEmpty = true
  · exact ⟨rv, _, hrv, va_runS (As := x.reverse) (Ts := gW) ⟨C.1, C.2.1, C.2.2.1, C.2.2.2.1, C.2.2.2.2.1⟩ hMet ⟨callBz C hb ht hdp (inW_ok hw.1), C.2.2.2.2.1 _ p1⟩ ⟨blindz, zpre C hS hH hx'⟩ rfl (by rw [← srel_len hx']; exact hn) (hl.1) (by rw [List.reverse_reverse]) (lv_room (by rw [vcs_ok hrv]; exact hr)) hd ⟨b1, b2⟩⟩
  · have hcw : wz b = Cond.codeWith (zyn b) (zby b) (zml b) (zrt b) (ztb b) :: gW := by unfold wz zcw; rw [if_neg ht]
    have hin : Cond.codeWith (zyn b) (zby b) (zml b) (zrt b) (ztb b) ∈ wz b := by rw [hcw]; exact List.mem_cons_self
    have hR := zroom (r := .inl v) (M := M) (M' := M1) C hb hdp
    refine ⟨rv, _, hrv, vx_runSW (hh := ztb b) (n := zna b) (As := x.reverse) (Ts := gW) ⟨C.1, C.2.1, C.2.2.1, C.2.2.2.1, C.2.2.2.2.1⟩ hMet ⟨⟨rfl, rfl, hR.1, hR.2, pay_in C.2.2.2.2.1 (wz_in hb), hin⟩, C.2.2.2.2.1 _ ((wz_in hb) _ hin).1, C.2.2.2.2.1 _ p3, ⟨p4.1, p4.2.1⟩, fun sig h9 => ?_, C.2.2.2.2.1 _ (inW_ok hw.1), C.2.2.2.2.1 _ p1⟩ ⟨blindz, zpre C hS hH hx'⟩ rfl (by rw [← srel_len hx']; exact hn) (hl.1) (by rw [List.reverse_reverse]) (lv_room (by rw [vcs_ok hrv]; exact hr)) hd ⟨b1, b2⟩⟩
    have h2 := p4.2.2
    rw [h9] at h2
    exact (Option.some.inj h2).symm
theorem R_stN {m pc pc' : Nat} {ls stk rest as : List MV} {M : MH} {Q : Res → MH → Prop} {a b d : Nat} {z : Int} {tb : List (Int × Nat)} (hc : cod m pc = some (76, a, b, d, z, tb)) (hp : pc + 3 = pc') (ht : (ztb b).isEmpty = true) (hn : as.length = zna b) (hr : vcs rest ≤ 8) (hst : stk = as.reverse ++ rest) (h : Call b as M (fun r M1 => ∃ v, r = .inl v ∧ Run m pc' ls (v.toList ++ rest) M1 Q)) : Run m pc ls stk M Q := by
  subst hp
  subst hst
  have hd : decode (zby m) pc = .ok (.invokestatic a, 3) := (zdc hc).1
  have hw := Bool.and_eq_true_iff.mp (show (inN (66 + z.toNat) (.methodLinkNest (zyn m).cls a (zyn b) "RepairScan") && decide (zst b = true ∧ b < 147)) = true from (zdc hc).2.1)
  obtain ⟨hs1, hb⟩ : zst b = true ∧ b < 147 := of_decide_eq_true hw.2
  have hdp : zdp b < zdp m := of_decide_eq_true (show decide _ = true from zdk_at hc)
  obtain ⟨p1, p2, p3, p4, p5⟩ := zmk_parts hb
  rw [if_pos hs1] at p1
  refine R_callG (rest := rest) (as := as) (fun Z p l e R s mid args below meth c v M1 C hMet H locs cells slots lr sr hl hs hH hS b1 b2 => ?_) h
  obtain ⟨x, rv, rfl, hx, hrv⟩ := srel_app hs
  have hx' := srel_rev hx
  rw [List.reverse_reverse] at hx'
  exact ⟨rv, _, hrv, va_runSN (As := x.reverse) (Ts := gW) ⟨C.1, C.2.1, C.2.2.1, C.2.2.2.1, C.2.2.2.2.1⟩ hMet ⟨callNz C hb ht hdp (inN_ok hw.1), C.2.2.2.2.1 _ p1, trivial⟩ ⟨blindz, zpre C hS hH hx'⟩ rfl (by rw [← srel_len hx']; exact hn) (hl.1) (by rw [List.reverse_reverse]) (lv_room (by rw [vcs_ok hrv]; exact hr)) hd ⟨b1, b2⟩⟩
theorem zfr {m : Nat} {Z : EP} {p : Program} {l : Launch} {e : Env} {R : Room} {s : State} {mid : MethodId} {args : Array Value} {below : List Frame} {meth : Method} {c : Code} (C : Cx m Z p l e R s mid args below meth c) : zdp m ≤ R.frames ∧ 40 * zdp m ≤ R.locals := ⟨C.2.2.2.2.2.2.2.2.2.1, C.2.2.2.2.2.2.2.2.2.2.1⟩
theorem R_objinit {m pc pc' : Nat} {ls st : List MV} {M : MH} {Q : Res → MH → Prop} {a b d : Nat} {z : Int} {tb : List (Int × Nat)} {q : Nat} (hc : cod m pc = some (77, a, b, d, z, tb)) (hp : pc + 3 = pc') (hr : vcs st ≤ 8) (h : Run m pc' ls st M Q) : Run m pc ls (vR (some q) :: st) M Q := by
  subst hp
  have hd : decode (zby m) pc = .ok (.invokespecial a, 3) := (zdc hc).1
  have hw : inW (66 + z.toNat) (.methodLink (zyn m).cls a objectInit) = true := (zdc hc).2.1
  have hdp : 1 ≤ zdp m := of_decide_eq_true (show decide _ = true from zdk_at hc)
  refine R_pure (fun Z p l e R s mid args below meth cc Qs C H locs cells slots lr sr hl hs hH hS b1 b2 k => ?_) h
  obtain ⟨w1, ws1, rfl, ⟨rfl, g1⟩, hs1⟩ := srel_cons hs
  have hfr := zfr C
  refine W.objInit C.1 C.2.1 C.2.2.2.1 (C.2.2.2.2.1 _ (inW_ok hw)) (C.2.2.2.2.1 _ zw_oi1) (C.2.2.2.2.1 _ zw_oi2) rfl (hl.1.trans C.2.2.1.symm) rfl hd (by omega) ?_ (k lr _ hl hs1)
  have h9 := lv_room (m := mid) (pc := pc) (ls := lr) (rest := ws1) (st := ws1) (by rw [vcs_ok hs1]; exact hr)
  show 2 * (F0 mid pc lr ws1).monitorRoom + (ws1.map fun v => v.category).sum + 12 ≤ R.locals
  omega
theorem mx32 {x y : Int} (hx : r32 x) (hy : r32 y) : (if Int32.ofInt x < Int32.ofInt y then Int32.ofInt y else Int32.ofInt x) = Int32.ofInt (max x y) := by
  by_cases c : x < y
  · rw [if_pos ((i32lt hx hy).mpr c), Int.max_eq_right (by omega)]
  · rw [if_neg (fun q => c ((i32lt hx hy).mp q)), Int.max_eq_left (by omega)]
theorem R_max {m pc pc' : Nat} {ls st : List MV} {M : MH} {Q : Res → MH → Prop} {a b d : Nat} {z : Int} {tb : List (Int × Nat)} {x y : Int} (hc : cod m pc = some (80, a, b, d, z, tb)) (hp : pc + 3 = pc') (hr : vcs st ≤ 8) (h : Run m pc' ls (vI (max x y) :: st) M Q) : Run m pc ls (vI y :: vI x :: st) M Q := by
  subst hp
  have hd : decode (zby m) pc = .ok (.invokestatic a, 3) := (zdc hc).1
  have hw : inW (66 + z.toNat) (.methodLink (zyn m).cls a Lib.Math.max.name) = true := (zdc hc).2.1
  have hdp : 1 ≤ zdp m := of_decide_eq_true (show decide _ = true from zdk_at hc)
  refine R_pure (fun Z p l e R s mid args below meth cc Qs C H locs cells slots lr sr hl hs hH hS b1 b2 k => ?_) h
  obtain ⟨w1, ws1, rfl, ⟨rfl, g1⟩, hs1⟩ := srel_cons hs
  obtain ⟨w2, ws2, rfl, ⟨rfl, g2⟩, hs2⟩ := srel_cons hs1
  have hfr := zfr C
  refine va_mmax C.1 C.2.1 (C.2.2.1.trans hl.1.symm) C.2.2.2.1 (C.2.2.2.2.1 _ (inW_ok hw)) (C.2.2.2.2.1 _ zw_max1) (C.2.2.2.2.1 _ zw_math) (C.2.2.2.2.1 _ zw_max2) (by omega) (by rw [vcs_ok hs2]; omega) b1 b2 hd ?_
  exact k lr _ hl ⟨⟨by rw [mx32 g2 g1], by obtain ⟨q1, q2⟩ := g1; obtain ⟨q3, q4⟩ := g2; constructor <;> omega⟩, hs2⟩
theorem mn32 {x y : Int} (hx : r32 x) (hy : r32 y) : (if Int32.ofInt y < Int32.ofInt x then Int32.ofInt y else Int32.ofInt x) = Int32.ofInt (min x y) := by
  by_cases c : y < x
  · rw [if_pos ((i32lt hy hx).mpr c), Int.min_eq_right (by omega)]
  · rw [if_neg (fun q => c ((i32lt hy hx).mp q)), Int.min_eq_left (by omega)]
theorem R_min {m pc pc' : Nat} {ls st : List MV} {M : MH} {Q : Res → MH → Prop} {a b d : Nat} {z : Int} {tb : List (Int × Nat)} {x y : Int} (hc : cod m pc = some (81, a, b, d, z, tb)) (hp : pc + 3 = pc') (hr : vcs st ≤ 8) (h : Run m pc' ls (vI (min x y) :: st) M Q) : Run m pc ls (vI y :: vI x :: st) M Q := by
  subst hp
  have hd : decode (zby m) pc = .ok (.invokestatic a, 3) := (zdc hc).1
  have hw : inW (66 + z.toNat) (.methodLink (zyn m).cls a Lib.Math.min.name) = true := (zdc hc).2.1
  have hdp : 1 ≤ zdp m := of_decide_eq_true (show decide _ = true from zdk_at hc)
  refine R_pure (fun Z p l e R s mid args below meth cc Qs C H locs cells slots lr sr hl hs hH hS b1 b2 k => ?_) h
  obtain ⟨w1, ws1, rfl, ⟨rfl, g1⟩, hs1⟩ := srel_cons hs
  obtain ⟨w2, ws2, rfl, ⟨rfl, g2⟩, hs2⟩ := srel_cons hs1
  have hfr := zfr C
  refine va_mmin C.1 C.2.1 (C.2.2.1.trans hl.1.symm) C.2.2.2.1 (C.2.2.2.2.1 _ (inW_ok hw)) (C.2.2.2.2.1 _ zw_min1) (C.2.2.2.2.1 _ zw_math) (C.2.2.2.2.1 _ zw_min2) (by omega) (by rw [vcs_ok hs2]; omega) b1 b2 hd ?_
  exact k lr _ hl ⟨⟨by rw [mn32 g2 g1], by obtain ⟨q1, q2⟩ := g1; obtain ⟨q3, q4⟩ := g2; constructor <;> omega⟩, hs2⟩
end
section
/-! texts: the JDK's own length and charAt over the constants -/
def y_len : MethodName := ⟨"java/lang/String", "length", "()I"⟩
def y_chr : MethodName := ⟨"java/lang/String", "charAt", "(I)C"⟩
def y_cod : MethodName := ⟨"java/lang/String", "coder", "()B"⟩
def y_lat : MethodName := ⟨"java/lang/String", "isLatin1", "()Z"⟩
def y_l1c : MethodName := ⟨"java/lang/StringLatin1", "charAt", "([BI)C"⟩
def y_sck : MethodName := ⟨"java/lang/String", "checkIndex", "(II)V"⟩
def y_pck : MethodName := ⟨"jdk/internal/util/Preconditions", "checkIndex", "(IILjava/util/function/BiFunction;)I"⟩
theorem jW {i : Nat} {w : Cond} (h : lw_tbl[i]? = some w) (hg : goodWord w = true) : w ∈ gW := List.mem_filter.mpr ⟨List.mem_of_getElem? h, hg⟩
def jw (y : MethodName) (bytes : ByteArray) (n : Nat) (r : Option FieldType) : List Cond := .code y bytes n r :: gW
theorem jw_in {y : MethodName} {bytes : ByteArray} {n : Nat} {r : Option FieldType} (h : Cond.code y bytes n r ∈ gW) : GoodIn gW (jw y bytes n r) := by
  intro w hw
  rcases List.mem_cons.mp hw with rfl | hw
  · exact ⟨h, good_of_word (List.mem_filter.mp h).2⟩
  · exact ⟨hw, good_of_word (List.mem_filter.mp hw).2⟩
set_option maxRecDepth 50000 in
theorem jc_len : Cond.code y_len prog_20_method_54_code 1 (some .int) ∈ gW := jW (i := 475) rfl rfl
set_option maxRecDepth 50000 in
theorem jc_chr : Cond.code y_chr prog_20_method_56_code 2 (some .char) ∈ gW := jW (i := 485) rfl rfl
set_option maxRecDepth 50000 in
theorem jc_cod : Cond.code y_cod prog_20_method_152_code 1 (some .byte) ∈ gW := jW (i := 479) rfl rfl
set_option maxRecDepth 50000 in
theorem jc_lat : Cond.code y_lat prog_20_method_154_code 1 (some .boolean) ∈ gW := jW (i := 489) rfl rfl
set_option maxRecDepth 50000 in
theorem jc_l1c : Cond.code y_l1c prog_21_method_2_code 2 (some .char) ∈ gW := jW (i := 492) rfl rfl
set_option maxRecDepth 50000 in
theorem jc_sck : Cond.code y_sck prog_20_method_155_code 2 none ∈ gW := jW (i := 495) rfl rfl
set_option maxRecDepth 50000 in
theorem jc_pck : Cond.code y_pck prog_29_method_11_code 3 (some .int) ∈ gW := jW (i := 500) rfl rfl
theorem ji_len : Cond.instanceMethod y_len ∈ gW := inW_ok (i := 473) (by decide +kernel)
theorem js_len : Cond.selects "java/lang/String" y_len y_len ∈ gW := inW_ok (i := 474) (by decide +kernel)
theorem ji_chr : Cond.instanceMethod y_chr ∈ gW := inW_ok (i := 483) (by decide +kernel)
theorem js_chr : Cond.selects "java/lang/String" y_chr y_chr ∈ gW := inW_ok (i := 484) (by decide +kernel)
theorem ji_cod : Cond.instanceMethod y_cod ∈ gW := inW_ok (i := 477) (by decide +kernel)
theorem js_cod : Cond.selects "java/lang/String" y_cod y_cod ∈ gW := inW_ok (i := 478) (by decide +kernel)
theorem ji_lat : Cond.instanceMethod y_lat ∈ gW := inW_ok (i := 487) (by decide +kernel)
theorem js_lat : Cond.selects "java/lang/String" y_lat y_lat ∈ gW := inW_ok (i := 488) (by decide +kernel)
theorem js_l1c : Cond.static y_l1c ∈ gW := inW_ok (i := 491) (by decide +kernel)
theorem js_sck : Cond.static y_sck ∈ gW := inW_ok (i := 494) (by decide +kernel)
theorem js_pck : Cond.static y_pck ∈ gW := inW_ok (i := 499) (by decide +kernel)
theorem jn_S : Cond.initialized "java/lang/String" ∈ gW := inW_ok (i := 84) (by decide +kernel)
theorem jn_1 : Cond.initialized "java/lang/StringLatin1" ∈ gW := inW_ok (i := 85) (by decide +kernel)
theorem jn_P : Cond.initialized "jdk/internal/util/Preconditions" ∈ gW := inW_ok (i := 86) (by decide +kernel)
theorem jl_cod : Cond.methodLink "java/lang/String" 335 y_cod ∈ gW := inW_ok (i := 476) (by decide +kernel)
theorem jl_lat : Cond.methodLink "java/lang/String" 492 y_lat ∈ gW := inW_ok (i := 486) (by decide +kernel)
theorem jl_l1c : Cond.methodLink "java/lang/String" 495 y_l1c ∈ gW := inW_ok (i := 490) (by decide +kernel)
theorem jl_sck : Cond.methodLink "java/lang/StringLatin1" 9 y_sck ∈ gW := inW_ok (i := 493) (by decide +kernel)
theorem jl_pck : Cond.methodLink "java/lang/String" 1059 y_pck ∈ gW := inW_ok (i := 498) (by decide +kernel)
theorem jf_38 : Cond.fieldLink "java/lang/String" 38 "java/lang/String" "COMPACT_STRINGS" "Z" ∈ gW := inW_ok (i := 480) (by decide +kernel)
theorem jf_9 : Cond.fieldLink "java/lang/String" 9 "java/lang/String" "value" "[B" ∈ gW := inW_ok (i := 1436) (by decide +kernel)
theorem jf_15 : Cond.fieldLink "java/lang/String" 15 "java/lang/String" "coder" "B" ∈ gW := inW_ok (i := 1437) (by decide +kernel)
theorem jf_1053 : Cond.fieldLink "java/lang/String" 1053 "jdk/internal/util/Preconditions" "SIOOBE_FORMATTER" "Ljava/util/function/BiFunction;" ∈ gW := inW_ok (i := 496) (by decide +kernel)
theorem jd_len_0 : decode prog_20_method_54_code 0 = .ok (.aload_n 0, 1) := by decide +kernel
theorem jd_len_1 : decode prog_20_method_54_code 1 = .ok (.getfield 9, 3) := by decide +kernel
theorem jd_len_4 : decode prog_20_method_54_code 4 = .ok (.arraylength, 1) := by decide +kernel
theorem jd_len_5 : decode prog_20_method_54_code 5 = .ok (.aload_n 0, 1) := by decide +kernel
theorem jd_len_6 : decode prog_20_method_54_code 6 = .ok (.invokevirtual 335, 3) := by decide +kernel
theorem jd_len_9 : decode prog_20_method_54_code 9 = .ok (.ishr, 1) := by decide +kernel
theorem jd_len_10 : decode prog_20_method_54_code 10 = .ok (.ireturn, 1) := by decide +kernel
theorem jd_chr_0 : decode prog_20_method_56_code 0 = .ok (.aload_n 0, 1) := by decide +kernel
theorem jd_chr_1 : decode prog_20_method_56_code 1 = .ok (.invokevirtual 492, 3) := by decide +kernel
theorem jd_chr_4 : decode prog_20_method_56_code 4 = .ok (.ifCond .eq 12, 3) := by decide +kernel
theorem jd_chr_7 : decode prog_20_method_56_code 7 = .ok (.aload_n 0, 1) := by decide +kernel
theorem jd_chr_8 : decode prog_20_method_56_code 8 = .ok (.getfield 9, 3) := by decide +kernel
theorem jd_chr_11 : decode prog_20_method_56_code 11 = .ok (.iload_n 1, 1) := by decide +kernel
theorem jd_chr_12 : decode prog_20_method_56_code 12 = .ok (.invokestatic 495, 3) := by decide +kernel
theorem jd_chr_15 : decode prog_20_method_56_code 15 = .ok (.ireturn, 1) := by decide +kernel
theorem jd_chr_16 : decode prog_20_method_56_code 16 = .ok (.aload_n 0, 1) := by decide +kernel
theorem jd_chr_17 : decode prog_20_method_56_code 17 = .ok (.getfield 9, 3) := by decide +kernel
theorem jd_chr_20 : decode prog_20_method_56_code 20 = .ok (.iload_n 1, 1) := by decide +kernel
theorem jd_chr_21 : decode prog_20_method_56_code 21 = .ok (.invokestatic 498, 3) := by decide +kernel
theorem jd_chr_24 : decode prog_20_method_56_code 24 = .ok (.ireturn, 1) := by decide +kernel
theorem jd_cod_0 : decode prog_20_method_152_code 0 = .ok (.getstatic 38, 3) := by decide +kernel
theorem jd_cod_3 : decode prog_20_method_152_code 3 = .ok (.ifCond .eq 10, 3) := by decide +kernel
theorem jd_cod_6 : decode prog_20_method_152_code 6 = .ok (.aload_n 0, 1) := by decide +kernel
theorem jd_cod_7 : decode prog_20_method_152_code 7 = .ok (.getfield 15, 3) := by decide +kernel
theorem jd_cod_10 : decode prog_20_method_152_code 10 = .ok (.goto 4, 3) := by decide +kernel
theorem jd_cod_13 : decode prog_20_method_152_code 13 = .ok (.iconst 1, 1) := by decide +kernel
theorem jd_cod_14 : decode prog_20_method_152_code 14 = .ok (.ireturn, 1) := by decide +kernel
theorem jd_lat_0 : decode prog_20_method_154_code 0 = .ok (.getstatic 38, 3) := by decide +kernel
theorem jd_lat_3 : decode prog_20_method_154_code 3 = .ok (.ifCond .eq 14, 3) := by decide +kernel
theorem jd_lat_6 : decode prog_20_method_154_code 6 = .ok (.aload_n 0, 1) := by decide +kernel
theorem jd_lat_7 : decode prog_20_method_154_code 7 = .ok (.getfield 15, 3) := by decide +kernel
theorem jd_lat_10 : decode prog_20_method_154_code 10 = .ok (.ifCond .ne 7, 3) := by decide +kernel
theorem jd_lat_13 : decode prog_20_method_154_code 13 = .ok (.iconst 1, 1) := by decide +kernel
theorem jd_lat_14 : decode prog_20_method_154_code 14 = .ok (.goto 4, 3) := by decide +kernel
theorem jd_lat_17 : decode prog_20_method_154_code 17 = .ok (.iconst 0, 1) := by decide +kernel
theorem jd_lat_18 : decode prog_20_method_154_code 18 = .ok (.ireturn, 1) := by decide +kernel
theorem jd_sck_0 : decode prog_20_method_155_code 0 = .ok (.iload_n 0, 1) := by decide +kernel
theorem jd_sck_1 : decode prog_20_method_155_code 1 = .ok (.iload_n 1, 1) := by decide +kernel
theorem jd_sck_2 : decode prog_20_method_155_code 2 = .ok (.getstatic 1053, 3) := by decide +kernel
theorem jd_sck_5 : decode prog_20_method_155_code 5 = .ok (.invokestatic 1059, 3) := by decide +kernel
theorem jd_sck_8 : decode prog_20_method_155_code 8 = .ok (.pop, 1) := by decide +kernel
theorem jd_sck_9 : decode prog_20_method_155_code 9 = .ok (.return_, 1) := by decide +kernel
theorem jd_l1c_0 : decode prog_21_method_2_code 0 = .ok (.iload_n 1, 1) := by decide +kernel
theorem jd_l1c_1 : decode prog_21_method_2_code 1 = .ok (.aload_n 0, 1) := by decide +kernel
theorem jd_l1c_2 : decode prog_21_method_2_code 2 = .ok (.arraylength, 1) := by decide +kernel
theorem jd_l1c_3 : decode prog_21_method_2_code 3 = .ok (.invokestatic 9, 3) := by decide +kernel
theorem jd_l1c_6 : decode prog_21_method_2_code 6 = .ok (.aload_n 0, 1) := by decide +kernel
theorem jd_l1c_7 : decode prog_21_method_2_code 7 = .ok (.iload_n 1, 1) := by decide +kernel
theorem jd_l1c_8 : decode prog_21_method_2_code 8 = .ok (.baload, 1) := by decide +kernel
theorem jd_l1c_9 : decode prog_21_method_2_code 9 = .ok (.sipush 255, 3) := by decide +kernel
theorem jd_l1c_12 : decode prog_21_method_2_code 12 = .ok (.iand, 1) := by decide +kernel
theorem jd_l1c_13 : decode prog_21_method_2_code 13 = .ok (.i2c, 1) := by decide +kernel
theorem jd_l1c_14 : decode prog_21_method_2_code 14 = .ok (.ireturn, 1) := by decide +kernel
theorem jd_pck_0 : decode prog_29_method_11_code 0 = .ok (.iload_n 0, 1) := by decide +kernel
theorem jd_pck_1 : decode prog_29_method_11_code 1 = .ok (.ifCond .lt 8, 3) := by decide +kernel
theorem jd_pck_4 : decode prog_29_method_11_code 4 = .ok (.iload_n 0, 1) := by decide +kernel
theorem jd_pck_5 : decode prog_29_method_11_code 5 = .ok (.iload_n 1, 1) := by decide +kernel
theorem jd_pck_6 : decode prog_29_method_11_code 6 = .ok (.if_icmp .lt 10, 3) := by decide +kernel
theorem jd_pck_9 : decode prog_29_method_11_code 9 = .ok (.aload_n 2, 1) := by decide +kernel
theorem jd_pck_10 : decode prog_29_method_11_code 10 = .ok (.iload_n 0, 1) := by decide +kernel
theorem jd_pck_11 : decode prog_29_method_11_code 11 = .ok (.iload_n 1, 1) := by decide +kernel
theorem jd_pck_12 : decode prog_29_method_11_code 12 = .ok (.invokestatic 95, 3) := by decide +kernel
theorem jd_pck_15 : decode prog_29_method_11_code 15 = .ok (.athrow, 1) := by decide +kernel
theorem jd_pck_16 : decode prog_29_method_11_code 16 = .ok (.iload_n 0, 1) := by decide +kernel
theorem jd_pck_17 : decode prog_29_method_11_code 17 = .ok (.ireturn, 1) := by decide +kernel
def Pk (Z : EP) (av : List Value) : Array Value → State → Prop := fun a U => a = av.toArray ∧ Ev Z U U.heap
theorem blindk {Z : EP} {av : List Value} : FrameBlind (Pk Z av) := fun _ U _ _ h => ⟨h.1, Ev.same (u := U) rfl h.2⟩
theorem prek {Z : EP} {av : List Value} {s : State} (hE : Ev Z s s.heap) : ∀ U : State, U.heap = s.heap → s.WarmedH U.vm → Pk Z av av.toArray U := fun U hU hW => ⟨rfl, by rw [hU]; exact hE.warm hW⟩
abbrev rmk (f : Nat) : Room := { frames := f, cells := 0, slots := 0, locals := 40 * f }
def zstr (i : Nat) : List Nat := zsbL.getD i []
theorem zsl_at {i : Nat} (hi : i < 25) : zsl.getD i 0 = (zstr i).length := by
  unfold zsl zstr
  have hn : i < zsbL.length := hi
  rw [List.getD_eq_getElem?_getD, List.getElem?_map, List.getD_eq_getElem?_getD, List.getElem?_eq_getElem hn]
  rfl
theorem zsb_at {i k : Nat} (hi : i < 25) (hk : k < (zstr i).length) : (zsb.getD i []).getD k 0 = Int32.ofNat ((zstr i).getD k 0) := by
  unfold zstr at hk ⊢
  unfold zsb
  have hn : i < zsbL.length := hi
  rw [List.getD_eq_getElem?_getD (l := zsbL), List.getElem?_eq_getElem hn] at hk ⊢
  rw [List.getD_eq_getElem?_getD (l := zsbL.map _), List.getElem?_map, List.getElem?_eq_getElem hn]
  have hk : k < (zsbL[i]).length := hk
  show ((zsbL[i]).map Int32.ofNat).getD k 0 = Int32.ofNat ((zsbL[i]).getD k 0)
  rw [List.getD_eq_getElem?_getD, List.getElem?_map, List.getD_eq_getElem?_getD, List.getElem?_eq_getElem hk]
  rfl
theorem zch_lt {i k : Nat} : (zstr i).getD k 0 < 128 := by
  have h : zsbL.all (fun l => l.all (fun x => decide (x < 128))) = true := by decide +kernel
  unfold zstr
  rw [List.getD_eq_getElem?_getD (l := zsbL)]
  by_cases hi : i < zsbL.length
  · rw [List.getElem?_eq_getElem hi, List.getD_eq_getElem?_getD]
    show ((zsbL[i])[k]?).getD 0 < 128
    by_cases hk : k < (zsbL[i]).length
    · rw [List.getElem?_eq_getElem hk]
      exact of_decide_eq_true (List.all_eq_true.mp (List.all_eq_true.mp h _ (List.getElem_mem hi)) _ (List.getElem_mem hk))
    · rw [List.getElem?_eq_none (by omega)]
      decide
  · rw [List.getElem?_eq_none (by omega)]
    show (([] : List Nat).getD k 0) < 128
    simp
theorem zlen_lt {i : Nat} : (zstr i).length < 100 := by
  have h : zsbL.all (fun l => decide (l.length < 100)) = true := by decide +kernel
  unfold zstr
  rw [List.getD_eq_getElem?_getD]
  by_cases hi : i < zsbL.length
  · rw [List.getElem?_eq_getElem hi]
    exact of_decide_eq_true (List.all_eq_true.mp h _ (List.getElem_mem hi))
  · rw [List.getElem?_eq_none (by omega)]
    decide
theorem zc_i2c : ∀ n, n < 128 → ((Int32.ofNat n &&& 255).toUInt32 % 65536).toInt32 = Int32.ofNat n ∧ narrow .char (.int (Int32.ofNat n)) = .int (Int32.ofNat n) := by decide +kernel
theorem c_cod (l : Launch) (Z : EP) (i : Nat) (hi : i < 25) : Met l y_cod (jw y_cod prog_20_method_152_code 1 (some .byte)) (rmk 0) (Pk Z [.ref (Z.2.2.2.1 i)]) (QcRead 0) 0 0 (fun _ => False) := by
  refine Met.ofW (cc := prog_20_method_152_code) (maxL := 1) (ret := (some .byte)) (by decide) rfl ?_
  intro p e s m args below meth c s₁ B hml hP
  obtain ⟨rfl, hE⟩ := hP
  have hx := B.exec
  have hb := B.bytes
  have hr := B.returns
  have hts : ∀ w ∈ gW, w.before _ s = true := fun w hw => atoms_spec (ws := jw y_cod prog_20_method_152_code 1 (some .byte)) B.pre w (List.mem_cons_of_mem _ hw)
  have hown : s.vm.findClass "java/lang/String" = some m.cls := findClass_of_methodNamed B.named
  have hlocks := B.notSynchronized
  have hS : va_S (zA Z) s.heap s.heap [] := va_S.rf
  have hl := lv_entry [.ref (Z.2.2.2.1 i)] (n := 1) (Nat.le_of_ble_eq_true rfl)
  rw [lg_entry_eq]
  generalize (lg_sl [.ref (Z.2.2.2.1 i)] ++ List.replicate (1 - (lg_sl [.ref (Z.2.2.2.1 i)]).length) Slot.unset).toArray = ls at hl ⊢
  have hl : lv_has ls 1 [(0, .ref (Z.2.2.2.1 i))] := hl
  refine va_gets hx hb hE.2.2.2.1 hS hown (hts _ jf_38) (fun _ h => h) jd_cod_0 ?_
  refine lv_if_eq hx hb jd_cod_3 (tgt := 13) (by decide) (fun h => absurd h (by decide)) (fun _ => ?_)
  refine lv_aload_n hx hb jd_cod_6 rfl (lv_at hl 0 rfl) ?_
  refine vk_getf hx hb (hE.2.1.1 i hi).2.1 hS hown (hts _ jf_15) (fun _ h => h) jd_cod_7 ?_
  refine lv_goto hx hb jd_cod_10 (tgt := 14) (by decide) ?_
  exact W.zret hx hb hr (by decide) (fun t ht hW => ⟨rfl, ht⟩) (fun q h => by cases h) jd_cod_14 hlocks
theorem c_lat (l : Launch) (Z : EP) (i : Nat) (hi : i < 25) : Met l y_lat (jw y_lat prog_20_method_154_code 1 (some .boolean)) (rmk 0) (Pk Z [.ref (Z.2.2.2.1 i)]) (QcRead 1) 0 0 (fun _ => False) := by
  refine Met.ofW (cc := prog_20_method_154_code) (maxL := 1) (ret := (some .boolean)) (by decide) rfl ?_
  intro p e s m args below meth c s₁ B hml hP
  obtain ⟨rfl, hE⟩ := hP
  have hx := B.exec
  have hb := B.bytes
  have hr := B.returns
  have hts : ∀ w ∈ gW, w.before _ s = true := fun w hw => atoms_spec (ws := jw y_lat prog_20_method_154_code 1 (some .boolean)) B.pre w (List.mem_cons_of_mem _ hw)
  have hown : s.vm.findClass "java/lang/String" = some m.cls := findClass_of_methodNamed B.named
  have hlocks := B.notSynchronized
  have hS : va_S (zA Z) s.heap s.heap [] := va_S.rf
  have hl := lv_entry [.ref (Z.2.2.2.1 i)] (n := 1) (Nat.le_of_ble_eq_true rfl)
  rw [lg_entry_eq]
  generalize (lg_sl [.ref (Z.2.2.2.1 i)] ++ List.replicate (1 - (lg_sl [.ref (Z.2.2.2.1 i)]).length) Slot.unset).toArray = ls at hl ⊢
  have hl : lv_has ls 1 [(0, .ref (Z.2.2.2.1 i))] := hl
  refine va_gets hx hb hE.2.2.2.1 hS hown (hts _ jf_38) (fun _ h => h) jd_lat_0 ?_
  refine lv_if_eq hx hb jd_lat_3 (tgt := 17) (by decide) (fun h => absurd h (by decide)) (fun _ => ?_)
  refine lv_aload_n hx hb jd_lat_6 rfl (lv_at hl 0 rfl) ?_
  refine vk_getf hx hb (hE.2.1.1 i hi).2.1 hS hown (hts _ jf_15) (fun _ h => h) jd_lat_7 ?_
  refine lv_if_ne hx hb jd_lat_10 (tgt := 17) (by decide) (fun h => absurd rfl h) (fun _ => ?_)
  refine lv_iconst (v := 1) hx hb jd_lat_13 (by decide) ?_
  refine lv_goto hx hb jd_lat_14 (tgt := 18) (by decide) ?_
  exact W.zret hx hb hr (by decide) (fun t ht hW => ⟨rfl, ht⟩) (fun q h => by cases h) jd_lat_18 hlocks
theorem c_len (l : Launch) (Z : EP) (i : Nat) (hi : i < 25) : Met l y_len (jw y_len prog_20_method_54_code 1 (some .int)) (rmk 1) (Pk Z [.ref (Z.2.2.2.1 i)]) (QcRead (Int32.ofNat (zsl.getD i 0))) 0 0 (fun _ => False) := by
  refine Met.ofW (cc := prog_20_method_54_code) (maxL := 1) (ret := (some .int)) (by decide) rfl ?_
  intro p e s m args below meth c s₁ B hml hP
  obtain ⟨rfl, hE⟩ := hP
  have hx := B.exec
  have hb := B.bytes
  have hr := B.returns
  have hts : ∀ w ∈ gW, w.before _ s = true := fun w hw => atoms_spec (ws := jw y_len prog_20_method_54_code 1 (some .int)) B.pre w (List.mem_cons_of_mem _ hw)
  have hown : s.vm.findClass "java/lang/String" = some m.cls := findClass_of_methodNamed B.named
  have hlocks := B.notSynchronized
  have hS : va_S (zA Z) s.heap s.heap [] := va_S.rf
  have hl := lv_entry [.ref (Z.2.2.2.1 i)] (n := 1) (Nat.le_of_ble_eq_true rfl)
  rw [lg_entry_eq]
  generalize (lg_sl [.ref (Z.2.2.2.1 i)] ++ List.replicate (1 - (lg_sl [.ref (Z.2.2.2.1 i)]).length) Slot.unset).toArray = ls at hl ⊢
  have hl : lv_has ls 1 [(0, .ref (Z.2.2.2.1 i))] := hl
  refine lv_aload_n hx hb jd_len_0 rfl (lv_at hl 0 rfl) ?_
  refine vk_getf hx hb (hE.2.1.1 i hi).2.2.1 hS hown (hts _ jf_9) (fun _ h => h) jd_len_1 ?_
  refine va_tlen hx hb (hE.2.1.1 i hi).2.2.2 hS (v := Int32.ofNat (zsl.getD i 0)) rfl jd_len_4 ?_
  refine lv_aload_n hx hb jd_len_5 rfl (lv_at hl 0 rfl) ?_
  refine W.callR (W.runV (As := []) (rest := [.int (Int32.ofNat (zsl.getD i 0))]) (Ts := gW) ⟨hx, hb, hml, hown, hts⟩ (c_cod l Z i hi) ⟨callB_of 0 hts (jw_in jc_cod) rfl rfl rfl (hts _ jn_S) (hts _ jl_cod) ⟨by decide, by decide, by decide⟩ ⟨Nat.le_of_ble_eq_true rfl, Nat.le_of_ble_eq_true rfl⟩, hts _ ji_cod, hts _ js_cod⟩ ⟨blindk, vk_recv hE.2.1 hi hS, prek hE⟩ rfl rfl hl.1 rfl (lv_room (Nat.le_of_ble_eq_true rfl)) jd_len_6 ⟨Nat.zero_le _, Nat.zero_le _⟩) ?_
  refine W.eq (g2 := F0 m 9 ls [.int 0, .int (Int32.ofNat (zsl.getD i 0))]) rfl ?_
  refine lv_ishr hx hb jd_len_9 ?_
  rw [sb_shr0]
  exact W.iret hx hb hr (fun t ht hW => ⟨rfl, ht⟩) (fun q h => by cases h) jd_len_10 hlocks
theorem c_pck (l : Launch) (Z : EP) (a n : Int32) (v : Value) (hv : v = .null ∨ ∃ t, v = .ref t) (h0 : ¬ a < 0) (h1 : a < n) : Met l y_pck (jw y_pck prog_29_method_11_code 3 (some .int)) (rmk 0) (Pk Z [.int a, .int n, v]) (QcRead a) 0 0 (fun _ => False) := by
  rcases hv with rfl | ⟨q, rfl⟩

  · refine Met.ofW (cc := prog_29_method_11_code) (maxL := 3) (ret := (some .int)) (by decide) rfl ?_
    intro p e s m args below meth c s₁ B hml hP
    obtain ⟨rfl, hE⟩ := hP
    have hx := B.exec
    have hb := B.bytes
    have hr := B.returns
    have hts : ∀ w ∈ gW, w.before _ s = true := fun w hw => atoms_spec (ws := jw y_pck prog_29_method_11_code 3 (some .int)) B.pre w (List.mem_cons_of_mem _ hw)
    have hown : s.vm.findClass "jdk/internal/util/Preconditions" = some m.cls := findClass_of_methodNamed B.named
    have hlocks := B.notSynchronized
    have hS : va_S (zA Z) s.heap s.heap [] := va_S.rf
    have hl := lv_entry [.int a, .int n, .null] (n := 3) (Nat.le_of_ble_eq_true rfl)
    rw [lg_entry_eq]
    generalize (lg_sl [.int a, .int n, .null] ++ List.replicate (3 - (lg_sl [.int a, .int n, .null]).length) Slot.unset).toArray = ls at hl ⊢
    have hl : lv_has ls 3 [(0, .int a), (1, .int n), (2, .null)] := hl
    refine lv_iload_n hx hb jd_pck_0 rfl (lv_at hl 0 rfl) ?_
    refine lv_if_lt hx hb jd_pck_1 (tgt := 9) (by decide) (fun h => absurd h h0) (fun _ => ?_)
    refine lv_iload_n hx hb jd_pck_4 rfl (lv_at hl 0 rfl) ?_
    refine lv_iload_n hx hb jd_pck_5 rfl (lv_at hl 1 rfl) ?_
    refine lv_icmp_lt hx hb jd_pck_6 (tgt := 16) (by decide) (fun _ => ?_) (fun h => absurd h1 h)
    refine lv_iload_n hx hb jd_pck_16 rfl (lv_at hl 0 rfl) ?_
    exact W.iret hx hb hr (fun t ht hW => ⟨rfl, ht⟩) (fun q h => by cases h) jd_pck_17 hlocks
  · refine Met.ofW (cc := prog_29_method_11_code) (maxL := 3) (ret := (some .int)) (by decide) rfl ?_
    intro p e s m args below meth c s₁ B hml hP
    obtain ⟨rfl, hE⟩ := hP
    have hx := B.exec
    have hb := B.bytes
    have hr := B.returns
    have hts : ∀ w ∈ gW, w.before _ s = true := fun w hw => atoms_spec (ws := jw y_pck prog_29_method_11_code 3 (some .int)) B.pre w (List.mem_cons_of_mem _ hw)
    have hown : s.vm.findClass "jdk/internal/util/Preconditions" = some m.cls := findClass_of_methodNamed B.named
    have hlocks := B.notSynchronized
    have hS : va_S (zA Z) s.heap s.heap [] := va_S.rf
    have hl := lv_entry [.int a, .int n, .ref q] (n := 3) (Nat.le_of_ble_eq_true rfl)
    rw [lg_entry_eq]
    generalize (lg_sl [.int a, .int n, .ref q] ++ List.replicate (3 - (lg_sl [.int a, .int n, .ref q]).length) Slot.unset).toArray = ls at hl ⊢
    have hl : lv_has ls 3 [(0, .int a), (1, .int n), (2, .ref q)] := hl
    refine lv_iload_n hx hb jd_pck_0 rfl (lv_at hl 0 rfl) ?_
    refine lv_if_lt hx hb jd_pck_1 (tgt := 9) (by decide) (fun h => absurd h h0) (fun _ => ?_)
    refine lv_iload_n hx hb jd_pck_4 rfl (lv_at hl 0 rfl) ?_
    refine lv_iload_n hx hb jd_pck_5 rfl (lv_at hl 1 rfl) ?_
    refine lv_icmp_lt hx hb jd_pck_6 (tgt := 16) (by decide) (fun _ => ?_) (fun h => absurd h1 h)
    refine lv_iload_n hx hb jd_pck_16 rfl (lv_at hl 0 rfl) ?_
    exact W.iret hx hb hr (fun t ht hW => ⟨rfl, ht⟩) (fun q h => by cases h) jd_pck_17 hlocks
def QcVoid : Array Value → State → Outcome → State → Prop := fun _ st o t => o = .returned none ∧ t.heap = st.heap
theorem c_sck (l : Launch) (Z : EP) (a n : Int32) (h0 : ¬ a < 0) (h1 : a < n) : Met l y_sck (jw y_sck prog_20_method_155_code 2 none) (rmk 1) (Pk Z [.int a, .int n]) QcVoid 0 0 (fun _ => False) := by
  refine Met.ofW (cc := prog_20_method_155_code) (maxL := 2) (ret := none) (by decide) rfl ?_
  intro p e s m args below meth c s₁ B hml hP
  obtain ⟨rfl, hE⟩ := hP
  have hx := B.exec
  have hb := B.bytes
  have hr := B.returns
  have hts : ∀ w ∈ gW, w.before _ s = true := fun w hw => atoms_spec (ws := jw y_sck prog_20_method_155_code 2 none) B.pre w (List.mem_cons_of_mem _ hw)
  have hown : s.vm.findClass "java/lang/String" = some m.cls := findClass_of_methodNamed B.named
  have hlocks := B.notSynchronized
  have hS : va_S (zA Z) s.heap s.heap [] := va_S.rf
  have hl := lv_entry [.int a, .int n] (n := 2) (Nat.le_of_ble_eq_true rfl)
  rw [lg_entry_eq]
  generalize (lg_sl [.int a, .int n] ++ List.replicate (2 - (lg_sl [.int a, .int n]).length) Slot.unset).toArray = ls at hl ⊢
  have hl : lv_has ls 2 [(0, .int a), (1, .int n)] := hl
  refine lv_iload_n hx hb jd_sck_0 rfl (lv_at hl 0 rfl) ?_
  refine lv_iload_n hx hb jd_sck_1 rfl (lv_at hl 1 rfl) ?_
  have key : ∀ v : Value, (v = .null ∨ ∃ t, v = .ref t) → W p l e (headSpec (jw y_sck prog_20_method_155_code 2 none) (rmk 1)).room s m #[Value.int a, Value.int n] below meth c s.heap [] 0 0 (MQ below QcVoid #[Value.int a, Value.int n] s 0 0 (fun _ => False)) (F0 m 5 ls [v, .int n, .int a]) := by
    intro v hv
    refine W.callR (W.runS (As := [.int a, .int n, v]) (rest := []) (Ts := gW) ⟨hx, hb, hml, hown, hts⟩ (c_pck l Z a n v hv h0 h1) ⟨callB_of 3 hts (jw_in jc_pck) rfl rfl rfl (hts _ jn_P) (hts _ jl_pck) ⟨by decide, by decide, by decide⟩ ⟨Nat.le_of_ble_eq_true rfl, Nat.le_of_ble_eq_true rfl⟩, hts _ js_pck⟩ ⟨blindk, prek hE⟩ rfl rfl hl.1 rfl (lv_room (Nat.le_of_ble_eq_true rfl)) jd_sck_5 ⟨Nat.zero_le _, Nat.zero_le _⟩) ?_
    refine W.eq (g2 := F0 m 8 ls [.int a]) rfl ?_
    refine lv_pop hx hb jd_sck_8 rfl ?_
    exact W.vret hx hb hr (fun t ht hW => ⟨rfl, ht⟩) (fun q h => by cases h) jd_sck_9 hlocks
  rcases hE.2.2.2.2.2.2.2.2.2.2.2.2 with hz | ⟨t, hz⟩
  · exact va_gets hx hb hz hS hown (hts _ jf_1053) (fun _ h => h) jd_sck_2 (key _ (Or.inl rfl))
  · exact va_gets hx hb hz hS hown (hts _ jf_1053) (fun _ h => h) jd_sck_2 (key _ (Or.inr ⟨t, rfl⟩))
theorem c_l1c (l : Launch) (Z : EP) (i k : Nat) (hi : i < 25) (hk : k < (zstr i).length) : Met l y_l1c (jw y_l1c prog_21_method_2_code 2 (some .char)) (rmk 2) (Pk Z [.ref (Z.2.2.2.2.1 i), .int (Int32.ofNat k)]) (QcRead (Int32.ofNat ((zstr i).getD k 0))) 0 0 (fun _ => False) := by
  have hlen := @zlen_lt i
  have hsl := zsl_at hi
  have hk0 : ¬ Int32.ofNat k < 0 := nI_pos (by omega)
  have hk1 : Int32.ofNat k < Int32.ofNat (zsl.getD i 0) := nI_lt (by omega) (by omega)
  have hkc : (Int32.ofNat k).toNatClampNeg = k := nI_clamp (by omega)
  refine Met.ofW (cc := prog_21_method_2_code) (maxL := 2) (ret := (some .char)) (by decide) rfl ?_
  intro p e s m args below meth c s₁ B hml hP
  obtain ⟨rfl, hE⟩ := hP
  have hx := B.exec
  have hb := B.bytes
  have hr := B.returns
  have hts : ∀ w ∈ gW, w.before _ s = true := fun w hw => atoms_spec (ws := jw y_l1c prog_21_method_2_code 2 (some .char)) B.pre w (List.mem_cons_of_mem _ hw)
  have hown : s.vm.findClass "java/lang/StringLatin1" = some m.cls := findClass_of_methodNamed B.named
  have hlocks := B.notSynchronized
  have hS : va_S (zA Z) s.heap s.heap [] := va_S.rf
  have hl := lv_entry [.ref (Z.2.2.2.2.1 i), .int (Int32.ofNat k)] (n := 2) (Nat.le_of_ble_eq_true rfl)
  rw [lg_entry_eq]
  generalize (lg_sl [.ref (Z.2.2.2.2.1 i), .int (Int32.ofNat k)] ++ List.replicate (2 - (lg_sl [.ref (Z.2.2.2.2.1 i), .int (Int32.ofNat k)]).length) Slot.unset).toArray = ls at hl ⊢
  have hl : lv_has ls 2 [(0, .ref (Z.2.2.2.2.1 i)), (1, .int (Int32.ofNat k))] := hl
  refine lv_iload_n hx hb jd_l1c_0 rfl (lv_at hl 1 rfl) ?_
  refine lv_aload_n hx hb jd_l1c_1 rfl (lv_at hl 0 rfl) ?_
  refine va_tlen hx hb (hE.2.1.1 i hi).2.2.2 hS (v := Int32.ofNat (zsl.getD i 0)) rfl jd_l1c_2 ?_
  refine W.callX (W.runS (As := [.int (Int32.ofNat k), .int (Int32.ofNat (zsl.getD i 0))]) (rest := []) (Ts := gW) ⟨hx, hb, hml, hown, hts⟩ (c_sck l Z _ _ hk0 hk1) ⟨callB_of 2 hts (jw_in jc_sck) rfl rfl rfl (hts _ jn_S) (hts _ jl_sck) ⟨by decide, by decide, by decide⟩ ⟨Nat.le_of_ble_eq_true rfl, Nat.le_of_ble_eq_true rfl⟩, hts _ js_sck⟩ ⟨blindk, prek hE⟩ rfl rfl hl.1 rfl (lv_room (Nat.le_of_ble_eq_true rfl)) jd_l1c_3 ⟨Nat.zero_le _, Nat.zero_le _⟩) (fun x h => h.elim) (fun v st₀ t h0 hq => ?_)
  obtain ⟨hv, ht⟩ := hq
  have hv : v = none := Outcome.returned.inj hv
  subst hv
  rw [ht, h0]
  refine W.eq (g2 := F0 m 6 ls []) rfl ?_
  refine lv_aload_n hx hb jd_l1c_6 rfl (lv_at hl 0 rfl) ?_
  refine lv_iload_n hx hb jd_l1c_7 rfl (lv_at hl 1 rfl) ?_
  refine va_tb hx hb (hE.2.1.1 i hi).2.2.2 hS (i := Int32.ofNat k) (v := .int (Int32.ofNat ((zstr i).getD k 0))) (by rw [hsl]; exact vp_in_nI hk (by omega)) (by rw [hkc, zsb_at hi hk]) jd_l1c_8 ?_
  refine lv_sipush (v := 255) hx hb jd_l1c_9 (by decide) ?_
  refine lv_iand hx hb jd_l1c_12 ?_
  refine lv_i2c (v := Int32.ofNat ((zstr i).getD k 0)) hx hb jd_l1c_13 (zc_i2c _ zch_lt).1 ?_
  exact W.zret hx hb hr (zc_i2c _ zch_lt).2 (fun t ht hW => ⟨rfl, ht⟩) (fun q h => by cases h) jd_l1c_14 hlocks
theorem c_chr (l : Launch) (Z : EP) (i k : Nat) (hi : i < 25) (hk : k < (zstr i).length) : Met l y_chr (jw y_chr prog_20_method_56_code 2 (some .char)) (rmk 3) (Pk Z [.ref (Z.2.2.2.1 i), .int (Int32.ofNat k)]) (QcRead (Int32.ofNat ((zstr i).getD k 0))) 0 0 (fun _ => False) := by
  refine Met.ofW (cc := prog_20_method_56_code) (maxL := 2) (ret := (some .char)) (by decide) rfl ?_
  intro p e s m args below meth c s₁ B hml hP
  obtain ⟨rfl, hE⟩ := hP
  have hx := B.exec
  have hb := B.bytes
  have hr := B.returns
  have hts : ∀ w ∈ gW, w.before _ s = true := fun w hw => atoms_spec (ws := jw y_chr prog_20_method_56_code 2 (some .char)) B.pre w (List.mem_cons_of_mem _ hw)
  have hown : s.vm.findClass "java/lang/String" = some m.cls := findClass_of_methodNamed B.named
  have hlocks := B.notSynchronized
  have hS : va_S (zA Z) s.heap s.heap [] := va_S.rf
  have hl := lv_entry [.ref (Z.2.2.2.1 i), .int (Int32.ofNat k)] (n := 2) (Nat.le_of_ble_eq_true rfl)
  rw [lg_entry_eq]
  generalize (lg_sl [.ref (Z.2.2.2.1 i), .int (Int32.ofNat k)] ++ List.replicate (2 - (lg_sl [.ref (Z.2.2.2.1 i), .int (Int32.ofNat k)]).length) Slot.unset).toArray = ls at hl ⊢
  have hl : lv_has ls 2 [(0, .ref (Z.2.2.2.1 i)), (1, .int (Int32.ofNat k))] := hl
  refine lv_aload_n hx hb jd_chr_0 rfl (lv_at hl 0 rfl) ?_
  refine W.callR (W.runV (As := []) (rest := []) (Ts := gW) ⟨hx, hb, hml, hown, hts⟩ (c_lat l Z i hi) ⟨callB_of 0 hts (jw_in jc_lat) rfl rfl rfl (hts _ jn_S) (hts _ jl_lat) ⟨by decide, by decide, by decide⟩ ⟨Nat.le_of_ble_eq_true rfl, Nat.le_of_ble_eq_true rfl⟩, hts _ ji_lat, hts _ js_lat⟩ ⟨blindk, vk_recv hE.2.1 hi hS, prek hE⟩ rfl rfl hl.1 rfl (lv_room (Nat.le_of_ble_eq_true rfl)) jd_chr_1 ⟨Nat.zero_le _, Nat.zero_le _⟩) ?_
  refine W.eq (g2 := F0 m 4 ls [.int 1]) rfl ?_
  refine lv_if_eq hx hb jd_chr_4 (tgt := 16) (by decide) (fun h => absurd h (by decide)) (fun _ => ?_)
  refine lv_aload_n hx hb jd_chr_7 rfl (lv_at hl 0 rfl) ?_
  refine vk_getf hx hb (hE.2.1.1 i hi).2.2.1 hS hown (hts _ jf_9) (fun _ h => h) jd_chr_8 ?_
  refine lv_iload_n hx hb jd_chr_11 rfl (lv_at hl 1 rfl) ?_
  refine W.callR (W.runS (As := [.ref (Z.2.2.2.2.1 i), .int (Int32.ofNat k)]) (rest := []) (Ts := gW) ⟨hx, hb, hml, hown, hts⟩ (c_l1c l Z i k hi hk) ⟨callB_of 2 hts (jw_in jc_l1c) rfl rfl rfl (hts _ jn_1) (hts _ jl_l1c) ⟨by decide, by decide, by decide⟩ ⟨Nat.le_of_ble_eq_true rfl, Nat.le_of_ble_eq_true rfl⟩, hts _ js_l1c⟩ ⟨blindk, prek hE⟩ rfl rfl hl.1 rfl (lv_room (Nat.le_of_ble_eq_true rfl)) jd_chr_12 ⟨Nat.zero_le _, Nat.zero_le _⟩) ?_
  refine W.eq (g2 := F0 m 15 ls [.int (Int32.ofNat ((zstr i).getD k 0))]) rfl ?_
  exact W.zret hx hb hr (zc_i2c _ zch_lt).2 (fun t ht hW => ⟨rfl, ht⟩) (fun q h => by cases h) jd_chr_15 hlocks
theorem R_strlen {m pc pc' : Nat} {ls st : List MV} {M : MH} {Q : Res → MH → Prop} {a b d : Nat} {z : Int} {tb : List (Int × Nat)} {i : Nat} (hc : cod m pc = some (78, a, b, d, z, tb)) (hp : pc + 3 = pc') (hi : i < 25) (hr : vcs st ≤ 8) (h : Run m pc' ls (vI (zstr i).length :: st) M Q) : Run m pc ls (vS i :: st) M Q := by
  subst hp
  have hd : decode (zby m) pc = .ok (.invokevirtual a, 3) := (zdc hc).1
  have hw : inW (66 + z.toNat) (.methodLink (zyn m).cls a y_len) = true := (zdc hc).2.1
  have hdp : 2 ≤ zdp m := of_decide_eq_true (show decide _ = true from zdk_at hc)
  refine R_pure (fun Z p l e R s mid args below meth cc Qs C H locs cells slots lr sr hl hs hH hS b1 b2 k => ?_) h
  obtain ⟨w1, ws1, rfl, hw1, hs1⟩ := srel_cons hs
  have hw1 : w1 = .ref (Z.2.2.2.1 i) := by
    rcases hw1 with ⟨-, q⟩ | ⟨q, -⟩
    · exact q
    · omega
  subst hw1
  have hfr := zfr C
  have hE := (zEv C).kept hS.1 hS.2.1
  have hlen := @zlen_lt i
  refine W.callR (W.runV (As := []) (rest := ws1) (Ts := gW) ⟨C.1, C.2.1, C.2.2.1, C.2.2.2.1, C.2.2.2.2.1⟩ (c_len l Z i hi) ⟨callB_of 0 C.2.2.2.2.1 (jw_in jc_len) rfl rfl rfl (C.2.2.2.2.1 _ jn_S) (C.2.2.2.2.1 _ (inW_ok hw)) ⟨by decide, by decide, by decide⟩ ⟨?_, ?_⟩, C.2.2.2.2.1 _ ji_len, C.2.2.2.2.1 _ js_len⟩ ⟨blindk, vk_recv (zEv C).2.1 hi hS, fun U hU hW => ⟨rfl, by rw [hU]; exact hE.warm hW⟩⟩ rfl rfl hl.1 rfl (lv_room (by rw [vcs_ok hs1]; exact hr)) hd ⟨b1, b2⟩) ?_
  · show 1 + 1 ≤ R.frames
    omega
  · show 8 + (1 + 11) + 40 * 1 ≤ R.locals
    omega
  · refine k lr _ hl ⟨⟨?_, by constructor <;> omega⟩, hs1⟩
    rw [zsl_at hi]
    rfl
theorem R_strch {m pc pc' : Nat} {ls st : List MV} {M : MH} {Q : Res → MH → Prop} {a b d : Nat} {z : Int} {tb : List (Int × Nat)} {i : Nat} {x : Int} (hc : cod m pc = some (79, a, b, d, z, tb)) (hp : pc + 3 = pc') (hi : i < 25) (h0 : 0 ≤ x) (h1 : x < (zstr i).length) (hr : vcs st ≤ 8) (h : Run m pc' ls (vI ((zstr i).getD x.toNat 0 : Nat) :: st) M Q) : Run m pc ls (vI x :: vS i :: st) M Q := by
  subst hp
  have hd : decode (zby m) pc = .ok (.invokevirtual a, 3) := (zdc hc).1
  have hw : inW (66 + z.toNat) (.methodLink (zyn m).cls a y_chr) = true := (zdc hc).2.1
  have hdp : 4 ≤ zdp m := of_decide_eq_true (show decide _ = true from zdk_at hc)
  obtain ⟨n, rfl⟩ : ∃ n : Nat, x = n := ⟨x.toNat, by omega⟩
  have hn : n < (zstr i).length := by omega
  refine R_pure (fun Z p l e R s mid args below meth cc Qs C H locs cells slots lr sr hl hs hH hS b1 b2 k => ?_) h
  obtain ⟨w0, ws0, rfl, ⟨rfl, g0⟩, hs0⟩ := srel_cons hs
  obtain ⟨w1, ws1, rfl, hw1, hs1⟩ := srel_cons hs0
  have hw1 : w1 = .ref (Z.2.2.2.1 i) := by
    rcases hw1 with ⟨-, q⟩ | ⟨q, -⟩
    · exact q
    · omega
  subst hw1
  have hfr := zfr C
  have hE := (zEv C).kept hS.1 hS.2.1
  have hch := @zch_lt i n
  refine W.callR (W.runV (As := [.int (Int32.ofNat n)]) (rest := ws1) (Ts := gW) ⟨C.1, C.2.1, C.2.2.1, C.2.2.2.1, C.2.2.2.2.1⟩ (c_chr l Z i n hi hn) ⟨callB_of 1 C.2.2.2.2.1 (jw_in jc_chr) rfl rfl rfl (C.2.2.2.2.1 _ jn_S) (C.2.2.2.2.1 _ (inW_ok hw)) ⟨by decide, by decide, by decide⟩ ⟨?_, ?_⟩, C.2.2.2.2.1 _ ji_chr, C.2.2.2.2.1 _ js_chr⟩ ⟨blindk, vk_recv (zEv C).2.1 hi hS, fun U hU hW => ⟨rfl, by rw [hU]; exact hE.warm hW⟩⟩ rfl rfl hl.1 rfl (lv_room (by rw [vcs_ok hs1]; exact hr)) hd ⟨b1, b2⟩) ?_
  · show 3 + 1 ≤ R.frames
    omega
  · show 8 + (2 + 11) + 40 * 3 ≤ R.locals
    omega
  · exact k lr _ hl ⟨⟨rfl, by constructor <;> (simp only [Int.toNat_natCast]; omega)⟩, hs1⟩
end
section
/-! a callee's throw, caught by a row of the method's own table -/
def xcs (pl : Platform) (s₀ : State) (d : ClassId) (pc : Nat) (cls : ClassId) (h : Nat) : List ExceptionTableEntry → Prop
  | [] => False
  | x :: t => (covers x pc = false ∧ xcs pl s₀ d pc cls h t) ∨ (covers x pc = true ∧ x.catchType ≠ 0 ∧ ∃ c, s₀.vm.ClassLinks pl d x.catchType c ∧ ((s₀.vm.assignable cls c = true ∧ x.handlerPc = h) ∨ (s₀.vm.assignable cls c = false ∧ xcs pl s₀ d pc cls h t)))
theorem xc_find {e : Env} {s₀ : State} {f : JFrame} {a : Addr} {cell : Cell} {h : Nat} (hobj : ∀ k, cell.vm ≠ .statics k) (hk0 : ∃ k, s₀.vm.classes[cell.cls]? = some k) :
    ∀ (tbl : List ExceptionTableEntry) (S : State), s₀.WarmedH S.vm → S.heap[a]? = some cell → xcs e.platform s₀ f.method.cls f.pc cell.cls h tbl →
      ∃ vm', s₀.WarmedH vm' ∧ ∀ (Q : Handler → Pre) (E : CtlPost) (d : Bool) (acts : List Action), wp (findHandler.go f a tbl) Q E e d acts S ↔ Q (.found h) d acts (S.setVm vm') := by
  obtain ⟨k0, hk0⟩ := hk0
  intro tbl
  induction tbl with
  | nil => intro S _ _ hf; exact hf.elim
  | cons x t ih =>
    intro S hW hcell hf
    rcases hf with ⟨hno, hf⟩ | ⟨hx, h0, c, hl, hf⟩
    · obtain ⟨vm', hW', hq⟩ := ih S hW hcell hf
      exact ⟨vm', hW', fun Q E d acts => by rw [W.findHandler_go_skip hno]; exact hq Q E d acts⟩
    · obtain ⟨dk, _, _, kt, hd, _, _, _, _, hkt, _, hopn⟩ := hl.here
      have hlS := hW.classLinks hl
      obtain ⟨ha, ht⟩ := (resolveClass_links e.toSetting hlS).op (op := VmOp.resolveClass f.method.cls x.catchType) rfl
      have hal : S.vm.Alike (S.vm.noted f.method.cls x.catchType (.cls c)) := (Vm.Alike.refl S.vm).noted _ _ _
      have hWn := hW.noted hd hopn (State.rightAt_cls hl)
      obtain ⟨k1, hk1, -⟩ := hWn.alike.2.2 _ _ hk0
      obtain ⟨k2, hk2, -⟩ := hWn.alike.2.2 _ _ hkt
      have hcv := hx
      simp only [covers] at hcv
      rcases hf with ⟨hfit, hh⟩ | ⟨hfit, hf⟩
      · have hfit' : (S.vm.noted f.method.cls x.catchType (.cls c)).assignable cell.cls c = true := by rw [hWn.alike.assignable]; exact hfit
        refine ⟨_, hWn, fun Q E d acts => ?_⟩
        subst hh
        simp [findHandler.go, hcv, h0, ha, ht, hcell, hobj, hk1, hk2, hfit', VmOp.dirties, VmOp.acts]
      · have hfit' : (S.vm.noted f.method.cls x.catchType (.cls c)).assignable cell.cls c = false := by rw [hWn.alike.assignable]; exact hfit
        obtain ⟨vm', hW', hq⟩ := ih (S.setVm (S.vm.noted f.method.cls x.catchType (.cls c))) hWn hcell hf
        refine ⟨vm', hW', fun Q E d acts => ?_⟩
        have h9 := hq Q E d acts
        simp [findHandler.go, hcv, h0, ha, ht, hcell, hobj, hk1, hk2, hfit', VmOp.dirties, VmOp.acts]
        exact h9
theorem xc_go {p : Program} {l : Launch} {e : Env} {R : Room} {s : State} {mid : MethodId} {args : Array Value} {below : List Frame} {meth : Method} {c : Code} {T : State} {locs : List Loc} {cells slots : Nat} (X : Stand p l e R s mid args below meth c T locs cells slots) (a : Addr) {g : JFrame} (hg : g.method = mid) {cell : Cell} (hcell : T.heap[a]? = some cell) (hobj : cell.vm.isStatics = false) (hk0 : ∃ k, s.vm.classes[cell.cls]? = some k) {h : Nat}
    (hx : xcs e.platform s mid.cls g.pc cell.cls h c.exceptionTable.toList) :
    ∃ vm', Stand p l e R s mid args below meth c (T.setVm vm') locs cells slots ∧ ∀ target, Steps p.tables e below ((T.setVm vm').setTop { g with pc := h, stack := [.ref a] }) target → Steps p.tables e below ((T.setTop g).pushFrame (.throwing a)) target := by
  subst hg
  obtain ⟨vm', hW', hq⟩ := xc_find (e := e) (s₀ := s) (f := g) (a := a) (VmData.ne_statics_of hobj) hk0 _ ((T.setTop g).pushFrame (.throwing a)) (show s.WarmedH T.vm from X.warmed) (show T.heap[a]? = some cell from hcell) hx
  refine ⟨vm', X.noted hW', fun target hrest => ?_⟩
  have hfind : ∀ (Q : Handler → Pre) (E : CtlPost) (d : Bool) (acts : List Action), wp (findHandler g a) Q E e d acts ((T.setTop g).pushFrame (.throwing a)) ↔ Q (.found h) d acts (((T.setTop g).pushFrame (.throwing a)).setVm vm') := fun Q E d acts => by
    rw [W.findHandler_eq (s := (T.setTop g).pushFrame (.throwing a)) (show T.vm.method? g.method = some meth from X.method') X.code]
    exact hq Q E d acts
  have hat : At T g.method c below := X.here
  obtain ⟨hgo, hw⟩ := hat.throwing a
  refine Steps.head hgo hw ?_
  have hst : ∀ r : List Frame, (stepThrowing e ((T.setTop g).pushFrame (.throwing a)) a (.java g :: r)).1 = ((((T.setTop g).pushFrame (.throwing a)).setVm vm').setFrames (.java { g with pc := h, stack := [.ref a] } :: r)) := by
    intro r
    simp only [stepThrowing, searchFrame, vmDo]
    generalize hr : Sem.go _ e false [] ((T.setTop g).pushFrame (.throwing a)) = res
    obtain ⟨as, rfl, ha⟩ := Sem.eq_ok_of hr (a := Handler.found h) (s' := ((T.setTop g).pushFrame (.throwing a)).setVm vm') (acts' := []) (by simp [hfind _ _ _ _])
    rfl
  rw [stepThread_throwing (frames_entered hat.top _), hst]
  obtain ⟨g₀, hg⟩ := Option.isSome_iff_exists.mp hat.top
  obtain ⟨r, hr⟩ := State.topJava?_eq_some.mp hg
  have hr' : (T.setVm vm').frames = .java g₀ :: r := hr
  rw [State.setTop_of_frames _ hr'] at hrest
  have hsf : ∀ (u : State) (F G : List Frame), ((u.setFrames F).setVm vm').setFrames G = (u.setVm vm').setFrames G := by
    intro u F G
    have h1 : (u.setFrames F).setVm vm' = (u.setVm vm').setFrames F := rfl
    rw [h1, State.setFrames_setFrames]
  rw [hr, List.tail_cons, State.pushFrame, hsf, State.setTop_of_frames _ hr, hsf]
  exact hrest
def zct (c : Nat) : Nat := if c = 13 then 0 else if c = 19 then 1 else if c = 25 then 2 else if c = 27 then 3 else 9
def hnd : List (Nat × Nat × Nat × Nat) → Nat → Nat → Option Nat
  | [], _, _ => none
  | (b, e, h, c) :: t, pc, k => if b ≤ pc ∧ pc < e then (if zct c = k then some h else if zct c = 2 ∧ k = 3 then hnd t pc k else none) else hnd t pc k
theorem xl_0 : Cond.classLink "RepairScanLaw" 13 (zex 0) ∈ gW := inW_ok (i := 815) (by decide +kernel)
theorem xq_0 : Cond.castable (zex 0) (zex 0) ∈ nW := inN_ok (i := 822) (by decide +kernel)
theorem xl_1 : Cond.classLink "RepairScanLaw" 19 (zex 1) ∈ gW := inW_ok (i := 887) (by decide +kernel)
theorem xq_1 : Cond.castable (zex 1) (zex 1) ∈ nW := inN_ok (i := 894) (by decide +kernel)
theorem xl_2 : Cond.classLink "RepairScanLaw" 25 (zex 2) ∈ gW := inW_ok (i := 910) (by decide +kernel)
theorem xq_2 : Cond.castable (zex 2) (zex 2) ∈ nW := inN_ok (i := 919) (by decide +kernel)
theorem xl_3 : Cond.classLink "RepairScanLaw" 27 (zex 3) ∈ gW := inW_ok (i := 911) (by decide +kernel)
theorem xq_3 : Cond.castable (zex 3) (zex 3) ∈ nW := inN_ok (i := 934) (by decide +kernel)
theorem xl_at {c : Nat} (h : zct c < 4) : Cond.classLink "RepairScanLaw" c (zex (zct c)) ∈ gW := by
  unfold zct at h ⊢
  split
  · rename_i e; subst e; exact xl_0
  · split
    · rename_i e; subst e; exact xl_1
    · split
      · rename_i e; subst e; exact xl_2
      · split
        · rename_i e; subst e; exact xl_3
        · rename_i e1 e2 e3 e4
          rw [if_neg e1, if_neg e2, if_neg e3, if_neg e4] at h
          omega
theorem xq_at {k : Nat} (h : k < 4) : Cond.castable (zex k) (zex k) ∈ nW := by
  rcases (show k = 0 ∨ k = 1 ∨ k = 2 ∨ k = 3 by omega) with rfl | rfl | rfl | rfl
  · exact xq_0
  · exact xq_1
  · exact xq_2
  · exact xq_3
theorem xc_of {m : Nat} {Z : EP} {p : Program} {l : Launch} {e : Env} {R : Room} {s : State} {mid : MethodId} {args : Array Value} {below : List Frame} {meth : Method} {c : Code} (C : Cx m Z p l e R s mid args below meth c) (hown : (zyn m).cls = "RepairScanLaw") (hpl : e.platform.magicAccessors = ({} : Platform).magicAccessors) {k pc h : Nat} (hk : k < 4) {cls : ClassId} (hcls : s.vm.findClass (zex k) = some cls) :
    ∀ tbl : List ExceptionTableEntry, hnd (tbl.map (fun x => (x.startPc, x.endPc, x.handlerPc, x.catchType))) pc k = some h → xcs e.platform s mid.cls pc cls h tbl := by
  have hfc : s.vm.findClass "RepairScanLaw" = some mid.cls := by rw [← hown]; exact C.2.2.2.1
  intro tbl
  induction tbl with
  | nil => intro hh; cases hh
  | cons x t ih =>
    intro hh
    rw [List.map_cons] at hh
    unfold hnd at hh
    by_cases hc : x.startPc ≤ pc ∧ pc < x.endPc
    · rw [if_pos hc] at hh
      refine Or.inr ⟨by simp [covers, hc], ?_⟩
      by_cases c1 : zct x.catchType = k
      · rw [if_pos c1] at hh
        have h4 : zct x.catchType < 4 := by omega
        refine ⟨fun e => by rw [e] at h4; revert h4; decide, ?_⟩
        obtain ⟨c', hc', hcl⟩ := Cond.classLink_spec hfc (C.2.2.2.2.1 _ (xl_at h4)) e.platform hpl
        obtain ⟨c3, c4, hc3, hc4, hasg⟩ := Cond.castable_spec (zN C (xq_at hk) rfl)
        rw [c1] at hc'
        cases Option.some.inj (hc'.symm.trans hc4)
        cases Option.some.inj (hc3.symm.trans hcls)
        exact ⟨c', hcl, Or.inl ⟨hasg, Option.some.inj hh⟩⟩
      · rw [if_neg c1] at hh
        by_cases c2 : zct x.catchType = 2 ∧ k = 3
        · rw [if_pos c2] at hh
          obtain ⟨c2, rfl⟩ := c2
          have h4 : zct x.catchType < 4 := by omega
          refine ⟨fun e => by rw [e] at h4; revert h4; decide, ?_⟩
          obtain ⟨c', hc', hcl⟩ := Cond.classLink_spec hfc (C.2.2.2.2.1 _ (xl_at h4)) e.platform hpl
          obtain ⟨a1, a2, n1, n2, n3⟩ := (zEv C).2.2.2.2.2.2.2.2.1
          rw [c2] at hc'
          cases Option.some.inj (hc'.symm.trans n2)
          cases Option.some.inj (n1.symm.trans hcls)
          exact ⟨c', hcl, Or.inr ⟨n3, ih hh⟩⟩
        · rw [if_neg c2] at hh
          cases hh
    · rw [if_neg hc] at hh
      refine Or.inl ⟨?_, ih hh⟩
      simp only [covers]
      simpa using hc
/-- a call from a method of the law with a table: it returns, or it throws what a row of the table takes -/
theorem R_ivX {m pc pc' : Nat} {ls stk rest as : List MV} {M : MH} {Q : Res → MH → Prop} {a b d : Nat} {z : Int} {tb : List (Int × Nat)} {q : Nat} (hc : cod m pc = some (72, a, b, d, z, tb)) (hp : pc + 3 = pc') (hown : (zyn m).cls = "RepairScanLaw") (ht : (ztb b).isEmpty = true) (hk : K0 q = zci b + 1) (hn : as.length = zna b) (hr : vcs rest ≤ 8) (hst : stk = as.reverse ++ vR (some q) :: rest)
    (h : Call b (vR (some q) :: as) M (fun r M1 => (∃ v, r = .inl v ∧ Run m pc' ls (v.toList ++ rest) M1 Q) ∨ ∃ k hp, r = .inr k ∧ k < 4 ∧ hnd (ztb m) pc k = some hp ∧ Run m hp ls [vJ] (xN M1) Q)) : Run m pc ls stk M Q := by
  obtain ⟨r, M1, hor, hm1, hX⟩ := h
  rcases hor with hv | ⟨k, hpc, rfl, hk4, hh, r', M', hQ, hm2, hY⟩
  · exact R_iv hc hp ht hk hn hr hst ⟨r, M1, hv, hm1, hX⟩
  · subst hp
    subst hst
    have hd : decode (zby m) pc = .ok (.invokevirtual a, 3) := (zdc hc).1
    have hw := Bool.and_eq_true_iff.mp (show (inW (66 + z.toNat) (.methodLink (zyn m).cls a (zyn b)) && decide (zst b = false ∧ (zyn b).name ≠ "<init>" ∧ b < 147)) = true from (zdc hc).2.1)
    obtain ⟨hs1, hs2, hb⟩ : zst b = false ∧ (zyn b).name ≠ "<init>" ∧ b < 147 := of_decide_eq_true hw.2
    have hdp : zdp b < zdp m := of_decide_eq_true (show decide _ = true from zdk_at hc)
    have hci := List.all_eq_true.mp zciA b (List.mem_range.mpr hb)
    rw [hs1] at hci
    simp only [Bool.false_or, Bool.and_eq_true, decide_eq_true_eq] at hci
    obtain ⟨p1, p2, p3, p4, p5⟩ := zmk_parts hb
    rw [if_neg (by rw [hs1]; decide)] at p1
    have c1 := mle_c hm1
    have c2 := mle_s hm1
    have c3 := mle_c hm2
    have c4 := mle_s hm2
    have x1 : cst (xN M1) = cst M1 + 1 := rfl
    have x2 : sst (xN M1) = sst M1 + 6 := by show zss M1.2.2.1 + 6 * (M1.2.2.2.1 + 1) = zss M1.2.2.1 + 6 * M1.2.2.2.1 + 6; omega
    have hmx : mle M (xN M1) := ⟨hm1.1, Nat.le_succ_of_le hm1.2⟩
    refine ⟨r', M', hQ, mle_trans hmx hm2, ?_⟩
    intro Z p l e R s mid args below meth c Qs C H locs cells slots lr sr hl hs hH hS b1 b2 hE
    have hMet := hX l Z C.2.2.2.2.2.2.2.2.2.2.2.1
    obtain ⟨x, y, rfl, hx, hy⟩ := srel_app hs
    obtain ⟨w, rv, rfl, ⟨rfl, g1⟩, hrv⟩ := srel_cons hy
    have hx' := srel_rev hx
    rw [List.reverse_reverse] at hx'
    obtain ⟨⟨cell, q1, q2, q3, -⟩, -⟩ := obj_of hH (g1 q rfl) hk hci.2
    have hcl : s.vm.findClass (zcn (zci b)) = some (Z.2.1.1 (zci b)) := ((zK C).1 _ _ (zcl_at hci.2)).2.1
    have hrun := vx_runV (e := e) (below := below) (meth := meth) (As := x.reverse) (b := Z.1 + q) (Ts := gW) (g := F0 mid pc lr (x ++ Value.ref (Z.1 + q) :: rv)) (rest := rv) (locs := locs) (cells := cells) (slots := slots) ⟨C.1, C.2.1, C.2.2.1, C.2.2.2.1, C.2.2.2.2.1⟩ hMet ⟨callBz C hb ht hdp (inW_ok hw.1), C.2.2.2.2.1 _ p1, C.2.2.2.2.1 _ (p2 hs1 hs2)⟩ ⟨blindz, ⟨cell, q1, by rw [q3]; rfl, by rw [← hci.1, hcl, q2]⟩, zpre C hS hH ⟨⟨rfl, g1⟩, hx'⟩⟩ rfl (by rw [← srel_len hx']; exact hn) (hl.1) (by rw [List.reverse_reverse]) (lv_room (by rw [vcs_ok hrv]; exact hr)) hd ⟨by omega, by omega⟩
    intro T hT X
    rcases hrun T hT X with ⟨v9, st₀, t, T', L, h0, X', hL, e1, e2, hq, go⟩ | ⟨q9, st₀, t, T', L, E, ce, h0, X', hL, e1, e2, ⟨rfl, hH', hF⟩, hce, hcv, hcE, go⟩
    · exact hq.elim
    · have hF1 := hF.1
      have hF2 := hF.2
      rw [h0] at hF1 hF2
      have hpl : e.platform.magicAccessors = ({} : Platform).magicAccessors := by rw [X.admits.platform]
      have hxc := xc_of C hown hpl hk4 hcE c.exceptionTable.toList (by rw [C.2.2.2.2.2.2.2.2.1]; exact hh)
      obtain ⟨vm', X2, st2⟩ := xc_go X' q9 (g := F0 mid pc lr rv) rfl (cell := ce) (by rw [e1]; exact hce) (by rw [hcv]; rfl) (by obtain ⟨k9, h9, -⟩ := Vm.findClass_spec hcE; exact ⟨k9, h9⟩) hxc
      obtain ⟨t2, a1, b3⟩ := hY Z p l e R s mid args below meth c Qs C t.heap (locs ++ L) _ _ lr [.ref q9] (lrel_mono hm1.1 hl) ⟨⟨q9, rfl⟩, trivial⟩ hH' ⟨Nat.le_trans hS.1 hF1, fun x9 q1 q2 => by rw [hF2 x9 (Nat.lt_of_lt_of_le q1 hS.1) q2]; exact hS.2.1 x9 q1 q2, fun x9 hx9 => (List.mem_append.mp hx9).elim (hS.2.2 x9) (hL x9)⟩ (by omega) (by omega) hE (T'.setVm vm') e1 X2
      exact ⟨t2, go.trans (st2 t2 a1), b3⟩
/-- System.arraycopy over rows of bytes -/
theorem pk_fb2 (r : Int8) : fits .byte (.int r.toInt32) = true := by
  have h := pk_fb r.toInt32
  rwa [Int8.toInt8_toInt32] at h
def cpI (M : MH) (src sp dst dp n : Nat) : MH := (fun b j => if b = dst ∧ dp ≤ j ∧ j < dp + n then M.1 src (sp + (j - dp)) else M.1 b j, M.2)
theorem R_copy {m pc pc' : Nat} {ls st : List MV} {M : MH} {Q : Res → MH → Prop} {a b d : Nat} {z : Int} {tb : List (Int × Nat)} {src dst : Nat} {sp dp n : Int} (hc : cod m pc = some (82, a, b, d, z, tb)) (hp : pc + 3 = pc') (hk1 : K0 src = 1 + 21) (hk2 : K0 dst = 1 + 21) (h0 : 0 ≤ sp) (h1 : 0 ≤ dp) (h2 : 0 ≤ n) (h3 : sp + n ≤ L0 src) (h4 : dp + n ≤ L0 dst) (hdp : 4 ≤ zdp m) (hr : vcs st ≤ 8)
    (h : Run m pc' ls st (cpI M src sp.toNat dst dp.toNat n.toNat) Q) : Run m pc ls (vI n :: vI dp :: vR (some dst) :: vI sp :: vR (some src) :: st) M Q := by
  subst hp
  have hd : decode (zby m) pc = .ok (.invokestatic a, 3) := (zdc hc).1
  have hw : inW (66 + z.toNat) (.methodLink (zyn m).cls a arraycopyName) = true := (zdc hc).2.1
  refine R_heap (M2 := cpI M src sp.toNat dst dp.toNat n.toNat) rfl (fun Z p l e R s mid args below meth cc Qs C H locs cells slots lr sr hl hs hH hS b1 b2 k => ?_) h
  obtain ⟨w0, ws0, rfl, ⟨rfl, g0⟩, hs0⟩ := srel_cons hs
  obtain ⟨w1, ws1, rfl, ⟨rfl, g1⟩, hs1⟩ := srel_cons hs0
  obtain ⟨w2, ws2, rfl, ⟨rfl, g2⟩, hs2⟩ := srel_cons hs1
  obtain ⟨w3, ws3, rfl, ⟨rfl, g3⟩, hs3⟩ := srel_cons hs2
  obtain ⟨w4, ws4, rfl, ⟨rfl, g4⟩, hs4⟩ := srel_cons hs3
  obtain ⟨e1, f1⟩ := arr_of hH (g4 src rfl) hk1
  obtain ⟨e2, f2⟩ := arr_of hH (g2 dst rfl) hk2
  obtain ⟨ty, a1, a2, y0, y1, y2, y3, y4⟩ := zarr C 1 (by decide)
  cases y1 rfl
  have hfr := zfr C
  have e1 : H[Z.1 + src]? = some (arrV (Z.2.2.1 1) (L0 src) (fun j => .int (Int32.ofInt (M.1 src j)))) := e1
  have e2 : H[Z.1 + dst]? = some (arrV (Z.2.2.1 1) (L0 dst) (fun j => .int (Int32.ofInt (M.1 dst j)))) := e2
  intro T hT X
  obtain ⟨-, k0, hk0, cm0, hkk0⟩ := a1 (L0 src) (fun j => .int (Int32.ofInt (M.1 src j)))
  obtain ⟨-, k1, hk1', cm1, hkk1⟩ := a1 (L0 dst) (fun j => .int (Int32.ofInt (M.1 dst j)))
  have q0 : ¬ Int32.ofInt sp < 0 := fun q => by rw [i32neg g3] at q; omega
  have q1 : ¬ Int32.ofInt dp < 0 := fun q => by rw [i32neg g1] at q; omega
  have q2 : ¬ Int32.ofInt n < 0 := fun q => by rw [i32neg g0] at q; omega
  obtain ⟨vm', X', step⟩ := X.arraycopy C.1 C.2.2.2.1 (C.2.2.2.2.1 _ (inW_ok hw)) (C.2.2.2.2.1 _ zw_ac1) (C.2.2.2.2.1 _ zw_ac2) (C.2.2.2.2.1 _ zw_sys) (src := Z.1 + src) (dst := Z.1 + dst) (srcPos := Int32.ofInt sp) (destPos := Int32.ofInt dp) (n := Int32.ofInt n) (by rw [hT]; exact e1) (by rw [hT]; exact e2)
    (fun _ h => by cases h) (fun _ h => by cases h) (fun h => by cases h) (fun h => by cases h) hk0 hk1' hkk0 hkk1 (by simp [refKind]) q0 q1 q2
    (by rw [i32t g3, i32t g0, arrV_size]; omega)
    (by rw [i32t g1, i32t g0, arrV_size]; omega)
    (fun vm₁ _ i hi => by
      rw [i32clamp g0] at hi
      have e : (arrV (Z.2.2.1 1) (L0 src) (fun j => .int (Int32.ofInt (M.1 src j)))).slots.getD ((Int32.ofInt sp).toNatClampNeg + i) .null = .int (Int32.ofInt (M.1 src (sp.toNat + i))) := by
        rw [i32clamp g3, Array.getD_eq_getD_getElem?, arrV_read _ _ (by omega)]
        rfl
      have hb9 : -128 ≤ M.1 src (sp.toNat + i) ∧ M.1 src (sp.toNat + i) < 128 := f1 _ (by omega)
      refine ⟨?_, ?_⟩
      · rw [e, ← i8w hb9]
        exact pk_fb2 _
      · rw [e]
        exact trivial)
    (g := F0 mid pc lr (.int (Int32.ofInt n) :: .int (Int32.ofInt dp) :: .ref (Z.1 + dst) :: .int (Int32.ofInt sp) :: .ref (Z.1 + src) :: ws4)) rfl (by rw [C.2.2.1]; exact hl.1) (rest := ws4) rfl (by rw [C.2.1]; exact hd) (by omega) (by
      show 2 * 0 + (ws4.map fun v => v.category).sum + (nativeFrameWords "java/lang/System" "arraycopy" 5 + 11) ≤ R.locals
      rw [vcs_ok hs4]
      have h9 : nativeFrameWords "java/lang/System" "arraycopy" 5 ≤ 100 := by decide
      omega)
  have e3 : copied (arrV (Z.2.2.1 1) (L0 src) (fun j => .int (Int32.ofInt (M.1 src j)))) (arrV (Z.2.2.1 1) (L0 dst) (fun j => .int (Int32.ofInt (M.1 dst j)))) (Int32.ofInt sp) (Int32.ofInt dp) (Int32.ofInt n) = arrV (Z.2.2.1 1) (L0 dst) (fun j => .int (Int32.ofInt (va_cpy (M.1 src) (M.1 dst) sp.toNat dp.toNat n.toNat j))) := by
    unfold copied
    rw [i32clamp g3, i32clamp g1, i32clamp g0]
    exact va_copied (fun z => Value.int (Int32.ofInt z)) _ _ (M.1 src) (M.1 dst) (by omega)
  rw [e3] at X' step
  have hlt : Z.1 + dst < H.size := (Array.getElem?_eq_some_iff.mp e2).1
  have hheap : ((T.setVm vm').setCell (Z.1 + dst) (arrV (Z.2.2.1 1) (L0 dst) (fun j => .int (Int32.ofInt (va_cpy (M.1 src) (M.1 dst) sp.toNat dp.toNat n.toNat j))))).heap = H.setIfInBounds (Z.1 + dst) (arrV (Z.2.2.1 1) (L0 dst) (fun j => .int (Int32.ofInt (va_cpy (M.1 src) (M.1 dst) sp.toNat dp.toNat n.toNat j)))) := by rw [← hT]; rfl
  have oq : ∀ q : Nat, q ≠ Z.1 + dst → (H.setIfInBounds (Z.1 + dst) (arrV (Z.2.2.1 1) (L0 dst) (fun j => .int (Int32.ofInt (va_cpy (M.1 src) (M.1 dst) sp.toNat dp.toNat n.toNat j)))))[q]? = H[q]? := fun q hq => by simp [Array.getElem?_setIfInBounds, Ne.symm hq]
  have hcp : ∀ j, (cpI M src sp.toNat dst dp.toNat n.toNat).1 dst j = va_cpy (M.1 src) (M.1 dst) sp.toNat dp.toNat n.toNat j := by
    intro j
    unfold cpI va_cpy
    simp
  obtain ⟨t, a9, b9⟩ := k _ _ lr _ hl hs4 (HRel_put (q := dst) hH rfl (fun a' hne k' => by simp [cpI, hne]) (fun a' hne k' => rfl) (by simp) oq (celR_arr hk2 ⟨by
      simp only [hcp]
      rw [Array.getElem?_setIfInBounds, if_pos rfl, if_pos hlt]
      rfl, fun j hj => by
      rw [hcp]
      unfold va_cpy
      split
      · exact f1 _ (by omega)
      · exact f2 j hj⟩)) ⟨by simp; exact hS.1, fun q g1 g2 => by
      rw [oq q (fun e => g2 (by rw [e]; exact Nat.le_add_right _ _))]
      exact hS.2.1 q g1 g2, fun q hq => by
      rcases List.mem_append.mp hq with h | h
      · exact hS.2.2 q h
      · obtain ⟨z, -, hz⟩ := List.mem_map.mp h
        rw [← hz]
        exact Nat.le_add_right _ _⟩ _ hheap X'
  exact ⟨t, step t a9, b9⟩
end
section
/-! THE CLAIM OUT OF ONE WALK OF THE LAW'S BODY. Your part is whole_start (and what it stands on); all else here is the same for every law, but numbers. -/
def R_law : String := "RepairScanLaw"
def lw_P (b : Addr) (xs : List Int32) (args : Array Value) (s : State) : Prop := args = #[.ref b] ∧ s.IntsAt b xs ∧ xs.length ≤ 144 ∧ (Jvm.Cond.and given_1 narrow_1).before args s = true
def lw_Q (_ : Array Value) (s : State) (o : Outcome) (t : State) : Prop := o = .returned (some (.int 1)) ∧ Framed s o t [] 600096 7301386
def lw_Z (below : List Frame) (a : Array Value) (s : State) : State → Prop := fun t => ∃ o, t.status = .running ∧ Ended t below o ∧ lw_Q a s o t
/-- the law's own end, with 1 on the stack, nothing written that was there before, its room as the claim has it -/
theorem lw_ret {p : Program} {l : Launch} {e : Env} {s : State} {m : MethodId} {below : List Frame} {meth : Method} {c : Code} {b : Nat} (hx : p.tables.exec = Jvm.exec) (hb : c.code = code) (hr : meth.sig.returnType = ret) (hlocks : meth.locks = false) {pc : Nat} {H : Heap} {ls : Array Slot} (hdg : decode code pc = .ok (.ireturn, 1)) : W p l e room_1 s m #[Value.ref b] below meth c H [] 600096 7301386 (lw_Z below #[Value.ref b] s) (F0 m pc ls [.int 1]) := by
  intro T hT X
  obtain ⟨fs, hret, hrun, hended, hW, hframe⟩ := X.leave (v := some (.int 1)) (hlocks := hlocks) (fun h => by rw [hr] at h; cases h)
  have hmeth' : T.vm.method? m = some meth := X.method'
  refine ⟨T.setFrames fs, ?_, .returned (some (.int 1)), hrun, hended, rfl, ⟨_, rfl⟩, hW, hframe⟩
  jvm_step X.here [X.here.top, hx, hb, hdg, hmeth', hr, ret, narrow_b1]
  (try refine ⟨rfl, ?_⟩); (try refine ⟨rfl, ?_⟩)
  first | (intro acts; rw [hret _ acts rfl rfl rfl]) | rw [hret _ _ rfl rfl rfl]
  exact Steps.refl _
/-- what holds at the law's entry: the machine, the code, the tables' words (any of lw_tbl by 'hts w (by decide +kernel)'), the script of L ints xs at the cell b, what the Statement gives of the start (any of its parts by flat_of_before) -/
def lw_At (p : Program) (s : State) (m : MethodId) (meth : Method) (c : Code) (b L : Nat) (xs : Nat → Int32) : Prop :=
  p.tables.exec = Jvm.exec ∧ c.code = code ∧ meth.sig.returnType = ret ∧ c.maxLocals = 8 ∧ s.vm.findClass R_law = some m.cls ∧ (∀ w ∈ lw_tbl, w.before #[Value.ref b] s = true) ∧ va_X b L xs s s.heap ∧ b < s.heap.size ∧ meth.locks = false ∧ (Jvm.Cond.and given_1 narrow_1).before #[Value.ref b] s = true
end
section
/-! the start: what the Statement gives is what the mini machine stands on -/
def nar : List Cond := flatC (Jvm.Cond.and given_1 narrow_1)
def tmS (i : Nat) : Term := .string (zso i).1 (zso i).2.1
def nexL : List Nat := [63, 70, 82, 99, 107, 119, 136, 156, 175, 204, 225, 240, 258, 280, 304, 324, 348, 376, 403, 430, 458, 489, 519, 550, 583]
def npL : List (List Nat) := [[0, 81, 97, 104, 115, 131, 150, 168, 196, 216, 230, 247, 268, 291, 310, 333, 360, 386, 412, 439, 469, 498, 528, 560, 596], [81, 0, 98, 105, 116, 132, 151, 169, 197, 217, 231, 248, 269, 292, 311, 334, 361, 387, 413, 440, 470, 499, 529, 561, 597], [97, 98, 0, 106, 117, 133, 152, 170, 198, 218, 232, 249, 270, 293, 312, 335, 362, 388, 414, 441, 471, 500, 530, 562, 598], [104, 105, 106, 0, 118, 134, 153, 171, 199, 219, 233, 250, 271, 294, 313, 336, 363, 389, 415, 442, 472, 501, 531, 563, 599], [115, 116, 117, 118, 0, 135, 154, 172, 200, 220, 234, 251, 272, 295, 314, 337, 364, 390, 416, 443, 473, 502, 532, 564, 600], [131, 132, 133, 134, 135, 0, 155, 173, 201, 221, 235, 252, 273, 296, 315, 338, 365, 391, 417, 444, 474, 503, 533, 565, 601], [150, 151, 152, 153, 154, 155, 0, 174, 202, 222, 236, 253, 274, 297, 316, 339, 366, 392, 418, 445, 475, 504, 534, 566, 602], [168, 169, 170, 171, 172, 173, 174, 0, 203, 223, 237, 254, 275, 298, 317, 340, 367, 393, 419, 446, 476, 505, 535, 567, 603], [196, 197, 198, 199, 200, 201, 202, 203, 0, 224, 238, 255, 276, 299, 318, 341, 368, 394, 420, 447, 477, 506, 536, 568, 604], [216, 217, 218, 219, 220, 221, 222, 223, 224, 0, 239, 256, 277, 300, 319, 342, 369, 395, 421, 448, 478, 507, 537, 569, 605], [230, 231, 232, 233, 234, 235, 236, 237, 238, 239, 0, 257, 278, 301, 320, 343, 370, 396, 422, 449, 479, 508, 538, 570, 606], [247, 248, 249, 250, 251, 252, 253, 254, 255, 256, 257, 0, 279, 302, 321, 344, 371, 397, 423, 450, 480, 509, 539, 571, 607], [268, 269, 270, 271, 272, 273, 274, 275, 276, 277, 278, 279, 0, 303, 322, 345, 372, 398, 424, 451, 481, 510, 540, 572, 608], [291, 292, 293, 294, 295, 296, 297, 298, 299, 300, 301, 302, 303, 0, 323, 346, 373, 399, 425, 452, 482, 511, 541, 573, 609], [310, 311, 312, 313, 314, 315, 316, 317, 318, 319, 320, 321, 322, 323, 0, 347, 374, 400, 426, 453, 483, 512, 542, 574, 610], [333, 334, 335, 336, 337, 338, 339, 340, 341, 342, 343, 344, 345, 346, 347, 0, 375, 401, 427, 454, 484, 513, 543, 575, 611], [360, 361, 362, 363, 364, 365, 366, 367, 368, 369, 370, 371, 372, 373, 374, 375, 0, 402, 428, 455, 485, 514, 544, 576, 612], [386, 387, 388, 389, 390, 391, 392, 393, 394, 395, 396, 397, 398, 399, 400, 401, 402, 0, 429, 456, 486, 515, 545, 577, 613], [412, 413, 414, 415, 416, 417, 418, 419, 420, 421, 422, 423, 424, 425, 426, 427, 428, 429, 0, 457, 487, 516, 546, 578, 614], [439, 440, 441, 442, 443, 444, 445, 446, 447, 448, 449, 450, 451, 452, 453, 454, 455, 456, 457, 0, 488, 517, 547, 579, 615], [469, 470, 471, 472, 473, 474, 475, 476, 477, 478, 479, 480, 481, 482, 483, 484, 485, 486, 487, 488, 0, 518, 548, 580, 616], [498, 499, 500, 501, 502, 503, 504, 505, 506, 507, 508, 509, 510, 511, 512, 513, 514, 515, 516, 517, 518, 0, 549, 581, 617], [528, 529, 530, 531, 532, 533, 534, 535, 536, 537, 538, 539, 540, 541, 542, 543, 544, 545, 546, 547, 548, 549, 0, 582, 618], [560, 561, 562, 563, 564, 565, 566, 567, 568, 569, 570, 571, 572, 573, 574, 575, 576, 577, 578, 579, 580, 581, 582, 0, 619], [596, 597, 598, 599, 600, 601, 602, 603, 604, 605, 606, 607, 608, 609, 610, 611, 612, 613, 614, 615, 616, 617, 618, 619, 0]]
def nk1 (i : Nat) : Bool := decide (nar[nexL.getD i 0]? = some (.exactly (tmS i) "java/lang/String")) && decide (nar[nexL.getD i 0 + 1]? = some (.eq (.field (tmS i) "java/lang/String" "coder" "B") (.int 0))) && decide (nar[nexL.getD i 0 + 2]? = some (.arrayOf (.field (tmS i) "java/lang/String" "value" "[B") .byte)) && decide (nar[nexL.getD i 0 + 3]? = some (.eq (.length (.field (tmS i) "java/lang/String" "value" "[B")) (.int (Int32.ofNat (zsl.getD i 0))))) && (List.range (zsl.getD i 0)).all (fun j => decide (nar[nexL.getD i 0 + 4 + j]? = some (.eq (.elem (.field (tmS i) "java/lang/String" "value" "[B") (.int (Int32.ofNat j))) (.int ((zsb.getD i []).getD j 0)))))
theorem nk1A : (List.range 25).all nk1 = true := by decide +kernel
def nk2 (i j : Nat) : Bool := decide (i = j) || decide (nar[(npL.getD i []).getD j 0]? = some (.not (.eq (tmS i) (tmS j)))) || decide (nar[(npL.getD i []).getD j 0]? = some (.not (.eq (tmS j) (tmS i))))
theorem nk2A : (List.range 25).all (fun i => (List.range 25).all (nk2 i)) = true := by decide +kernel
theorem nar_at {args : Array Value} {s : State} (h : (Jvm.Cond.and given_1 narrow_1).before args s = true) {i : Nat} {w : Cond} (hw : nar[i]? = some w) : w.before args s = true := flat_of_before _ h w (List.mem_of_getElem? hw)
theorem start_S {args : Array Value} {s : State} (h : (Jvm.Cond.and given_1 narrow_1).before args s = true) {A : Nat → Prop} (hA : ∀ a : Nat, a < s.heap.size → ¬ A a) : ∃ adK adV : Nat → Nat, vk_S 25 zsl zsb adK adV A s s.heap ∧ ∀ i : Nat, i < 25 → (tmS i).eval args s none [] s = some (.ref (adK i)) := by
  have h1 : ∀ i, i < 25 → nk1 i = true := fun i hi => List.all_eq_true.mp nk1A i (List.mem_range.mpr hi)
  have h2 : ∀ i j, i < 25 → j < 25 → nk2 i j = true := fun i j hi hj => List.all_eq_true.mp (List.all_eq_true.mp nk2A i (List.mem_range.mpr hi)) j (List.mem_range.mpr hj)
  have h1' : ∀ i, i < 25 → (nar[nexL.getD i 0]? = some (.exactly (tmS i) "java/lang/String") ∧ nar[nexL.getD i 0 + 1]? = some (.eq (.field (tmS i) "java/lang/String" "coder" "B") (.int 0)) ∧ nar[nexL.getD i 0 + 2]? = some (.arrayOf (.field (tmS i) "java/lang/String" "value" "[B") .byte) ∧ nar[nexL.getD i 0 + 3]? = some (.eq (.length (.field (tmS i) "java/lang/String" "value" "[B")) (.int (Int32.ofNat (zsl.getD i 0)))) ∧ ∀ j, j < zsl.getD i 0 → nar[nexL.getD i 0 + 4 + j]? = some (.eq (.elem (.field (tmS i) "java/lang/String" "value" "[B") (.int (Int32.ofNat j))) (.int ((zsb.getD i []).getD j 0)))) := by
    intro i hi
    have q := h1 i hi
    unfold nk1 at q
    simp only [Bool.and_eq_true, decide_eq_true_eq] at q
    exact ⟨q.1.1.1.1, q.1.1.1.2, q.1.1.2, q.1.2, fun j hj => of_decide_eq_true (List.all_eq_true.mp q.2 j (List.mem_range.mpr hj))⟩
  refine vk_Sof (fun i hi => by have := @zlen_lt i; rw [zsl_at hi]; omega) (fun i hi => nar_at h (h1' i hi).1) (fun i hi => nar_at h (h1' i hi).2.1) (fun i hi => nar_at h (h1' i hi).2.2.1) (fun i hi => nar_at h (h1' i hi).2.2.2.1) (fun i hi j hj => nar_at h ((h1' i hi).2.2.2.2 j hj)) (fun i j hi hj hne => ?_) hA
  have q := h2 i j hi hj
  unfold nk2 at q
  simp only [Bool.or_eq_true, decide_eq_true_eq] at q
  rcases q with (q | q) | q
  · exact absurd q hne
  · exact Or.inl (nar_at h q)
  · exact Or.inr (nar_at h q)
theorem start_K {args : Array Value} {s : State} (hts : ∀ w ∈ lw_tbl, w.before args s = true) : ∃ (D : va_G) (cA : Nat → ClassId), va_K D zcl [(cA 0, .int), (cA 1, .byte), (cA 2, .boolean), (cA 3, .long), (cA 4, .object "RepairScan$Found")] s := by
  have hg : ∀ w ∈ gW, w.before args s = true := fun w hw => hts w (List.mem_filter.mp hw).1
  have h0 : ∀ b : Nat, ∃ q : ClassId × (Nat → Nat), b < 10 → u_Kn s (zcn b) (zT b) (znF b) q.1 q.2 := by
    intro b
    by_cases hb : b < 10
    · have hcl := zclk_at hb
      unfold zclk at hcl
      simp only [Bool.and_eq_true] at hcl
      obtain ⟨cC, iS, h⟩ := u_known (N := znF b) hg (zin_at hb) (hg _ (inW_ok hcl.1.2))
      exact ⟨(cC, iS), fun _ => h⟩
    · exact ⟨(0, fun _ => 0), fun h => absurd h hb⟩
  obtain ⟨f, hf⟩ := Classical.axiomOfChoice h0
  have prim : ∀ ty : FieldType, Cond.arrayClass ty ∈ gW → ∃ c : ClassId, ArrOfT s c ty ∧ s.vm.findClass ("[" ++ ty.toString) = some c := by
    intro ty hw
    obtain ⟨c, k, comp, h1, h2, h3⟩ := Cond.arrayClass_spec (hg _ hw)
    exact ⟨c, fun n z => ⟨(fun _ h => by cases h), k, h2, comp, h3⟩, h1⟩
  obtain ⟨c0, a0, r0⟩ := prim .int zw_ac_int
  obtain ⟨c1, a1, r1⟩ := prim .byte zw_ac_byte
  obtain ⟨c2, a2, r2⟩ := prim .boolean zw_ac_boolean
  obtain ⟨c3, a3, r3⟩ := prim .long zw_ac_long
  obtain ⟨comp, c4, k4, h1, h2, h3, h4, h5⟩ := Cond.arrayOver_spec (hts _ zw_ao)
  refine ⟨(fun b => (f b).1, fun b => (f b).2), fun t => if t = 0 then c0 else if t = 1 then c1 else if t = 2 then c2 else if t = 3 then c3 else c4, fun c q hq => ?_, fun k q hq => ?_⟩
  · have hc : c < 10 := by
      have := (List.getElem?_eq_some_iff.mp hq).1
      simpa [zcl] using this
    rw [zcl_at hc] at hq
    cases hq
    exact hf c hc
  · match k, hq with
    | 0, hq => cases hq; exact ⟨a0, r0⟩
    | 1, hq => cases hq; exact ⟨a1, r1⟩
    | 2, hq => cases hq; exact ⟨a2, r2⟩
    | 3, hq => cases hq; exact ⟨a3, r3⟩
    | 4, hq => cases hq; exact ⟨fun n z => ⟨(fun _ h => by cases h), k4, h3, comp, h4⟩, k4, comp, h3, h4, h1, by first | exact h5 | exact h2⟩
    | k + 5, hq => simp at hq
theorem zs_1 : Cond.laysStatic "java/lang/String" "COMPACT_STRINGS" "Z" ∈ lw_tbl := inV_ok (i := 481) (by decide +kernel)
theorem zs_2 : Cond.laysStatic Bundle.tN "UNASSIGNED_STACK" Bundle.steD ∈ lw_tbl := inV_ok (i := 847) (by decide +kernel)
theorem zs_3 : Cond.laysStatic Bundle.tN "SUPPRESSED_SENTINEL" Bundle.listD ∈ lw_tbl := inV_ok (i := 849) (by decide +kernel)
theorem zs_4 : Cond.laysStatic "jdk/internal/util/Preconditions" "SIOOBE_FORMATTER" "Ljava/util/function/BiFunction;" ∈ lw_tbl := inV_ok (i := 497) (by decide +kernel)
theorem zs_5 : Cond.initialized Bundle.tN ∈ lw_tbl := inV_ok (i := 77) (by decide +kernel)
theorem zn_1 : nar[4]? = some (.eq (.static "java/lang/String" "COMPACT_STRINGS" "Z") (.int 1)) := by decide +kernel
theorem zn_2 : nar[9]? = some (.isRef (.static Bundle.tN "UNASSIGNED_STACK" Bundle.steD)) := by decide +kernel
theorem zn_3 : nar[10]? = some (.isRef (.static Bundle.tN "SUPPRESSED_SENTINEL" Bundle.listD)) := by decide +kernel
theorem zn_4 : nar[5]? = some (.isRef (.static "jdk/internal/util/Preconditions" "SIOOBE_FORMATTER" "Ljava/util/function/BiFunction;")) := by decide +kernel
theorem zn_5 : nar[49]? = some (.not (.castable (zex 3) (zex 2))) := by decide +kernel
theorem start_E {s : State} {b L : Nat} {xs : Nat → Int32} (hts : ∀ w ∈ lw_tbl, w.before #[Value.ref b] s = true) (hX : va_X b L xs s s.heap) (hb : b < s.heap.size) (h : (Jvm.Cond.and given_1 narrow_1).before #[Value.ref b] s = true) : ∃ Z : EP, Z.1 = s.heap.size ∧ Z.2.2.2.2.2.1 = b ∧ Z.2.2.2.2.2.2.1 = L ∧ Z.2.2.2.2.2.2.2 = xs ∧ Ev Z s s.heap := by
  have hg : ∀ w ∈ gW, w.before #[Value.ref b] s = true := fun w hw => hts w (List.mem_filter.mp hw).1
  obtain ⟨D, cA, hK⟩ := start_K hts
  have hA : ∀ a : Nat, a < s.heap.size → ¬ (fun q => s.heap.size ≤ q) a := fun a ha hq => by have hq : s.heap.size ≤ a := hq; omega
  obtain ⟨adK, adV, hS, hev⟩ := start_S h hA
  refine ⟨(s.heap.size, D, cA, adK, adV, b, L, xs), rfl, rfl, rfl, rfl, hK, hS, fun i hi => vk_R.of (hts _ (zw_str i hi)) (hev i hi), va_Zof (hts _ zs_1) (hg _ jn_S) (va_eqt (nar_at h zn_1)) hA, vx_Zqof (hts _ zs_2) (hts _ zs_5) (nar_at h zn_2) hA, vx_Zqof (hts _ zs_3) (hts _ zs_5) (nar_at h zn_3) hA, fun w hw => ?_, va_AO.of (hts _ zw_ao), va_Nc.of (nar_at h zn_5), hX, hb, hA b hb, (vx_Zqof (hts _ zs_4) (hg _ jn_P) (nar_at h zn_4) hA).1⟩
  obtain ⟨h1, h2⟩ := List.mem_filter.mp hw
  refine va_Nw.of ?_ (hts w h1)
  cases w <;> first | rfl | (simp [zNest] at h2)
/-- THE LAW'S BODY OUT OF ONE RUN OF THE MINI MACHINE -/
def lawM (L : Nat) (xs : Nat → Int) : MH := (fun _ _ => 0, fun _ _ => none, 0, 0, L, xs)
theorem law_start {p : Program} {e : Env} {s : State} {m : MethodId} {below : List Frame} {meth : Method} {c : Code} (l : Launch) (hl : l.stackTraces = false) {b L : Nat} {xs : Nat → Int32} (hL : L ≤ 144) (C0 : lw_At p s m meth c b L xs) (hne : c.exceptionTable.isEmpty = true)
    (hrun : Run 147 0 [vS 100, vJ, vJ, vJ, vJ, vJ, vJ, vJ] [] (lawM L (fun j => (xs j).toInt)) (fun r M' => r = .inl (some (vI 1)) ∧ cst M' ≤ 600000 ∧ sst M' ≤ 7000000)) : W p l e room_1 s m #[Value.ref b] below meth c s.heap [] 0 0 (lw_Z below #[Value.ref b] s) (entryFrame m ([Value.ref b] : List Value).toArray 8) := by
  obtain ⟨hx, hcode, hr, hml, hown, hts, hX, hbl, hlocks, hgv⟩ := C0
  obtain ⟨Z, z1, z2, z3, z4, hE⟩ := start_E hts hX hbl hgv
  obtain ⟨r, M', ⟨rfl, hc1, hc2⟩, hm, hR⟩ := hrun
  have htab : c.exceptionTable.toList = [] := by
    rw [Array.isEmpty_iff] at hne
    rw [hne]
  have C : Cx 147 Z p l e room_1 s m #[Value.ref b] below meth c := ⟨hx, hcode, hml, hown, fun w hw => hts w (List.mem_filter.mp hw).1, hr, hlocks, fun h => absurd h (by decide), by rw [htab]; rfl, by decide, by decide, hl, hE, by omega⟩
  rw [lg_entry_eq]
  have hs : srel Z 0 [vS 100] [Value.ref b] := ⟨Or.inr ⟨rfl, by rw [z2]⟩, trivial⟩
  have hent := ent_rel (m := 147) hs (by decide)
  refine hR Z p l e room_1 s m _ below meth c _ C s.heap [] 0 0 _ [] hent trivial ⟨fun _ => z1.symm, by rw [z1]; exact Nat.le_refl _, fun a ha => absurd ha (Nat.not_lt_zero a), z3.symm, by show L < 2147483648; omega, fun j hj => ?_⟩ va_S.rf ?_ ?_ ?_
  · rw [z4]
    refine ⟨(Int32.ofInt_toInt (xs j)).symm, ?_⟩
    have h1 := Int32.le_toInt (xs j)
    have h2 := Int32.toInt_lt (xs j)
    constructor
    · show -2147483648 ≤ (xs j).toInt
      omega
    · show (xs j).toInt < 2147483648
      omega
  · show 0 + cst M' + 0 ≤ 600096 + 0
    omega
  · show 0 + sst M' + 6 * 0 ≤ 7301386 + 0
    omega
  · intro H locs cells slots pc lr sr st he hs hlr hH hS b1 b2 _
    obtain ⟨rfl, hv⟩ := he
    obtain ⟨w, ws, rfl, hw, hn⟩ := srel_cons hs
    rw [srel_nil hn]
    rcases hv with ⟨z, hz, -, a', b', d', z', tb, hc⟩ | ⟨z, hz, -⟩ | ⟨q, hz, -⟩
    · obtain ⟨rfl, -⟩ := hw
      refine va_forget (fun q hq => by have := hS.2.2 q hq; have h9 : Z.1 ≤ q.base := this; omega) ?_
      refine W.widen b1 b2 ?_
      exact lw_ret hx hcode hr hlocks ((zdc hc).1 : decode (zby 147) pc = .ok (.ireturn, 1))
    · cases hz
    · cases hz
end
section
/-! states after the constructors: numbers I, moving references D, the rest stands still -/
abbrev HI : Type := Nat → Nat → Int
abbrev HD : Type := Nat → Nat → Nat
/-- exceptions so far, the script's length, the script, the references that stand still -/
abbrev En : Type := Nat × Nat × (Nat → Int) × (Nat → Nat → Option Nat)
def uI (I : HI) (a k : Nat) (z : Int) : HI := fun b j => if b = a ∧ j = k then z else I b j
def uD (D : HD) (a k v : Nat) : HD := fun b j => if b = a ∧ j = k then v else D b j
def cI (I : HI) (src sp dst dp n : Nat) : HI := fun b j => if b = dst ∧ dp ≤ j ∧ j < dp + n then I src (sp + (j - dp)) else I b j
theorem uI_eq {I : HI} {a k : Nat} {z : Int} : uI I a k z a k = z := if_pos ⟨rfl, rfl⟩
theorem uI_ne {I : HI} {a k b j : Nat} {z : Int} (h : ¬ (b = a ∧ j = k)) : uI I a k z b j = I b j := if_neg h
theorem uD_eq {D : HD} {a k v : Nat} : uD D a k v a k = v := if_pos ⟨rfl, rfl⟩
theorem uD_ne {D : HD} {a k b j v : Nat} (h : ¬ (b = a ∧ j = k)) : uD D a k v b j = D b j := if_neg h
theorem uI_uI {I : HI} {a k : Nat} {z y : Int} : uI (uI I a k z) a k y = uI I a k y := by
  funext b j
  by_cases h : b = a ∧ j = k
  · obtain ⟨rfl, rfl⟩ := h; rw [uI_eq, uI_eq]
  · rw [uI_ne h, uI_ne h, uI_ne h]
theorem uI_self {I : HI} {a k : Nat} {z : Int} (h : I a k = z) : uI I a k z = I := by
  funext b j
  by_cases h2 : b = a ∧ j = k
  · obtain ⟨rfl, rfl⟩ := h2; rw [uI_eq, h]
  · rw [uI_ne h2]
theorem uI_comm {I : HI} {a k b j : Nat} {z y : Int} (h : ¬ (b = a ∧ j = k)) : uI (uI I a k z) b j y = uI (uI I b j y) a k z := by
  funext c i
  by_cases h1 : c = a ∧ i = k
  · obtain ⟨rfl, rfl⟩ := h1
    rw [uI_eq, uI_ne (fun q => h ⟨q.1.symm, q.2.symm⟩), uI_eq]
  · by_cases h2 : c = b ∧ i = j
    · obtain ⟨rfl, rfl⟩ := h2; rw [uI_eq, uI_ne h1, uI_eq]
    · rw [uI_ne h2, uI_ne h1, uI_ne h1, uI_ne h2]
def dyn (a k : Nat) : Bool := (a == 1 && k == 4) || ((a == 26 || a == 177) && k == 3) || ((a == 8 || a == 159) && k == 10) || ((a == 29 || a == 180) && Nat.blt k 61)
def mk (e : En) (I : HI) (D : HD) : MH := (I, fun a k => if dyn a k = true then some (D a k) else e.2.2.2 a k, 342, e.1, e.2.1, e.2.2.1)
def zrL : List (List Nat) := [[7, 0, 8, 159, 310], [2, 3, 4, 5, 0], [], [], [], [], [], [], [1, 9, 0, 10, 14, 18, 22, 26, 28, 29, 0, 0, 0, 0, 0, 0, 154], [], [11, 12, 13], [], [], [], [15, 16, 17], [], [], [], [19, 20, 21], [], [], [], [23, 24, 25], [], [], [], [1, 10, 14, 0], [], [], [], [31], [], [33], [], [35], [], [37], [], [39], [], [41], [], [43], [], [45], [], [47], [], [49], [], [51], [], [53], [], [55], [], [57], [], [59], [], [61], [], [63], [], [65], [], [67], [], [69], [], [71], [], [73], [], [75], [], [77], [], [79], [], [81], [], [83], [], [85], [], [87], [], [89], [], [91], [], [93], [], [95], [], [97], [], [99], [], [101], [], [103], [], [105], [], [107], [], [109], [], [111], [], [113], [], [115], [], [117], [], [119], [], [121], [], [123], [], [125], [], [127], [], [129], [], [131], [], [133], [], [135], [], [137], [], [139], [], [141], [], [143], [], [145], [], [147], [], [149], [], [151], [], [153], [], [155, 0, 156, 157, 158], [], [], [], [], [1, 160, 0, 161, 165, 169, 173, 177, 179, 180, 0, 0, 0, 0, 0, 0, 305], [], [162, 163, 164], [], [], [], [166, 167, 168], [], [], [], [170, 171, 172], [], [], [], [174, 175, 176], [], [], [], [1, 161, 165, 0], [], [], [], [182], [], [184], [], [186], [], [188], [], [190], [], [192], [], [194], [], [196], [], [198], [], [200], [], [202], [], [204], [], [206], [], [208], [], [210], [], [212], [], [214], [], [216], [], [218], [], [220], [], [222], [], [224], [], [226], [], [228], [], [230], [], [232], [], [234], [], [236], [], [238], [], [240], [], [242], [], [244], [], [246], [], [248], [], [250], [], [252], [], [254], [], [256], [], [258], [], [260], [], [262], [], [264], [], [266], [], [268], [], [270], [], [272], [], [274], [], [276], [], [278], [], [280], [], [282], [], [284], [], [286], [], [288], [], [290], [], [292], [], [294], [], [296], [], [298], [], [300], [], [302], [], [304], [], [306, 0, 307, 308, 309], [], [], [], [], [311], [], [0, 0, 313, 0, 0, 314, 315, 316, 317, 318, 319, 320, 321, 322, 323, 324, 325, 0, 326, 327, 328, 329, 330, 331, 332, 0, 0, 0, 0, 0, 0, 0, 0, 0, 0, 0, 0, 0, 0, 333, 334, 335, 0, 336, 337, 0, 0, 0, 0, 0, 0, 0, 338, 339, 0, 340], [], [], [], [], [], [], [], [], [], [], [], [], [], [], [], [], [], [], [], [], [], [], [], [], [], [], [], [], []]
def srf (a k : Nat) : Nat := (zrL.getD a []).getD k 0
def HS (e : En) : Prop := ∀ a k, dyn a k = false → srf a k ≠ 0 → e.2.2.2 a k = some (srf a k)
def isA (A : Nat) : Prop := A = 8 ∨ A = 159
theorem st_at {e : En} {I : HI} {D : HD} {a k v : Nat} (he : HS e) (h1 : dyn a k = false) (h2 : srf a k = v) (h3 : v ≠ 0) : (mk e I D).2.1 a k = some v := by
  subst h2
  show (if dyn a k = true then some (D a k) else e.2.2.2 a k) = _
  rw [h1]
  exact he a k h1 h3
theorem dy_at {e : En} {I : HI} {D : HD} {a k : Nat} (h1 : dyn a k = true) : (mk e I D).2.1 a k = some (D a k) := by
  show (if dyn a k = true then some (D a k) else e.2.2.2 a k) = _
  rw [h1]; rfl
theorem mk_sI {e : En} {I : HI} {D : HD} {a k : Nat} {z : Int} : sI (mk e I D) a k z = mk e (uI I a k z) D := rfl
theorem mk_sR {e : En} {I : HI} {D : HD} {a k v : Nat} (h : dyn a k = true) : sR (mk e I D) a k (some v) = mk e I (uD D a k v) := by
  have : (fun b j => if b = a ∧ j = k then some v else (mk e I D).2.1 b j) = (mk e I (uD D a k v)).2.1 := by
    funext b j
    show _ = if dyn b j = true then some (uD D a k v b j) else e.2.2.2 b j
    by_cases h2 : b = a ∧ j = k
    · obtain ⟨rfl, rfl⟩ := h2
      rw [if_pos ⟨rfl, rfl⟩, if_pos h, uD_eq]
    · rw [if_neg h2, uD_ne h2]; rfl
  unfold sR
  rw [this]; rfl
theorem K0_lt {q : Nat} (h : K0 q ≠ 0) : q < 342 := by
  rcases Nat.lt_or_ge q 342 with h1 | h1
  · exact h1
  · exfalso; apply h; unfold K0
    rw [List.getD_eq_getElem?_getD, List.getElem?_eq_none (by have : zkL.length = 342 := by decide +kernel
                                                              omega)]; rfl
def ckF (q : Nat) : Bool := K0 q != 3 || (K0 (q + 1) == 1 && srf q 0 == q + 1 && !dyn q 0)
theorem ckF_all : (List.range 342).all ckF = true := by decide +kernel
theorem kF {q : Nat} (h : K0 q = 3) : K0 (q + 1) = 1 ∧ srf q 0 = q + 1 ∧ dyn q 0 = false := by
  have := List.all_eq_true.mp ckF_all q (List.mem_range.mpr (K0_lt (by omega)))
  simpa [ckF, h, and_assoc] using this
def ckMk (q : Nat) : Bool := K0 q != 4 || (K0 (q + 1) == 21 && K0 (q + 2) == 21 && K0 (q + 3) == 21 && srf q 0 == q + 1 && srf q 1 == q + 2 && srf q 2 == q + 3 && !dyn q 0 && !dyn q 1 && !dyn q 2 && L0 (q + 2) == L0 (q + 1) && L0 (q + 3) == L0 (q + 1))
theorem ckMk_all : (List.range 342).all ckMk = true := by decide +kernel
theorem kM {q : Nat} (h : K0 q = 4) : K0 (q + 1) = 21 ∧ K0 (q + 2) = 21 ∧ K0 (q + 3) = 21 ∧ srf q 0 = q + 1 ∧ srf q 1 = q + 2 ∧ srf q 2 = q + 3 ∧ dyn q 0 = false ∧ dyn q 1 = false ∧ dyn q 2 = false ∧ L0 (q + 2) = L0 (q + 1) ∧ L0 (q + 3) = L0 (q + 1) := by
  have := List.all_eq_true.mp ckMk_all q (List.mem_range.mpr (K0_lt (by omega)))
  simpa [ckMk, h, and_assoc] using this
theorem gF0 {e : En} {I : HI} {D : HD} {q : Nat} (he : HS e) (h : K0 q = 3) : (mk e I D).2.1 q 0 = some (q + 1) := st_at he (kF h).2.2 (kF h).2.1 (by omega)
theorem gM0 {e : En} {I : HI} {D : HD} {q : Nat} (he : HS e) (h : K0 q = 4) : (mk e I D).2.1 q 0 = some (q + 1) := st_at he (kM h).2.2.2.2.2.2.1 (kM h).2.2.2.1 (by omega)
theorem gM1 {e : En} {I : HI} {D : HD} {q : Nat} (he : HS e) (h : K0 q = 4) : (mk e I D).2.1 q 1 = some (q + 2) := st_at he (kM h).2.2.2.2.2.2.2.1 (kM h).2.2.2.2.1 (by omega)
theorem gM2 {e : En} {I : HI} {D : HD} {q : Nat} (he : HS e) (h : K0 q = 4) : (mk e I D).2.1 q 2 = some (q + 3) := st_at he (kM h).2.2.2.2.2.2.2.2.1 (kM h).2.2.2.2.2.1 (by omega)
theorem gA {e : En} {I : HI} {D : HD} {A : Nat} (he : HS e) (hA : isA A) (o k v : Nat) (h : (dyn (8 + o) k = false ∧ dyn (159 + o) k = false) ∧ srf (8 + o) k = 8 + v ∧ srf (159 + o) k = 159 + v) : (mk e I D).2.1 (A + o) k = some (A + v) := by
  rcases hA with rfl | rfl
  · exact st_at he h.1.1 h.2.1 (by omega)
  · exact st_at he h.1.2 h.2.2 (by omega)
theorem gA1 {e : En} {I : HI} {D : HD} {A : Nat} (he : HS e) (hA : isA A) (o : Nat) (h : (dyn (8 + o) 0 = false ∧ dyn (159 + o) 0 = false) ∧ srf (8 + o) 0 = 1 ∧ srf (159 + o) 0 = 1) : (mk e I D).2.1 (A + o) 0 = some 1 := by
  rcases hA with rfl | rfl
  · exact st_at he h.1.1 h.2.1 (by omega)
  · exact st_at he h.1.2 h.2.2 (by omega)
theorem kA {A : Nat} (hA : isA A) (o t : Nat) (h : K0 (8 + o) = t ∧ K0 (159 + o) = t) : K0 (A + o) = t := by
  rcases hA with rfl | rfl
  · exact h.1
  · exact h.2
theorem lA {A : Nat} (hA : isA A) (o t : Nat) (h : L0 (8 + o) = t ∧ L0 (159 + o) = t) : L0 (A + o) = t := by
  rcases hA with rfl | rfl
  · exact h.1
  · exact h.2
theorem dA {A : Nat} (hA : isA A) (o k : Nat) (h : dyn (8 + o) k = true ∧ dyn (159 + o) k = true) : dyn (A + o) k = true := by
  rcases hA with rfl | rfl
  · exact h.1
  · exact h.2
theorem dO {A k : Nat} (hA : isA A) (h : k < 61) : dyn (A + 21) k = true := by
  have : Nat.blt k 61 = true := by simpa [Nat.blt_eq] using h
  rcases hA with rfl | rfl <;> simp [dyn, this]
def pI (e : En) (Q : Int → HI → HD → Prop) (r : Res) (M : MH) : Prop := ∃ z I D, r = .inl (some (vI z)) ∧ M = mk e I D ∧ Q z I D
def RI (m pc : Nat) (ls st : List MV) (e : En) (I : HI) (D : HD) (Q : Int → HI → HD → Prop) : Prop := Run m pc ls st (mk e I D) (pI e Q)
def CI (m : Nat) (as : List MV) (e : En) (I : HI) (D : HD) (Q : Int → HI → HD → Prop) : Prop := Call m as (mk e I D) (pI e Q)
def pL (e : En) (Q : Int → HI → HD → Prop) (r : Res) (M : MH) : Prop := ∃ z I D, r = .inl (some (vL z)) ∧ M = mk e I D ∧ Q z I D
def RL (m pc : Nat) (ls st : List MV) (e : En) (I : HI) (D : HD) (Q : Int → HI → HD → Prop) : Prop := Run m pc ls st (mk e I D) (pL e Q)
def CL (m : Nat) (as : List MV) (e : En) (I : HI) (D : HD) (Q : Int → HI → HD → Prop) : Prop := Call m as (mk e I D) (pL e Q)
def pR (e : En) (Q : Option Nat → HI → HD → Prop) (r : Res) (M : MH) : Prop := ∃ z I D, r = .inl (some (vR z)) ∧ M = mk e I D ∧ Q z I D
def RR (m pc : Nat) (ls st : List MV) (e : En) (I : HI) (D : HD) (Q : Option Nat → HI → HD → Prop) : Prop := Run m pc ls st (mk e I D) (pR e Q)
def CR (m : Nat) (as : List MV) (e : En) (I : HI) (D : HD) (Q : Option Nat → HI → HD → Prop) : Prop := Call m as (mk e I D) (pR e Q)
def pV (e : En) (Q : HI → HD → Prop) (r : Res) (M : MH) : Prop := ∃ I D, r = .inl none ∧ M = mk e I D ∧ Q I D
def RV (m pc : Nat) (ls st : List MV) (e : En) (I : HI) (D : HD) (Q : HI → HD → Prop) : Prop := Run m pc ls st (mk e I D) (pV e Q)
def CV (m : Nat) (as : List MV) (e : En) (I : HI) (D : HD) (Q : HI → HD → Prop) : Prop := Call m as (mk e I D) (pV e Q)
def pX (e : En) (Q : Res → HI → HD → Prop) (r : Res) (M : MH) : Prop := ∃ I D, M = mk e I D ∧ Q r I D
def RX (m pc : Nat) (ls st : List MV) (e : En) (I : HI) (D : HD) (Q : Res → HI → HD → Prop) : Prop := Run m pc ls st (mk e I D) (pX e Q)
def CX (m : Nat) (as : List MV) (e : En) (I : HI) (D : HD) (Q : Res → HI → HD → Prop) : Prop := Call m as (mk e I D) (pX e Q)
theorem Call_mono {m : Nat} {as : List MV} {M : MH} {Q Q' : Res → MH → Prop} (h : Call m as M Q) (hq : ∀ r M', Q r M' → Q' r M') : Call m as M Q' := by
  obtain ⟨r, M', h1, h2⟩ := h
  exact ⟨r, M', hq r M' h1, h2⟩
theorem Run_mono {m pc : Nat} {ls st : List MV} {M : MH} {Q Q' : Res → MH → Prop} (h : Run m pc ls st M Q) (hq : ∀ r M', Q r M' → Q' r M') : Run m pc ls st M Q' := by
  obtain ⟨r, M', h1, h2⟩ := h
  exact ⟨r, M', hq r M' h1, h2⟩
/-- to know less of the locals -/
def wkP : List MV → List MV → Prop
  | [], [] => True
  | v :: vs, w :: ws => (w = v ∨ w = vJ) ∧ wkP vs ws
  | _, _ => False
theorem wkP_at {ls ls' : List MV} (h : wkP ls ls') : ls'.length = ls.length ∧ ∀ (i : Nat) (w : MV), ls'[i]? = some w → w = vJ ∨ ls[i]? = some w := by
  induction ls generalizing ls' with
  | nil =>
    cases ls' with
    | nil => exact ⟨rfl, fun i w q => by simp at q⟩
    | cons => exact h.elim
  | cons v vs ih =>
    cases ls' with
    | nil => exact h.elim
    | cons w ws =>
      obtain ⟨a, b⟩ := ih h.2
      refine ⟨by simp [a], fun i u q => ?_⟩
      cases i with
      | zero =>
        simp at q; subst q
        rcases h.1 with rfl | rfl
        · exact Or.inr rfl
        · exact Or.inl rfl
      | succ j => simpa using b j u (by simpa using q)
theorem R_forget {m pc : Nat} {ls ls' st : List MV} {M : MH} {Q : Res → MH → Prop} (hw : wkP ls ls') (h : Run m pc ls' st M Q) : Run m pc ls st M Q := by
  obtain ⟨r, M', hQ, hm, hX⟩ := h
  obtain ⟨w1, w2⟩ := wkP_at hw
  refine ⟨r, M', hQ, hm, ?_⟩
  intro Z p l e R s mid args below meth c Qs C H locs cells slots lr sr hl hs hH hS b1 b2 hE
  refine hX Z p l e R s mid args below meth c Qs C H locs cells slots lr sr ⟨hl.1, hl.2.1, by have := hl.2.2.1; omega, fun i v hv => ?_⟩ hs hH hS b1 b2 hE
  rcases w2 i v hv with q | q
  · exact Or.inl q
  · exact hl.2.2.2 i v q
theorem CI_mono {m : Nat} {as : List MV} {e : En} {I : HI} {D : HD} {Q Q' : Int → HI → HD → Prop} (h : CI m as e I D Q) (hq : ∀ z I D, Q z I D → Q' z I D) : CI m as e I D Q' :=
  Call_mono h fun r M' q => by
    obtain ⟨z, I, D, h1, h2, h3⟩ := q
    exact ⟨z, I, D, h1, h2, hq _ _ _ h3⟩
theorem RI_mono {m pc : Nat} {ls st : List MV} {e : En} {I : HI} {D : HD} {Q Q' : Int → HI → HD → Prop} (h : RI m pc ls st e I D Q) (hq : ∀ z I D, Q z I D → Q' z I D) : RI m pc ls st e I D Q' :=
  Run_mono h fun r M' q => by
    obtain ⟨z, I, D, h1, h2, h3⟩ := q
    exact ⟨z, I, D, h1, h2, hq _ _ _ h3⟩
theorem CL_mono {m : Nat} {as : List MV} {e : En} {I : HI} {D : HD} {Q Q' : Int → HI → HD → Prop} (h : CL m as e I D Q) (hq : ∀ z I D, Q z I D → Q' z I D) : CL m as e I D Q' :=
  Call_mono h fun r M' q => by
    obtain ⟨z, I, D, h1, h2, h3⟩ := q
    exact ⟨z, I, D, h1, h2, hq _ _ _ h3⟩
theorem RL_mono {m pc : Nat} {ls st : List MV} {e : En} {I : HI} {D : HD} {Q Q' : Int → HI → HD → Prop} (h : RL m pc ls st e I D Q) (hq : ∀ z I D, Q z I D → Q' z I D) : RL m pc ls st e I D Q' :=
  Run_mono h fun r M' q => by
    obtain ⟨z, I, D, h1, h2, h3⟩ := q
    exact ⟨z, I, D, h1, h2, hq _ _ _ h3⟩
theorem CR_mono {m : Nat} {as : List MV} {e : En} {I : HI} {D : HD} {Q Q' : Option Nat → HI → HD → Prop} (h : CR m as e I D Q) (hq : ∀ z I D, Q z I D → Q' z I D) : CR m as e I D Q' :=
  Call_mono h fun r M' q => by
    obtain ⟨z, I, D, h1, h2, h3⟩ := q
    exact ⟨z, I, D, h1, h2, hq _ _ _ h3⟩
theorem RR_mono {m pc : Nat} {ls st : List MV} {e : En} {I : HI} {D : HD} {Q Q' : Option Nat → HI → HD → Prop} (h : RR m pc ls st e I D Q) (hq : ∀ z I D, Q z I D → Q' z I D) : RR m pc ls st e I D Q' :=
  Run_mono h fun r M' q => by
    obtain ⟨z, I, D, h1, h2, h3⟩ := q
    exact ⟨z, I, D, h1, h2, hq _ _ _ h3⟩
theorem CV_mono {m : Nat} {as : List MV} {e : En} {I : HI} {D : HD} {Q Q' : HI → HD → Prop} (h : CV m as e I D Q) (hq : ∀ I D, Q I D → Q' I D) : CV m as e I D Q' :=
  Call_mono h fun r M' q => by
    obtain ⟨I, D, h1, h2, h3⟩ := q
    exact ⟨I, D, h1, h2, hq _ _ h3⟩
theorem RV_mono {m pc : Nat} {ls st : List MV} {e : En} {I : HI} {D : HD} {Q Q' : HI → HD → Prop} (h : RV m pc ls st e I D Q) (hq : ∀ I D, Q I D → Q' I D) : RV m pc ls st e I D Q' :=
  Run_mono h fun r M' q => by
    obtain ⟨I, D, h1, h2, h3⟩ := q
    exact ⟨I, D, h1, h2, hq _ _ h3⟩
theorem CX_mono {m : Nat} {as : List MV} {e : En} {I : HI} {D : HD} {Q Q' : Res → HI → HD → Prop} (h : CX m as e I D Q) (hq : ∀ z I D, Q z I D → Q' z I D) : CX m as e I D Q' :=
  Call_mono h fun r M' q => by
    obtain ⟨I, D, h2, h3⟩ := q
    exact ⟨I, D, h2, hq _ _ _ h3⟩
theorem RX_mono {m pc : Nat} {ls st : List MV} {e : En} {I : HI} {D : HD} {Q Q' : Res → HI → HD → Prop} (h : RX m pc ls st e I D Q) (hq : ∀ z I D, Q z I D → Q' z I D) : RX m pc ls st e I D Q' :=
  Run_mono h fun r M' q => by
    obtain ⟨I, D, h2, h3⟩ := q
    exact ⟨I, D, h2, hq _ _ _ h3⟩
theorem K_getI {m pc pc' : Nat} {ls st : List MV} {e : En} {I : HI} {D : HD} {Q : Res → MH → Prop} {a b d : Nat} {z : Int} {tb : List (Int × Nat)} {q : Nat} {x : Int} (hc : cod m pc = some (53, a, b, d, z, tb)) (hp : pc + 3 = pc') (ht : zft b d ≠ 4) (hk : K0 q = b + 1) (hx : I q d = x) (h : Run m pc' ls (vI x :: st) (mk e I D) Q) : Run m pc ls (vR (some q) :: st) (mk e I D) Q :=
  R_getI hc hp ht hk (by subst hx; exact h)
theorem K_getIN {m pc pc' : Nat} {ls st : List MV} {e : En} {I : HI} {D : HD} {Q : Res → MH → Prop} {a b d : Nat} {z : Int} {tb : List (Int × Nat)} {q : Nat} {x : Int} (hc : cod m pc = some (54, a, b, d, z, tb)) (hp : pc + 3 = pc') (ht : zft b d ≠ 4) (hk : K0 q = b + 1) (hx : I q d = x) (h : Run m pc' ls (vI x :: st) (mk e I D) Q) : Run m pc ls (vR (some q) :: st) (mk e I D) Q :=
  R_getIN hc hp ht hk (by subst hx; exact h)
theorem K_getR {m pc pc' : Nat} {ls st : List MV} {e : En} {I : HI} {D : HD} {Q : Res → MH → Prop} {a b d : Nat} {z : Int} {tb : List (Int × Nat)} {q v : Nat} (hc : cod m pc = some (53, a, b, d, z, tb)) (hp : pc + 3 = pc') (ht : zft b d = 4) (hk : K0 q = b + 1) (hx : (mk e I D).2.1 q d = some v) (h : Run m pc' ls (vR (some v) :: st) (mk e I D) Q) : Run m pc ls (vR (some q) :: st) (mk e I D) Q :=
  R_getR hc hp ht hk (by rw [hx]; exact h)
theorem K_getRN {m pc pc' : Nat} {ls st : List MV} {e : En} {I : HI} {D : HD} {Q : Res → MH → Prop} {a b d : Nat} {z : Int} {tb : List (Int × Nat)} {q v : Nat} (hc : cod m pc = some (54, a, b, d, z, tb)) (hp : pc + 3 = pc') (ht : zft b d = 4) (hk : K0 q = b + 1) (hx : (mk e I D).2.1 q d = some v) (h : Run m pc' ls (vR (some v) :: st) (mk e I D) Q) : Run m pc ls (vR (some q) :: st) (mk e I D) Q :=
  R_getRN hc hp ht hk (by rw [hx]; exact h)
theorem K_putI {m pc pc' : Nat} {ls st : List MV} {e : En} {I : HI} {D : HD} {Q : Res → MH → Prop} {a b d : Nat} {z : Int} {tb : List (Int × Nat)} {q : Nat} {x : Int} (hc : cod m pc = some (55, a, b, d, z, tb)) (hp : pc + 3 = pc') (ht : zft b d ≠ 4) (hx : zft b d = 1 → x = 0 ∨ x = 1) (hk : K0 q = b + 1) (h : Run m pc' ls st (mk e (uI I q d x) D) Q) : Run m pc ls (vI x :: vR (some q) :: st) (mk e I D) Q :=
  R_putI hc hp ht hx hk h
theorem K_putIN {m pc pc' : Nat} {ls st : List MV} {e : En} {I : HI} {D : HD} {Q : Res → MH → Prop} {a b d : Nat} {z : Int} {tb : List (Int × Nat)} {q : Nat} {x : Int} (hc : cod m pc = some (56, a, b, d, z, tb)) (hp : pc + 3 = pc') (ht : zft b d ≠ 4) (hx : zft b d = 1 → x = 0 ∨ x = 1) (hk : K0 q = b + 1) (h : Run m pc' ls st (mk e (uI I q d x) D) Q) : Run m pc ls (vI x :: vR (some q) :: st) (mk e I D) Q :=
  R_putIN hc hp ht hx hk h
theorem K_putR {m pc pc' : Nat} {ls st : List MV} {e : En} {I : HI} {D : HD} {Q : Res → MH → Prop} {a b d : Nat} {z : Int} {tb : List (Int × Nat)} {q v : Nat} (hc : cod m pc = some (55, a, b, d, z, tb)) (hp : pc + 3 = pc') (ht : zft b d = 4) (hk : K0 q = b + 1) (hd : dyn q d = true) (h : Run m pc' ls st (mk e I (uD D q d v)) Q) : Run m pc ls (vR (some v) :: vR (some q) :: st) (mk e I D) Q :=
  R_putR hc hp ht hk (by rw [mk_sR hd]; exact h)
theorem K_putRN {m pc pc' : Nat} {ls st : List MV} {e : En} {I : HI} {D : HD} {Q : Res → MH → Prop} {a b d : Nat} {z : Int} {tb : List (Int × Nat)} {q v : Nat} (hc : cod m pc = some (56, a, b, d, z, tb)) (hp : pc + 3 = pc') (ht : zft b d = 4) (hk : K0 q = b + 1) (hd : dyn q d = true) (h : Run m pc' ls st (mk e I (uD D q d v)) Q) : Run m pc ls (vR (some v) :: vR (some q) :: st) (mk e I D) Q :=
  R_putRN hc hp ht hk (by rw [mk_sR hd]; exact h)
theorem K_iald {m pc pc' : Nat} {ls st : List MV} {e : En} {I : HI} {D : HD} {Q : Res → MH → Prop} {a b d : Nat} {z : Int} {tb : List (Int × Nat)} {q : Nat} {i x : Int} (hc : cod m pc = some (58, a, b, d, z, tb)) (hp : pc + 1 = pc') (hk : K0 q = 21) (h0 : 0 ≤ i) (h1 : i < L0 q) (hx : I q i.toNat = x) (h : Run m pc' ls (vI x :: st) (mk e I D) Q) : Run m pc ls (vI i :: vR (some q) :: st) (mk e I D) Q :=
  R_iald hc hp hk h0 h1 (by subst hx; exact h)
theorem K_bald {m pc pc' : Nat} {ls st : List MV} {e : En} {I : HI} {D : HD} {Q : Res → MH → Prop} {a b d : Nat} {z : Int} {tb : List (Int × Nat)} {q : Nat} {i x : Int} (hc : cod m pc = some (60, a, b, d, z, tb)) (hp : pc + 1 = pc') (hk : K0 q = 22) (h0 : 0 ≤ i) (h1 : i < L0 q) (hx : I q i.toNat = x) (h : Run m pc' ls (vI x :: st) (mk e I D) Q) : Run m pc ls (vI i :: vR (some q) :: st) (mk e I D) Q :=
  R_bald hc hp hk h0 h1 (by subst hx; exact h)
theorem K_zald {m pc pc' : Nat} {ls st : List MV} {e : En} {I : HI} {D : HD} {Q : Res → MH → Prop} {a b d : Nat} {z : Int} {tb : List (Int × Nat)} {q : Nat} {i x : Int} (hc : cod m pc = some (60, a, b, d, z, tb)) (hp : pc + 1 = pc') (hk : K0 q = 23) (h0 : 0 ≤ i) (h1 : i < L0 q) (hx : I q i.toNat = x) (h : Run m pc' ls (vI x :: st) (mk e I D) Q) : Run m pc ls (vI i :: vR (some q) :: st) (mk e I D) Q :=
  R_zald hc hp hk h0 h1 (by subst hx; exact h)
theorem K_lald {m pc pc' : Nat} {ls st : List MV} {e : En} {I : HI} {D : HD} {Q : Res → MH → Prop} {a b d : Nat} {z : Int} {tb : List (Int × Nat)} {q : Nat} {i x : Int} (hc : cod m pc = some (62, a, b, d, z, tb)) (hp : pc + 1 = pc') (hk : K0 q = 24) (h0 : 0 ≤ i) (h1 : i < L0 q) (hx : I q i.toNat = x) (h : Run m pc' ls (vL x :: st) (mk e I D) Q) : Run m pc ls (vI i :: vR (some q) :: st) (mk e I D) Q :=
  R_lald hc hp hk h0 h1 (by subst hx; exact h)
theorem K_aald {m pc pc' : Nat} {ls st : List MV} {e : En} {I : HI} {D : HD} {Q : Res → MH → Prop} {a b d : Nat} {z : Int} {tb : List (Int × Nat)} {q : Nat} {i : Int} (hc : cod m pc = some (64, a, b, d, z, tb)) (hp : pc + 1 = pc') (hk : K0 q = 25) (h0 : 0 ≤ i) (h1 : i < L0 q) (hd : dyn q i.toNat = true) (h : Run m pc' ls (vR (some (D q i.toNat)) :: st) (mk e I D) Q) : Run m pc ls (vI i :: vR (some q) :: st) (mk e I D) Q :=
  R_aald hc hp hk h0 h1 (by rw [dy_at hd]; exact h)
theorem K_iast {m pc pc' : Nat} {ls st : List MV} {e : En} {I : HI} {D : HD} {Q : Res → MH → Prop} {a b d : Nat} {z : Int} {tb : List (Int × Nat)} {q : Nat} {i x : Int} (hc : cod m pc = some (59, a, b, d, z, tb)) (hp : pc + 1 = pc') (hk : K0 q = 21) (h0 : 0 ≤ i) (h1 : i < L0 q) (h : Run m pc' ls st (mk e (uI I q i.toNat x) D) Q) : Run m pc ls (vI x :: vI i :: vR (some q) :: st) (mk e I D) Q :=
  R_iast hc hp hk h0 h1 h
theorem K_bast {m pc pc' : Nat} {ls st : List MV} {e : En} {I : HI} {D : HD} {Q : Res → MH → Prop} {a b d : Nat} {z : Int} {tb : List (Int × Nat)} {q : Nat} {i x : Int} (hc : cod m pc = some (61, a, b, d, z, tb)) (hp : pc + 1 = pc') (hk : K0 q = 22) (h0 : 0 ≤ i) (h1 : i < L0 q) (h : Run m pc' ls st (mk e (uI I q i.toNat ((x + 128) % 256 - 128)) D) Q) : Run m pc ls (vI x :: vI i :: vR (some q) :: st) (mk e I D) Q :=
  R_bast hc hp hk h0 h1 h
theorem K_last {m pc pc' : Nat} {ls st : List MV} {e : En} {I : HI} {D : HD} {Q : Res → MH → Prop} {a b d : Nat} {z : Int} {tb : List (Int × Nat)} {q : Nat} {i x : Int} (hc : cod m pc = some (63, a, b, d, z, tb)) (hp : pc + 1 = pc') (hk : K0 q = 24) (h0 : 0 ≤ i) (h1 : i < L0 q) (h : Run m pc' ls st (mk e (uI I q i.toNat x) D) Q) : Run m pc ls (vL x :: vI i :: vR (some q) :: st) (mk e I D) Q :=
  R_last hc hp hk h0 h1 h
theorem K_zast {m pc pc' : Nat} {ls st : List MV} {e : En} {I : HI} {D : HD} {Q : Res → MH → Prop} {a b d : Nat} {z : Int} {tb : List (Int × Nat)} {q : Nat} {i x : Int} (hc : cod m pc = some (61, a, b, d, z, tb)) (hp : pc + 1 = pc') (hk : K0 q = 23) (h0 : 0 ≤ i) (h1 : i < L0 q) (hx : x = 0 ∨ x = 1) (h : Run m pc' ls st (mk e (uI I q i.toNat x) D) Q) : Run m pc ls (vI x :: vI i :: vR (some q) :: st) (mk e I D) Q :=
  R_zast hc hp hk h0 h1 hx h
theorem K_aast {m pc pc' : Nat} {ls st : List MV} {e : En} {I : HI} {D : HD} {Q : Res → MH → Prop} {a b d : Nat} {z : Int} {tb : List (Int × Nat)} {q v : Nat} {i : Int} (hc : cod m pc = some (65, a, b, d, z, tb)) (hp : pc + 1 = pc') (hk : K0 q = 25) (h0 : 0 ≤ i) (h1 : i < L0 q) (hd : dyn q i.toNat = true) (hv : K0 v = 3) (h : Run m pc' ls st (mk e I (uD D q i.toNat v)) Q) : Run m pc ls (vR (some v) :: vI i :: vR (some q) :: st) (mk e I D) Q :=
  R_aast hc hp hk h0 h1 hv (by rw [mk_sR hd]; exact h)
theorem K_alen {m pc pc' : Nat} {ls st : List MV} {e : En} {I : HI} {D : HD} {Q : Res → MH → Prop} {a b d : Nat} {z : Int} {tb : List (Int × Nat)} {q n : Nat} (hc : cod m pc = some (66, a, b, d, z, tb)) (hp : pc + 1 = pc') (t : Nat) (hk : K0 q = t + 21) (ht : t < 5) (hl : L0 q = n) (h : Run m pc' ls (vI (n : Int) :: st) (mk e I D) Q) : Run m pc ls (vR (some q) :: st) (mk e I D) Q :=
  R_alen hc hp t hk ht (by rw [hl]; exact h)
-- copy
theorem K_copy {m pc pc' : Nat} {ls st : List MV} {e : En} {I : HI} {D : HD} {Q : Res → MH → Prop} {a b d : Nat} {z : Int} {tb : List (Int × Nat)} {src dst : Nat} {sp dp n : Int} (hc : cod m pc = some (82, a, b, d, z, tb)) (hp : pc + 3 = pc') (hk1 : K0 src = 1 + 21) (hk2 : K0 dst = 1 + 21) (h0 : 0 ≤ sp) (h1 : 0 ≤ dp) (h2 : 0 ≤ n) (h3 : sp + n ≤ L0 src) (h4 : dp + n ≤ L0 dst) (hdp : 4 ≤ zdp m) (hr : vcs st ≤ 8) (h : Run m pc' ls st (mk e (cI I src sp.toNat dst dp.toNat n.toNat) D) Q) : Run m pc ls (vI n :: vI dp :: vR (some dst) :: vI sp :: vR (some src) :: st) (mk e I D) Q :=
  R_copy hc hp hk1 hk2 h0 h1 h2 h3 h4 hdp hr h
theorem KI_iv {m pc pc' : Nat} {ls stk rest as : List MV} {e : En} {I : HI} {D : HD} {Q : Res → MH → Prop} {a b d : Nat} {z : Int} {tb : List (Int × Nat)} {q : Nat} (hc : cod m pc = some (72, a, b, d, z, tb)) (hp : pc + 3 = pc') (ht : (ztb b).isEmpty = true) (hk : K0 q = zci b + 1) (hn : as.length = zna b) (hr : vcs rest ≤ 8) (hst : stk = as.reverse ++ vR (some q) :: rest) (h : CI b (vR (some q) :: as) e I D (fun z I D => Run m pc' ls (vI z :: rest) (mk e I D) Q)) : Run m pc ls stk (mk e I D) Q :=
  R_iv hc hp ht hk hn hr hst (Call_mono h fun r M1 q => by
    obtain ⟨z, I, D, rfl, rfl, h3⟩ := q
    exact ⟨_, rfl, h3⟩)
theorem KI_st {m pc pc' : Nat} {ls stk rest as : List MV} {e : En} {I : HI} {D : HD} {Q : Res → MH → Prop} {a b d : Nat} {z : Int} {tb : List (Int × Nat)} (hc : cod m pc = some (75, a, b, d, z, tb)) (hp : pc + 3 = pc') (hn : as.length = zna b) (hr : vcs rest ≤ 8) (hst : stk = as.reverse ++ rest) (h : CI b as e I D (fun z I D => Run m pc' ls (vI z :: rest) (mk e I D) Q)) : Run m pc ls stk (mk e I D) Q :=
  R_st hc hp hn hr hst (Call_mono h fun r M1 q => by
    obtain ⟨z, I, D, rfl, rfl, h3⟩ := q
    exact ⟨_, rfl, h3⟩)
theorem KI_stN {m pc pc' : Nat} {ls stk rest as : List MV} {e : En} {I : HI} {D : HD} {Q : Res → MH → Prop} {a b d : Nat} {z : Int} {tb : List (Int × Nat)} (hc : cod m pc = some (76, a, b, d, z, tb)) (hp : pc + 3 = pc') (ht : (ztb b).isEmpty = true) (hn : as.length = zna b) (hr : vcs rest ≤ 8) (hst : stk = as.reverse ++ rest) (h : CI b as e I D (fun z I D => Run m pc' ls (vI z :: rest) (mk e I D) Q)) : Run m pc ls stk (mk e I D) Q :=
  R_stN hc hp ht hn hr hst (Call_mono h fun r M1 q => by
    obtain ⟨z, I, D, rfl, rfl, h3⟩ := q
    exact ⟨_, rfl, h3⟩)
theorem KL_iv {m pc pc' : Nat} {ls stk rest as : List MV} {e : En} {I : HI} {D : HD} {Q : Res → MH → Prop} {a b d : Nat} {z : Int} {tb : List (Int × Nat)} {q : Nat} (hc : cod m pc = some (72, a, b, d, z, tb)) (hp : pc + 3 = pc') (ht : (ztb b).isEmpty = true) (hk : K0 q = zci b + 1) (hn : as.length = zna b) (hr : vcs rest ≤ 8) (hst : stk = as.reverse ++ vR (some q) :: rest) (h : CL b (vR (some q) :: as) e I D (fun z I D => Run m pc' ls (vL z :: rest) (mk e I D) Q)) : Run m pc ls stk (mk e I D) Q :=
  R_iv hc hp ht hk hn hr hst (Call_mono h fun r M1 q => by
    obtain ⟨z, I, D, rfl, rfl, h3⟩ := q
    exact ⟨_, rfl, h3⟩)
theorem KL_st {m pc pc' : Nat} {ls stk rest as : List MV} {e : En} {I : HI} {D : HD} {Q : Res → MH → Prop} {a b d : Nat} {z : Int} {tb : List (Int × Nat)} (hc : cod m pc = some (75, a, b, d, z, tb)) (hp : pc + 3 = pc') (hn : as.length = zna b) (hr : vcs rest ≤ 8) (hst : stk = as.reverse ++ rest) (h : CL b as e I D (fun z I D => Run m pc' ls (vL z :: rest) (mk e I D) Q)) : Run m pc ls stk (mk e I D) Q :=
  R_st hc hp hn hr hst (Call_mono h fun r M1 q => by
    obtain ⟨z, I, D, rfl, rfl, h3⟩ := q
    exact ⟨_, rfl, h3⟩)
theorem KL_stN {m pc pc' : Nat} {ls stk rest as : List MV} {e : En} {I : HI} {D : HD} {Q : Res → MH → Prop} {a b d : Nat} {z : Int} {tb : List (Int × Nat)} (hc : cod m pc = some (76, a, b, d, z, tb)) (hp : pc + 3 = pc') (ht : (ztb b).isEmpty = true) (hn : as.length = zna b) (hr : vcs rest ≤ 8) (hst : stk = as.reverse ++ rest) (h : CL b as e I D (fun z I D => Run m pc' ls (vL z :: rest) (mk e I D) Q)) : Run m pc ls stk (mk e I D) Q :=
  R_stN hc hp ht hn hr hst (Call_mono h fun r M1 q => by
    obtain ⟨z, I, D, rfl, rfl, h3⟩ := q
    exact ⟨_, rfl, h3⟩)
theorem KR_iv {m pc pc' : Nat} {ls stk rest as : List MV} {e : En} {I : HI} {D : HD} {Q : Res → MH → Prop} {a b d : Nat} {z : Int} {tb : List (Int × Nat)} {q : Nat} (hc : cod m pc = some (72, a, b, d, z, tb)) (hp : pc + 3 = pc') (ht : (ztb b).isEmpty = true) (hk : K0 q = zci b + 1) (hn : as.length = zna b) (hr : vcs rest ≤ 8) (hst : stk = as.reverse ++ vR (some q) :: rest) (h : CR b (vR (some q) :: as) e I D (fun z I D => Run m pc' ls (vR z :: rest) (mk e I D) Q)) : Run m pc ls stk (mk e I D) Q :=
  R_iv hc hp ht hk hn hr hst (Call_mono h fun r M1 q => by
    obtain ⟨z, I, D, rfl, rfl, h3⟩ := q
    exact ⟨_, rfl, h3⟩)
theorem KR_st {m pc pc' : Nat} {ls stk rest as : List MV} {e : En} {I : HI} {D : HD} {Q : Res → MH → Prop} {a b d : Nat} {z : Int} {tb : List (Int × Nat)} (hc : cod m pc = some (75, a, b, d, z, tb)) (hp : pc + 3 = pc') (hn : as.length = zna b) (hr : vcs rest ≤ 8) (hst : stk = as.reverse ++ rest) (h : CR b as e I D (fun z I D => Run m pc' ls (vR z :: rest) (mk e I D) Q)) : Run m pc ls stk (mk e I D) Q :=
  R_st hc hp hn hr hst (Call_mono h fun r M1 q => by
    obtain ⟨z, I, D, rfl, rfl, h3⟩ := q
    exact ⟨_, rfl, h3⟩)
theorem KR_stN {m pc pc' : Nat} {ls stk rest as : List MV} {e : En} {I : HI} {D : HD} {Q : Res → MH → Prop} {a b d : Nat} {z : Int} {tb : List (Int × Nat)} (hc : cod m pc = some (76, a, b, d, z, tb)) (hp : pc + 3 = pc') (ht : (ztb b).isEmpty = true) (hn : as.length = zna b) (hr : vcs rest ≤ 8) (hst : stk = as.reverse ++ rest) (h : CR b as e I D (fun z I D => Run m pc' ls (vR z :: rest) (mk e I D) Q)) : Run m pc ls stk (mk e I D) Q :=
  R_stN hc hp ht hn hr hst (Call_mono h fun r M1 q => by
    obtain ⟨z, I, D, rfl, rfl, h3⟩ := q
    exact ⟨_, rfl, h3⟩)
theorem KV_iv {m pc pc' : Nat} {ls stk rest as : List MV} {e : En} {I : HI} {D : HD} {Q : Res → MH → Prop} {a b d : Nat} {z : Int} {tb : List (Int × Nat)} {q : Nat} (hc : cod m pc = some (72, a, b, d, z, tb)) (hp : pc + 3 = pc') (ht : (ztb b).isEmpty = true) (hk : K0 q = zci b + 1) (hn : as.length = zna b) (hr : vcs rest ≤ 8) (hst : stk = as.reverse ++ vR (some q) :: rest) (h : CV b (vR (some q) :: as) e I D (fun I D => Run m pc' ls rest (mk e I D) Q)) : Run m pc ls stk (mk e I D) Q :=
  R_iv hc hp ht hk hn hr hst (Call_mono h fun r M1 q => by
    obtain ⟨I, D, rfl, rfl, h3⟩ := q
    exact ⟨_, rfl, h3⟩)
theorem KV_is {m pc pc' : Nat} {ls stk rest as : List MV} {e : En} {I : HI} {D : HD} {Q : Res → MH → Prop} {a b d : Nat} {z : Int} {tb : List (Int × Nat)} {q : Nat} (hc : cod m pc = some (73, a, b, d, z, tb)) (hp : pc + 3 = pc') (ht : (ztb b).isEmpty = true) (hv : zrt b = none) (hn : as.length = zna b) (hr : vcs rest ≤ 8) (hst : stk = as.reverse ++ vR (some q) :: rest) (h : CV b (vR (some q) :: as) e I D (fun I D => Run m pc' ls rest (mk e I D) Q)) : Run m pc ls stk (mk e I D) Q :=
  R_is hc hp ht hv hn hr hst (Call_mono h fun r M1 q => by
    obtain ⟨I, D, rfl, rfl, h3⟩ := q
    exact ⟨_, rfl, h3⟩)
theorem KV_isN {m pc pc' : Nat} {ls stk rest as : List MV} {e : En} {I : HI} {D : HD} {Q : Res → MH → Prop} {a b d : Nat} {z : Int} {tb : List (Int × Nat)} {q : Nat} (hc : cod m pc = some (74, a, b, d, z, tb)) (hp : pc + 3 = pc') (ht : (ztb b).isEmpty = true) (hv : zrt b = none) (hn : as.length = zna b) (hr : vcs rest ≤ 8) (hst : stk = as.reverse ++ vR (some q) :: rest) (h : CV b (vR (some q) :: as) e I D (fun I D => Run m pc' ls rest (mk e I D) Q)) : Run m pc ls stk (mk e I D) Q :=
  R_isN hc hp ht hv hn hr hst (Call_mono h fun r M1 q => by
    obtain ⟨I, D, rfl, rfl, h3⟩ := q
    exact ⟨_, rfl, h3⟩)
theorem KV_st {m pc pc' : Nat} {ls stk rest as : List MV} {e : En} {I : HI} {D : HD} {Q : Res → MH → Prop} {a b d : Nat} {z : Int} {tb : List (Int × Nat)} (hc : cod m pc = some (75, a, b, d, z, tb)) (hp : pc + 3 = pc') (hn : as.length = zna b) (hr : vcs rest ≤ 8) (hst : stk = as.reverse ++ rest) (h : CV b as e I D (fun I D => Run m pc' ls rest (mk e I D) Q)) : Run m pc ls stk (mk e I D) Q :=
  R_st hc hp hn hr hst (Call_mono h fun r M1 q => by
    obtain ⟨I, D, rfl, rfl, h3⟩ := q
    exact ⟨_, rfl, h3⟩)
theorem KV_stN {m pc pc' : Nat} {ls stk rest as : List MV} {e : En} {I : HI} {D : HD} {Q : Res → MH → Prop} {a b d : Nat} {z : Int} {tb : List (Int × Nat)} (hc : cod m pc = some (76, a, b, d, z, tb)) (hp : pc + 3 = pc') (ht : (ztb b).isEmpty = true) (hn : as.length = zna b) (hr : vcs rest ≤ 8) (hst : stk = as.reverse ++ rest) (h : CV b as e I D (fun I D => Run m pc' ls rest (mk e I D) Q)) : Run m pc ls stk (mk e I D) Q :=
  R_stN hc hp ht hn hr hst (Call_mono h fun r M1 q => by
    obtain ⟨I, D, rfl, rfl, h3⟩ := q
    exact ⟨_, rfl, h3⟩)
end
section
/-! what the code of each method does: printed by wip/whole/gen/decomp.py -/
/-! 84 X8_endsObject -/
theorem S84 {e : En} {I : HI} {D : HD} {Q : Int → HI → HD → Prop} {x0 : Int} (he : HS e)
    (h : ((x0 = 6 → RI 84 17 [vJ] [] e I D Q) ∧ (¬ (x0 = 6) → ((x0 = 7 → RI 84 17 [vJ] [] e I D Q) ∧ (¬ (x0 = 7) → ((¬ x0 = 5 → Q 0 I D) ∧ (¬ (¬ x0 = 5) → RI 84 17 [vJ] [] e I D Q))))))) :
    CI 84 [vI x0] e I D Q := by
  refine Call_run (ls := [vI x0]) rfl rfl ?_
  refine R_iload_n (pc' := 1) rfl rfl rfl ?_
  refine R_bipush (pc' := 3) rfl rfl ?_
  refine R_iceq (pc' := 6) rfl rfl (fun hc => ?_) (fun hc => ?_)
  · replace h := h.1 hc
    exact R_forget (ls' := [vJ]) ⟨Or.inr rfl, trivial⟩ h
  · replace h := h.2 hc
    refine R_iload_n (pc' := 7) rfl rfl rfl ?_
    refine R_bipush (pc' := 9) rfl rfl ?_
    refine R_iceq (pc' := 12) rfl rfl (fun hc => ?_) (fun hc => ?_)
    · replace h := h.1 hc
      exact R_forget (ls' := [vJ]) ⟨Or.inr rfl, trivial⟩ h
    · replace h := h.2 hc
      refine R_iload_n (pc' := 13) rfl rfl rfl ?_
      refine R_iconst (pc' := 14) rfl rfl ?_
      refine R_icne (pc' := 17) rfl rfl (fun hc => ?_) (fun hc => ?_)
      · replace h := h.1 hc
        refine R_iconst (pc' := 22) rfl rfl ?_
        exact R_zret rfl rfl (Or.inl rfl) ⟨_, _, _, rfl, rfl, h⟩
      · replace h := h.2 hc
        exact R_forget (ls' := [vJ]) ⟨Or.inr rfl, trivial⟩ h
theorem S84_17 {e : En} {I : HI} {D : HD} {Q : Int → HI → HD → Prop} (he : HS e)
    (h : Q 1 I D) :
    RI 84 17 [vJ] [] e I D Q := by
  show Run 84 17 [vJ] [] (mk e I D) (pI e Q)
  refine R_iconst (pc' := 18) rfl rfl ?_
  refine R_goto rfl ?_
  exact R_zret rfl rfl (Or.inr rfl) ⟨_, _, _, rfl, rfl, h⟩
/-! 43 X6_index -/
theorem S43 {e : En} {I : HI} {D : HD} {Q : HI → HD → Prop} {q1 : Nat} {x2 : Int} (he : HS e) (hq1 : K0 q1 = 22)
    (h : (-2147483648 ≤ ((3001 : Int) - 1) ∧ ((3001 : Int) - 1) < 2147483648) ∧ CV 44 [vR (some 1), vI (max 0 (min x2 (min ((L0 q1) : Int) ((3001 : Int) - 1)))), vI (max 0 (min x2 (min ((L0 q1) : Int) ((3001 : Int) - 1)))), vI (max 0 (min x2 (min ((L0 q1) : Int) ((3001 : Int) - 1)))), vI 0] e (uI I 1 5 (max 0 (min x2 (min ((L0 q1) : Int) ((3001 : Int) - 1))))) (uD D 1 4 q1) (fun I3 D4 => (-2147483648 ≤ ((I3 1 5) - 1) ∧ ((I3 1 5) - 1) < 2147483648) ∧ RV 43 65 [vR (some 1), vR (some q1), vJ, vI (I3 1 5), vI (I3 1 5), vI ((I3 1 5) - 1), vJ] [] e I3 D4 Q)) :
    CV 43 [vR (some 1), vR (some q1), vI x2] e I D Q := by
  refine Call_run (ls := [vR (some 1), vR (some q1), vI x2, vJ, vJ, vJ, vJ]) rfl rfl ?_
  refine R_aload_n (pc' := 1) rfl rfl rfl ?_
  refine R_aload_n (pc' := 2) rfl rfl rfl ?_
  refine K_putR (pc' := 5) rfl rfl rfl rfl rfl ?_
  refine R_aload_n (pc' := 6) rfl rfl rfl ?_
  refine R_iconst (pc' := 7) rfl rfl ?_
  refine R_iload_n (pc' := 8) rfl rfl rfl ?_
  refine R_aload_n (pc' := 9) rfl rfl rfl ?_
  refine K_alen (pc' := 10) rfl rfl 1 hq1 (by decide) rfl ?_
  refine R_aload_n (pc' := 11) rfl rfl rfl ?_
  refine K_getR (pc' := 14) rfl rfl rfl rfl (st_at he rfl rfl (by decide)) ?_
  refine K_alen (pc' := 15) rfl rfl 0 rfl (by decide) rfl ?_
  refine R_iconst (pc' := 16) rfl rfl ?_
  have g1 := h.1
  replace h := h.2
  refine R_isub (pc' := 17) rfl rfl g1 ?_
  refine R_min (pc' := 20) rfl rfl (Nat.le_of_ble_eq_true rfl) ?_
  refine R_min (pc' := 23) rfl rfl (Nat.le_of_ble_eq_true rfl) ?_
  refine R_max (pc' := 26) rfl rfl (Nat.le_of_ble_eq_true rfl) ?_
  refine K_putI (pc' := 29) rfl rfl (by decide) (fun h => absurd h (by decide)) rfl ?_
  refine R_aload_n (pc' := 30) rfl rfl rfl ?_
  refine R_aload_n (pc' := 31) rfl rfl rfl ?_
  refine K_getI (pc' := 34) rfl rfl (by decide) rfl rfl ?_
  refine R_aload_n (pc' := 35) rfl rfl rfl ?_
  refine K_getI (pc' := 38) rfl rfl (by decide) rfl rfl ?_
  refine R_aload_n (pc' := 39) rfl rfl rfl ?_
  refine K_getI (pc' := 42) rfl rfl (by decide) rfl rfl ?_
  refine R_iconst (pc' := 43) rfl rfl ?_
  refine KV_iv (as := [vI (max 0 (min x2 (min ((L0 q1) : Int) ((3001 : Int) - 1)))), vI (max 0 (min x2 (min ((L0 q1) : Int) ((3001 : Int) - 1)))), vI (max 0 (min x2 (min ((L0 q1) : Int) ((3001 : Int) - 1)))), vI 0]) (rest := []) (pc' := 46) rfl rfl rfl rfl rfl (Nat.le_of_ble_eq_true rfl) rfl (CV_mono h ?_)
  intro I3 D4 h
  refine R_aload_n (pc' := 47) rfl rfl rfl ?_
  refine K_getI (pc' := 50) rfl rfl (by decide) rfl rfl ?_
  refine R_istore_n (ls' := [vR (some 1), vR (some q1), vI x2, vI (I3 1 5), vJ, vJ, vJ]) (pc' := 51) rfl rfl rfl ?_
  refine R_aload_n (pc' := 52) rfl rfl rfl ?_
  refine K_getI (pc' := 55) rfl rfl (by decide) rfl rfl ?_
  refine R_istore (ls' := [vR (some 1), vR (some q1), vI x2, vI (I3 1 5), vI (I3 1 5), vJ, vJ]) (pc' := 57) rfl rfl rfl ?_
  refine R_aload_n (pc' := 58) rfl rfl rfl ?_
  refine K_getI (pc' := 61) rfl rfl (by decide) rfl rfl ?_
  refine R_iconst (pc' := 62) rfl rfl ?_
  have g5 := h.1
  replace h := h.2
  refine R_isub (pc' := 63) rfl rfl g5 ?_
  refine R_istore (ls' := [vR (some 1), vR (some q1), vI x2, vI (I3 1 5), vI (I3 1 5), vI ((I3 1 5) - 1), vJ]) (pc' := 65) rfl rfl rfl ?_
  exact R_forget (ls' := [vR (some 1), vR (some q1), vJ, vI (I3 1 5), vI (I3 1 5), vI ((I3 1 5) - 1), vJ]) ⟨Or.inl rfl, Or.inl rfl, Or.inr rfl, Or.inl rfl, Or.inl rfl, Or.inl rfl, Or.inl rfl, trivial⟩ h
theorem S43_65 {e : En} {I : HI} {D : HD} {Q : HI → HD → Prop} {q1 : Nat} {x3 : Int} {x4 : Int} {x5 : Int} (he : HS e) (hq1 : K0 q1 = 22)
    (h : ((x5 < 0 → Q I D) ∧ (¬ (x5 < 0) → (0 ≤ x5 ∧ x5 < ((L0 q1) : Int)) ∧ ((¬ ((I q1 (x5.toNat)) % 256) = 10 → RV 43 93 [vR (some 1), vR (some q1), vJ, vJ, vI x4, vI x5, vI ((I q1 (x5.toNat)) % 256)] [vI x3] e I D Q) ∧ (¬ (¬ ((I q1 (x5.toNat)) % 256) = 10) → RV 43 93 [vR (some 1), vR (some q1), vJ, vJ, vI x4, vI x5, vI ((I q1 (x5.toNat)) % 256)] [vI x5] e I D Q))))) :
    RV 43 65 [vR (some 1), vR (some q1), vJ, vI x3, vI x4, vI x5, vJ] [] e I D Q := by
  show Run 43 65 [vR (some 1), vR (some q1), vJ, vI x3, vI x4, vI x5, vJ] [] (mk e I D) (pV e Q)
  refine R_iload (pc' := 67) rfl rfl rfl ?_
  refine R_iflt (pc' := 70) rfl rfl (fun hc => ?_) (fun hc => ?_)
  · replace h := h.1 hc
    exact R_vret rfl rfl ⟨_, _, rfl, rfl, h⟩
  · replace h := h.2 hc
    refine R_aload_n (pc' := 71) rfl rfl rfl ?_
    refine R_iload (pc' := 73) rfl rfl rfl ?_
    have g1 := h.1
    replace h := h.2
    refine K_bald (pc' := 74) rfl rfl hq1 g1.1 g1.2 rfl ?_
    refine R_sipush (pc' := 77) rfl rfl ?_
    refine R_iand255 (pc' := 78) rfl rfl ?_
    refine R_istore (ls' := [vR (some 1), vR (some q1), vJ, vI x3, vI x4, vI x5, vI ((I q1 (x5.toNat)) % 256)]) (pc' := 80) rfl rfl rfl ?_
    refine R_iload (pc' := 82) rfl rfl rfl ?_
    refine R_bipush (pc' := 84) rfl rfl ?_
    refine R_icne (pc' := 87) rfl rfl (fun hc => ?_) (fun hc => ?_)
    · replace h := h.1 hc
      refine R_iload_n (pc' := 93) rfl rfl rfl ?_
      exact R_forget (ls' := [vR (some 1), vR (some q1), vJ, vJ, vI x4, vI x5, vI ((I q1 (x5.toNat)) % 256)]) ⟨Or.inl rfl, Or.inl rfl, Or.inl rfl, Or.inr rfl, Or.inl rfl, Or.inl rfl, Or.inl rfl, trivial⟩ h
    · replace h := h.2 hc
      refine R_iload (pc' := 89) rfl rfl rfl ?_
      refine R_goto rfl ?_
      exact R_forget (ls' := [vR (some 1), vR (some q1), vJ, vJ, vI x4, vI x5, vI ((I q1 (x5.toNat)) % 256)]) ⟨Or.inl rfl, Or.inl rfl, Or.inl rfl, Or.inr rfl, Or.inl rfl, Or.inl rfl, Or.inl rfl, trivial⟩ h
theorem S43_93 {e : En} {I : HI} {D : HD} {Q : HI → HD → Prop} {q1 : Nat} {x4 : Int} {x5 : Int} {x6 : Int} {y0 : Int} (he : HS e) (hq1 : K0 q1 = 22)
    (h : ((¬ x6 = 41 → RV 43 110 [vR (some 1), vR (some q1), vJ, vI y0, vJ, vI x5, vI x6] [vI x4] e I D Q) ∧ (¬ (¬ x6 = 41) → (-2147483648 ≤ (x5 + 1) ∧ (x5 + 1) < 2147483648) ∧ RV 43 110 [vR (some 1), vR (some q1), vJ, vI y0, vJ, vI x5, vI x6] [vI (x5 + 1)] e I D Q))) :
    RV 43 93 [vR (some 1), vR (some q1), vJ, vJ, vI x4, vI x5, vI x6] [vI y0] e I D Q := by
  show Run 43 93 [vR (some 1), vR (some q1), vJ, vJ, vI x4, vI x5, vI x6] [vI y0] (mk e I D) (pV e Q)
  refine R_istore_n (ls' := [vR (some 1), vR (some q1), vJ, vI y0, vI x4, vI x5, vI x6]) (pc' := 94) rfl rfl rfl ?_
  refine R_iload (pc' := 96) rfl rfl rfl ?_
  refine R_bipush (pc' := 98) rfl rfl ?_
  refine R_icne (pc' := 101) rfl rfl (fun hc => ?_) (fun hc => ?_)
  · replace h := h.1 hc
    refine R_iload (pc' := 110) rfl rfl rfl ?_
    exact R_forget (ls' := [vR (some 1), vR (some q1), vJ, vI y0, vJ, vI x5, vI x6]) ⟨Or.inl rfl, Or.inl rfl, Or.inl rfl, Or.inl rfl, Or.inr rfl, Or.inl rfl, Or.inl rfl, trivial⟩ h
  · replace h := h.2 hc
    refine R_iload (pc' := 103) rfl rfl rfl ?_
    refine R_iconst (pc' := 104) rfl rfl ?_
    have g1 := h.1
    replace h := h.2
    refine R_iadd (pc' := 105) rfl rfl g1 ?_
    refine R_goto rfl ?_
    exact R_forget (ls' := [vR (some 1), vR (some q1), vJ, vI y0, vJ, vI x5, vI x6]) ⟨Or.inl rfl, Or.inl rfl, Or.inl rfl, Or.inl rfl, Or.inr rfl, Or.inl rfl, Or.inl rfl, trivial⟩ h
theorem S43_110 {e : En} {I : HI} {D : HD} {Q : HI → HD → Prop} {q1 : Nat} {x3 : Int} {x5 : Int} {x6 : Int} {y0 : Int} (he : HS e) (hq1 : K0 q1 = 22)
    (h : (((32 : Int) < x6 → ((¬ x6 = 37 → ((¬ x6 = 40 → CI 45 [vR (some 1), vI x5, vI x6] e I D (fun z1 I2 D3 => RV 43 189 [vR (some 1), vR (some q1), vJ, vI x3, vI y0, vI x5, vI x6] [vI z1, vI x5, vI x5, vR (some 1)] e I2 D3 Q)) ∧ (¬ (¬ x6 = 40) → RV 43 189 [vR (some 1), vR (some q1), vJ, vI x3, vI y0, vI x5, vI x6] [vI y0, vI x5, vI x5, vR (some 1)] e I D Q))) ∧ (¬ (¬ x6 = 37) → CI 51 [vR (some 1), vI x3] e I D (fun z4 I5 D6 => CV 44 [vR (some 1), vI x5, vI z4, vI x3, vI 0] e I5 D6 (fun I8 D9 => RV 43 240 [vR (some 1), vR (some q1), vJ, vI x3, vI y0, vI x5, vJ] [] e I8 D9 Q))))) ∧ (¬ ((32 : Int) < x6) → (-2147483648 ≤ (x5 + 1) ∧ (x5 + 1) < 2147483648) ∧ CI 51 [vR (some 1), vI (x5 + 1)] e I D (fun z11 I12 D13 => (-2147483648 ≤ (x5 + 1) ∧ (x5 + 1) < 2147483648) ∧ CV 44 [vR (some 1), vI x5, vI z11, vI (x5 + 1), vI 0] e I12 D13 (fun I16 D17 => RV 43 240 [vR (some 1), vR (some q1), vJ, vI x3, vI y0, vI x5, vJ] [] e I16 D17 Q))))) :
    RV 43 110 [vR (some 1), vR (some q1), vJ, vI x3, vJ, vI x5, vI x6] [vI y0] e I D Q := by
  show Run 43 110 [vR (some 1), vR (some q1), vJ, vI x3, vJ, vI x5, vI x6] [vI y0] (mk e I D) (pV e Q)
  refine R_istore (ls' := [vR (some 1), vR (some q1), vJ, vI x3, vI y0, vI x5, vI x6]) (pc' := 112) rfl rfl rfl ?_
  refine R_iload (pc' := 114) rfl rfl rfl ?_
  refine R_bipush (pc' := 116) rfl rfl ?_
  refine R_icgt (pc' := 119) rfl rfl (fun hc => ?_) (fun hc => ?_)
  · replace h := h.1 hc
    refine R_iload (pc' := 143) rfl rfl rfl ?_
    refine R_bipush (pc' := 145) rfl rfl ?_
    refine R_icne (pc' := 148) rfl rfl (fun hc => ?_) (fun hc => ?_)
    · replace h := h.1 hc
      refine R_aload_n (pc' := 165) rfl rfl rfl ?_
      refine R_iload (pc' := 167) rfl rfl rfl ?_
      refine R_iload (pc' := 169) rfl rfl rfl ?_
      refine R_iload (pc' := 171) rfl rfl rfl ?_
      refine R_bipush (pc' := 173) rfl rfl ?_
      refine R_icne (pc' := 176) rfl rfl (fun hc => ?_) (fun hc => ?_)
      · replace h := h.1 hc
        refine R_aload_n (pc' := 182) rfl rfl rfl ?_
        refine R_iload (pc' := 184) rfl rfl rfl ?_
        refine R_iload (pc' := 186) rfl rfl rfl ?_
        refine KI_iv (as := [vI x5, vI x6]) (rest := [vI x5, vI x5, vR (some 1)]) (pc' := 189) rfl rfl rfl rfl rfl (Nat.le_of_ble_eq_true rfl) rfl (CI_mono h ?_)
        intro z1 I2 D3 h
        exact h
      · replace h := h.2 hc
        refine R_iload (pc' := 178) rfl rfl rfl ?_
        refine R_goto rfl ?_
        exact h
    · replace h := h.2 hc
      refine R_aload_n (pc' := 149) rfl rfl rfl ?_
      refine R_iload (pc' := 151) rfl rfl rfl ?_
      refine R_aload_n (pc' := 152) rfl rfl rfl ?_
      refine R_iload_n (pc' := 153) rfl rfl rfl ?_
      refine KI_iv (as := [vI x3]) (rest := [vI x5, vR (some 1)]) (pc' := 156) rfl rfl rfl rfl rfl (Nat.le_of_ble_eq_true rfl) rfl (CI_mono h ?_)
      intro z4 I5 D6 h
      refine R_iload_n (pc' := 157) rfl rfl rfl ?_
      refine R_iconst (pc' := 158) rfl rfl ?_
      refine KV_iv (as := [vI x5, vI z4, vI x3, vI 0]) (rest := []) (pc' := 161) rfl rfl rfl rfl rfl (Nat.le_of_ble_eq_true rfl) rfl (CV_mono h ?_)
      intro I8 D9 h
      refine R_goto rfl ?_
      exact R_forget (ls' := [vR (some 1), vR (some q1), vJ, vI x3, vI y0, vI x5, vJ]) ⟨Or.inl rfl, Or.inl rfl, Or.inl rfl, Or.inl rfl, Or.inl rfl, Or.inl rfl, Or.inr rfl, trivial⟩ h
  · replace h := h.2 hc
    refine R_aload_n (pc' := 120) rfl rfl rfl ?_
    refine R_iload (pc' := 122) rfl rfl rfl ?_
    refine R_aload_n (pc' := 123) rfl rfl rfl ?_
    refine R_iload (pc' := 125) rfl rfl rfl ?_
    refine R_iconst (pc' := 126) rfl rfl ?_
    have g10 := h.1
    replace h := h.2
    refine R_iadd (pc' := 127) rfl rfl g10 ?_
    refine KI_iv (as := [vI (x5 + 1)]) (rest := [vI x5, vR (some 1)]) (pc' := 130) rfl rfl rfl rfl rfl (Nat.le_of_ble_eq_true rfl) rfl (CI_mono h ?_)
    intro z11 I12 D13 h
    refine R_iload (pc' := 132) rfl rfl rfl ?_
    refine R_iconst (pc' := 133) rfl rfl ?_
    have g14 := h.1
    replace h := h.2
    refine R_iadd (pc' := 134) rfl rfl g14 ?_
    refine R_iconst (pc' := 135) rfl rfl ?_
    refine KV_iv (as := [vI x5, vI z11, vI (x5 + 1), vI 0]) (rest := []) (pc' := 138) rfl rfl rfl rfl rfl (Nat.le_of_ble_eq_true rfl) rfl (CV_mono h ?_)
    intro I16 D17 h
    refine R_goto rfl ?_
    exact R_forget (ls' := [vR (some 1), vR (some q1), vJ, vI x3, vI y0, vI x5, vJ]) ⟨Or.inl rfl, Or.inl rfl, Or.inl rfl, Or.inl rfl, Or.inl rfl, Or.inl rfl, Or.inr rfl, trivial⟩ h
theorem S43_189 {e : En} {I : HI} {D : HD} {Q : HI → HD → Prop} {q1 : Nat} {x3 : Int} {x4 : Int} {x5 : Int} {x6 : Int} {y1 : Int} {y2 : Int} {y3 : Int} (he : HS e) (hq1 : K0 q1 = 22)
    (h : CV 44 [vR (some 1), vI y1, vI y2, vI y3, vI 1] e I D (fun I2 D3 => CI 46 [vR (some 1), vI x5] e I2 D3 (fun z4 I5 D6 => (0 ≤ x5 ∧ x5 < 3001) ∧ (0 ≤ x5 ∧ x5 < 3001) ∧ ((z4 < 0 → CI 47 [vR (some 1), vI x5, vI x6] e (uI I5 5 (x5.toNat) z4) D6 (fun z9 I10 D11 => RV 43 239 [vR (some 1), vR (some q1), vJ, vI x3, vI x4, vI x5, vJ] [vI z9, vI x5, vR (some 4)] e I10 D11 Q)) ∧ (¬ (z4 < 0) → CI 48 [vR (some 1), vI x5] e (uI I5 5 (x5.toNat) z4) D6 (fun z12 I13 D14 => RV 43 239 [vR (some 1), vR (some q1), vJ, vI x3, vI x4, vI x5, vJ] [vI z12, vI x5, vR (some 4)] e I13 D14 Q)))))) :
    RV 43 189 [vR (some 1), vR (some q1), vJ, vI x3, vI x4, vI x5, vI x6] [vI y3, vI y2, vI y1, vR (some 1)] e I D Q := by
  show Run 43 189 [vR (some 1), vR (some q1), vJ, vI x3, vI x4, vI x5, vI x6] [vI y3, vI y2, vI y1, vR (some 1)] (mk e I D) (pV e Q)
  refine R_iconst (pc' := 190) rfl rfl ?_
  refine KV_iv (as := [vI y1, vI y2, vI y3, vI 1]) (rest := []) (pc' := 193) rfl rfl rfl rfl rfl (Nat.le_of_ble_eq_true rfl) rfl (CV_mono h ?_)
  intro I2 D3 h
  refine R_aload_n (pc' := 194) rfl rfl rfl ?_
  refine K_getR (pc' := 197) rfl rfl rfl rfl (st_at he rfl rfl (by decide)) ?_
  refine R_iload (pc' := 199) rfl rfl rfl ?_
  refine R_aload_n (pc' := 200) rfl rfl rfl ?_
  refine R_iload (pc' := 202) rfl rfl rfl ?_
  refine KI_iv (as := [vI x5]) (rest := [vI x5, vR (some 5)]) (pc' := 205) rfl rfl rfl rfl rfl (Nat.le_of_ble_eq_true rfl) rfl (CI_mono h ?_)
  intro z4 I5 D6 h
  have g7 := h.1
  replace h := h.2
  refine K_iast (pc' := 206) rfl rfl rfl g7.1 g7.2 ?_
  refine R_aload_n (pc' := 207) rfl rfl rfl ?_
  refine K_getR (pc' := 210) rfl rfl rfl rfl (st_at he rfl rfl (by decide)) ?_
  refine R_iload (pc' := 212) rfl rfl rfl ?_
  refine R_aload_n (pc' := 213) rfl rfl rfl ?_
  refine K_getR (pc' := 216) rfl rfl rfl rfl (st_at he rfl rfl (by decide)) ?_
  refine R_iload (pc' := 218) rfl rfl rfl ?_
  have g8 := h.1
  replace h := h.2
  refine K_iald (pc' := 219) rfl rfl rfl g8.1 g8.2 uI_eq ?_
  refine R_iflt (pc' := 222) rfl rfl (fun hc => ?_) (fun hc => ?_)
  · replace h := h.1 hc
    refine R_aload_n (pc' := 232) rfl rfl rfl ?_
    refine R_iload (pc' := 234) rfl rfl rfl ?_
    refine R_iload (pc' := 236) rfl rfl rfl ?_
    refine KI_iv (as := [vI x5, vI x6]) (rest := [vI x5, vR (some 4)]) (pc' := 239) rfl rfl rfl rfl rfl (Nat.le_of_ble_eq_true rfl) rfl (CI_mono h ?_)
    intro z9 I10 D11 h
    exact R_forget (ls' := [vR (some 1), vR (some q1), vJ, vI x3, vI x4, vI x5, vJ]) ⟨Or.inl rfl, Or.inl rfl, Or.inl rfl, Or.inl rfl, Or.inl rfl, Or.inl rfl, Or.inr rfl, trivial⟩ h
  · replace h := h.2 hc
    refine R_aload_n (pc' := 223) rfl rfl rfl ?_
    refine R_iload (pc' := 225) rfl rfl rfl ?_
    refine KI_iv (as := [vI x5]) (rest := [vI x5, vR (some 4)]) (pc' := 228) rfl rfl rfl rfl rfl (Nat.le_of_ble_eq_true rfl) rfl (CI_mono h ?_)
    intro z12 I13 D14 h
    refine R_goto rfl ?_
    exact R_forget (ls' := [vR (some 1), vR (some q1), vJ, vI x3, vI x4, vI x5, vJ]) ⟨Or.inl rfl, Or.inl rfl, Or.inl rfl, Or.inl rfl, Or.inl rfl, Or.inl rfl, Or.inr rfl, trivial⟩ h
theorem S43_239 {e : En} {I : HI} {D : HD} {Q : HI → HD → Prop} {q1 : Nat} {x3 : Int} {x4 : Int} {x5 : Int} {y1 : Int} {y2 : Int} (he : HS e) (hq1 : K0 q1 = 22)
    (h : (0 ≤ y1 ∧ y1 < 3001) ∧ RV 43 240 [vR (some 1), vR (some q1), vJ, vI x3, vI x4, vI x5, vJ] [] e (uI I 4 (y1.toNat) y2) D Q) :
    RV 43 239 [vR (some 1), vR (some q1), vJ, vI x3, vI x4, vI x5, vJ] [vI y2, vI y1, vR (some 4)] e I D Q := by
  show Run 43 239 [vR (some 1), vR (some q1), vJ, vI x3, vI x4, vI x5, vJ] [vI y2, vI y1, vR (some 4)] (mk e I D) (pV e Q)
  have g1 := h.1
  replace h := h.2
  refine K_iast (pc' := 240) rfl rfl rfl g1.1 g1.2 ?_
  exact h
theorem S43_240 {e : En} {I : HI} {D : HD} {Q : HI → HD → Prop} {q1 : Nat} {x3 : Int} {x4 : Int} {x5 : Int} (he : HS e) (hq1 : K0 q1 = 22)
    (h : (-2147483648 ≤ (x5 + (-1)) ∧ (x5 + (-1)) < 2147483648) ∧ RV 43 65 [vR (some 1), vR (some q1), vJ, vI x3, vI x4, vI (x5 + (-1)), vJ] [] e I D Q) :
    RV 43 240 [vR (some 1), vR (some q1), vJ, vI x3, vI x4, vI x5, vJ] [] e I D Q := by
  show Run 43 240 [vR (some 1), vR (some q1), vJ, vI x3, vI x4, vI x5, vJ] [] (mk e I D) (pV e Q)
  have g1 := h.1
  replace h := h.2
  refine R_iinc (ls' := [vR (some 1), vR (some q1), vJ, vI x3, vI x4, vI (x5 + (-1)), vJ]) (pc' := 243) rfl rfl rfl g1 rfl ?_
  refine R_goto rfl ?_
  exact h
/-! 44 X6_setPlace -/
theorem S44 {e : En} {I : HI} {D : HD} {Q : HI → HD → Prop} {x1 : Int} {x2 : Int} {x3 : Int} {x4 : Int} (he : HS e)
    (h : (0 ≤ x1 ∧ x1 < 3001) ∧ (0 ≤ x1 ∧ x1 < 3001) ∧ (0 ≤ x1 ∧ x1 < 3001) ∧ (0 ≤ x1 ∧ x1 < 3001) ∧ Q (uI (uI (uI (uI I 2 (x1.toNat) x2) 3 (x1.toNat) x3) 4 (x1.toNat) x4) 5 (x1.toNat) (-1)) D) :
    CV 44 [vR (some 1), vI x1, vI x2, vI x3, vI x4] e I D Q := by
  refine Call_run (ls := [vR (some 1), vI x1, vI x2, vI x3, vI x4]) rfl rfl ?_
  refine R_aload_n (pc' := 1) rfl rfl rfl ?_
  refine K_getR (pc' := 4) rfl rfl rfl rfl (st_at he rfl rfl (by decide)) ?_
  refine R_iload_n (pc' := 5) rfl rfl rfl ?_
  refine R_iload_n (pc' := 6) rfl rfl rfl ?_
  have g1 := h.1
  replace h := h.2
  refine K_iast (pc' := 7) rfl rfl rfl g1.1 g1.2 ?_
  refine R_aload_n (pc' := 8) rfl rfl rfl ?_
  refine K_getR (pc' := 11) rfl rfl rfl rfl (st_at he rfl rfl (by decide)) ?_
  refine R_iload_n (pc' := 12) rfl rfl rfl ?_
  refine R_iload_n (pc' := 13) rfl rfl rfl ?_
  have g2 := h.1
  replace h := h.2
  refine K_iast (pc' := 14) rfl rfl rfl g2.1 g2.2 ?_
  refine R_aload_n (pc' := 15) rfl rfl rfl ?_
  refine K_getR (pc' := 18) rfl rfl rfl rfl (st_at he rfl rfl (by decide)) ?_
  refine R_iload_n (pc' := 19) rfl rfl rfl ?_
  refine R_iload (pc' := 21) rfl rfl rfl ?_
  have g3 := h.1
  replace h := h.2
  refine K_iast (pc' := 22) rfl rfl rfl g3.1 g3.2 ?_
  refine R_aload_n (pc' := 23) rfl rfl rfl ?_
  refine K_getR (pc' := 26) rfl rfl rfl rfl (st_at he rfl rfl (by decide)) ?_
  refine R_iload_n (pc' := 27) rfl rfl rfl ?_
  refine R_iconst (pc' := 28) rfl rfl ?_
  have g4 := h.1
  replace h := h.2
  refine K_iast (pc' := 29) rfl rfl rfl g4.1 g4.2 ?_
  exact R_vret rfl rfl ⟨_, _, rfl, rfl, h⟩
/-! 45 X6_tokenEnd -/
theorem S45 {e : En} {I : HI} {D : HD} {Q : Int → HI → HD → Prop} {x1 : Int} {x2 : Int} (he : HS e)
    (h : (-2147483648 ≤ (x1 + 1) ∧ (x1 + 1) < 2147483648) ∧ CI 50 [vR (some 1), vI (x1 + 1)] e I D (fun z2 I3 D4 => ((x2 = 47 → RI 45 21 [vR (some 1), vI x1, vJ, vI z2] [] e I3 D4 Q) ∧ (¬ (x2 = 47) → CI 49 [vI x2] e I3 D4 (fun z5 I6 D7 => ((z5 = 0 → ((x2 = 60 → RI 45 54 [vJ, vI x1, vI x2, vI z2] [] e I6 D7 Q) ∧ (¬ (x2 = 60) → ((¬ x2 = 62 → (-2147483648 ≤ (x1 + 1) ∧ (x1 + 1) < 2147483648) ∧ Q (x1 + 1) I6 D7) ∧ (¬ (¬ x2 = 62) → RI 45 54 [vJ, vI x1, vI x2, vI z2] [] e I6 D7 Q))))) ∧ (¬ (z5 = 0) → RI 45 21 [vR (some 1), vI x1, vJ, vI z2] [] e I6 D7 Q))))))) :
    CI 45 [vR (some 1), vI x1, vI x2] e I D Q := by
  refine Call_run (ls := [vR (some 1), vI x1, vI x2, vJ]) rfl rfl ?_
  refine R_aload_n (pc' := 1) rfl rfl rfl ?_
  refine R_iload_n (pc' := 2) rfl rfl rfl ?_
  refine R_iconst (pc' := 3) rfl rfl ?_
  have g1 := h.1
  replace h := h.2
  refine R_iadd (pc' := 4) rfl rfl g1 ?_
  refine KI_iv (as := [vI (x1 + 1)]) (rest := []) (pc' := 7) rfl rfl rfl rfl rfl (Nat.le_of_ble_eq_true rfl) rfl (CI_mono h ?_)
  intro z2 I3 D4 h
  refine R_istore_n (ls' := [vR (some 1), vI x1, vI x2, vI z2]) (pc' := 8) rfl rfl rfl ?_
  refine R_iload_n (pc' := 9) rfl rfl rfl ?_
  refine R_bipush (pc' := 11) rfl rfl ?_
  refine R_iceq (pc' := 14) rfl rfl (fun hc => ?_) (fun hc => ?_)
  · replace h := h.1 hc
    exact R_forget (ls' := [vR (some 1), vI x1, vJ, vI z2]) ⟨Or.inl rfl, Or.inl rfl, Or.inr rfl, Or.inl rfl, trivial⟩ h
  · replace h := h.2 hc
    refine R_iload_n (pc' := 15) rfl rfl rfl ?_
    refine KI_st (as := [vI x2]) (rest := []) (pc' := 18) rfl rfl rfl (Nat.le_of_ble_eq_true rfl) rfl (CI_mono h ?_)
    intro z5 I6 D7 h
    refine R_ifeq (pc' := 21) rfl rfl (fun hc => ?_) (fun hc => ?_)
    · replace h := h.1 hc
      refine R_iload_n (pc' := 43) rfl rfl rfl ?_
      refine R_bipush (pc' := 45) rfl rfl ?_
      refine R_iceq (pc' := 48) rfl rfl (fun hc => ?_) (fun hc => ?_)
      · replace h := h.1 hc
        exact R_forget (ls' := [vJ, vI x1, vI x2, vI z2]) ⟨Or.inr rfl, Or.inl rfl, Or.inl rfl, Or.inl rfl, trivial⟩ h
      · replace h := h.2 hc
        refine R_iload_n (pc' := 49) rfl rfl rfl ?_
        refine R_bipush (pc' := 51) rfl rfl ?_
        refine R_icne (pc' := 54) rfl rfl (fun hc => ?_) (fun hc => ?_)
        · replace h := h.1 hc
          refine R_iload_n (pc' := 66) rfl rfl rfl ?_
          refine R_iconst (pc' := 67) rfl rfl ?_
          have g8 := h.1
          replace h := h.2
          refine R_iadd (pc' := 68) rfl rfl g8 ?_
          exact R_iret rfl rfl ⟨_, _, _, rfl, rfl, h⟩
        · replace h := h.2 hc
          exact R_forget (ls' := [vJ, vI x1, vI x2, vI z2]) ⟨Or.inr rfl, Or.inl rfl, Or.inl rfl, Or.inl rfl, trivial⟩ h
    · replace h := h.2 hc
      exact R_forget (ls' := [vR (some 1), vI x1, vJ, vI z2]) ⟨Or.inl rfl, Or.inl rfl, Or.inr rfl, Or.inl rfl, trivial⟩ h
theorem S45_21 {e : En} {I : HI} {D : HD} {Q : Int → HI → HD → Prop} {x1 : Int} {x3 : Int} (he : HS e)
    (h : CI 49 [vI x3] e I D (fun z1 I2 D3 => ((z1 = 0 → (-2147483648 ≤ (x1 + 1) ∧ (x1 + 1) < 2147483648) ∧ Q (x1 + 1) I2 D3) ∧ (¬ (z1 = 0) → (-2147483648 ≤ (x1 + 1) ∧ (x1 + 1) < 2147483648) ∧ CI 52 [vR (some 1), vI (x1 + 1)] e I2 D3 (fun z6 I7 D8 => Q z6 I7 D8))))) :
    RI 45 21 [vR (some 1), vI x1, vJ, vI x3] [] e I D Q := by
  show Run 45 21 [vR (some 1), vI x1, vJ, vI x3] [] (mk e I D) (pI e Q)
  refine R_iload_n (pc' := 22) rfl rfl rfl ?_
  refine KI_st (as := [vI x3]) (rest := []) (pc' := 25) rfl rfl rfl (Nat.le_of_ble_eq_true rfl) rfl (CI_mono h ?_)
  intro z1 I2 D3 h
  refine R_ifeq (pc' := 28) rfl rfl (fun hc => ?_) (fun hc => ?_)
  · replace h := h.1 hc
    refine R_iload_n (pc' := 39) rfl rfl rfl ?_
    refine R_iconst (pc' := 40) rfl rfl ?_
    have g4 := h.1
    replace h := h.2
    refine R_iadd (pc' := 41) rfl rfl g4 ?_
    exact R_iret rfl rfl ⟨_, _, _, rfl, rfl, h⟩
  · replace h := h.2 hc
    refine R_aload_n (pc' := 29) rfl rfl rfl ?_
    refine R_iload_n (pc' := 30) rfl rfl rfl ?_
    refine R_iconst (pc' := 31) rfl rfl ?_
    have g5 := h.1
    replace h := h.2
    refine R_iadd (pc' := 32) rfl rfl g5 ?_
    refine KI_iv (as := [vI (x1 + 1)]) (rest := []) (pc' := 35) rfl rfl rfl rfl rfl (Nat.le_of_ble_eq_true rfl) rfl (CI_mono h ?_)
    intro z6 I7 D8 h
    refine R_goto rfl ?_
    exact R_iret rfl rfl ⟨_, _, _, rfl, rfl, h⟩
theorem S45_54 {e : En} {I : HI} {D : HD} {Q : Int → HI → HD → Prop} {x1 : Int} {x2 : Int} {x3 : Int} (he : HS e)
    (h : ((¬ x3 = x2 → (-2147483648 ≤ (x1 + 1) ∧ (x1 + 1) < 2147483648) ∧ Q (x1 + 1) I D) ∧ (¬ (¬ x3 = x2) → (-2147483648 ≤ (x1 + 2) ∧ (x1 + 2) < 2147483648) ∧ Q (x1 + 2) I D))) :
    RI 45 54 [vJ, vI x1, vI x2, vI x3] [] e I D Q := by
  show Run 45 54 [vJ, vI x1, vI x2, vI x3] [] (mk e I D) (pI e Q)
  refine R_iload_n (pc' := 55) rfl rfl rfl ?_
  refine R_iload_n (pc' := 56) rfl rfl rfl ?_
  refine R_icne (pc' := 59) rfl rfl (fun hc => ?_) (fun hc => ?_)
  · replace h := h.1 hc
    refine R_iload_n (pc' := 66) rfl rfl rfl ?_
    refine R_iconst (pc' := 67) rfl rfl ?_
    have g1 := h.1
    replace h := h.2
    refine R_iadd (pc' := 68) rfl rfl g1 ?_
    exact R_iret rfl rfl ⟨_, _, _, rfl, rfl, h⟩
  · replace h := h.2 hc
    refine R_iload_n (pc' := 60) rfl rfl rfl ?_
    refine R_iconst (pc' := 61) rfl rfl ?_
    have g2 := h.1
    replace h := h.2
    refine R_iadd (pc' := 62) rfl rfl g2 ?_
    refine R_goto rfl ?_
    exact R_iret rfl rfl ⟨_, _, _, rfl, rfl, h⟩
/-! 46 X6_numberOf -/
theorem S46 {e : En} {I : HI} {D : HD} {Q : Int → HI → HD → Prop} {x1 : Int} (he : HS e)
    (h : CI 52 [vR (some 1), vI x1] e I D (fun z1 I2 D3 => (-2147483648 ≤ (z1 - x1) ∧ (z1 - x1) < 2147483648) ∧ (((z1 - x1) ≤ 6 → RI 46 21 [vR (some 1), vJ, vI 0, vI z1, vI x1, vJ] [] e I2 D3 Q) ∧ (¬ ((z1 - x1) ≤ 6) → Q (-1) I2 D3)))) :
    CI 46 [vR (some 1), vI x1] e I D Q := by
  refine Call_run (ls := [vR (some 1), vI x1, vJ, vJ, vJ, vJ]) rfl rfl ?_
  refine R_iconst (pc' := 1) rfl rfl ?_
  refine R_istore_n (ls' := [vR (some 1), vI x1, vI 0, vJ, vJ, vJ]) (pc' := 2) rfl rfl rfl ?_
  refine R_aload_n (pc' := 3) rfl rfl rfl ?_
  refine R_iload_n (pc' := 4) rfl rfl rfl ?_
  refine KI_iv (as := [vI x1]) (rest := []) (pc' := 7) rfl rfl rfl rfl rfl (Nat.le_of_ble_eq_true rfl) rfl (CI_mono h ?_)
  intro z1 I2 D3 h
  refine R_istore_n (ls' := [vR (some 1), vI x1, vI 0, vI z1, vJ, vJ]) (pc' := 8) rfl rfl rfl ?_
  refine R_iload_n (pc' := 9) rfl rfl rfl ?_
  refine R_iload_n (pc' := 10) rfl rfl rfl ?_
  have g4 := h.1
  replace h := h.2
  refine R_isub (pc' := 11) rfl rfl g4 ?_
  refine R_bipush (pc' := 13) rfl rfl ?_
  refine R_icle (pc' := 16) rfl rfl (fun hc => ?_) (fun hc => ?_)
  · replace h := h.1 hc
    refine R_iload_n (pc' := 19) rfl rfl rfl ?_
    refine R_istore (ls' := [vR (some 1), vI x1, vI 0, vI z1, vI x1, vJ]) (pc' := 21) rfl rfl rfl ?_
    exact R_forget (ls' := [vR (some 1), vJ, vI 0, vI z1, vI x1, vJ]) ⟨Or.inl rfl, Or.inr rfl, Or.inl rfl, Or.inl rfl, Or.inl rfl, Or.inl rfl, trivial⟩ h
  · replace h := h.2 hc
    refine R_iconst (pc' := 17) rfl rfl ?_
    exact R_iret rfl rfl ⟨_, _, _, rfl, rfl, h⟩
theorem S46_21 {e : En} {I : HI} {D : HD} {Q : Int → HI → HD → Prop} {x2 : Int} {x3 : Int} {x4 : Int} (he : HS e)
    (h : ((x3 ≤ x4 → Q x2 I D) ∧ (¬ (x3 ≤ x4) → CI 50 [vR (some 1), vI x4] e I D (fun z1 I2 D3 => (-2147483648 ≤ (z1 - 48) ∧ (z1 - 48) < 2147483648) ∧ (((z1 - 48) < 0 → Q (-1) I2 D3) ∧ (¬ ((z1 - 48) < 0) → (((z1 - 48) ≤ 9 → (-2147483648 ≤ (x2 * 10) ∧ (x2 * 10) < 2147483648) ∧ (-2147483648 ≤ ((x2 * 10) + (z1 - 48)) ∧ ((x2 * 10) + (z1 - 48)) < 2147483648) ∧ (-2147483648 ≤ (x4 + 1) ∧ (x4 + 1) < 2147483648) ∧ RI 46 21 [vR (some 1), vJ, vI ((x2 * 10) + (z1 - 48)), vI x3, vI (x4 + 1), vJ] [] e I2 D3 Q) ∧ (¬ ((z1 - 48) ≤ 9) → Q (-1) I2 D3)))))))) :
    RI 46 21 [vR (some 1), vJ, vI x2, vI x3, vI x4, vJ] [] e I D Q := by
  show Run 46 21 [vR (some 1), vJ, vI x2, vI x3, vI x4, vJ] [] (mk e I D) (pI e Q)
  refine R_iload (pc' := 23) rfl rfl rfl ?_
  refine R_iload_n (pc' := 24) rfl rfl rfl ?_
  refine R_icge (pc' := 27) rfl rfl (fun hc => ?_) (fun hc => ?_)
  · replace h := h.1 hc
    refine R_iload_n (pc' := 67) rfl rfl rfl ?_
    exact R_iret rfl rfl ⟨_, _, _, rfl, rfl, h⟩
  · replace h := h.2 hc
    refine R_aload_n (pc' := 28) rfl rfl rfl ?_
    refine R_iload (pc' := 30) rfl rfl rfl ?_
    refine KI_iv (as := [vI x4]) (rest := []) (pc' := 33) rfl rfl rfl rfl rfl (Nat.le_of_ble_eq_true rfl) rfl (CI_mono h ?_)
    intro z1 I2 D3 h
    refine R_bipush (pc' := 35) rfl rfl ?_
    have g4 := h.1
    replace h := h.2
    refine R_isub (pc' := 36) rfl rfl g4 ?_
    refine R_istore (ls' := [vR (some 1), vJ, vI x2, vI x3, vI x4, vI (z1 - 48)]) (pc' := 38) rfl rfl rfl ?_
    refine R_iload (pc' := 40) rfl rfl rfl ?_
    refine R_iflt (pc' := 43) rfl rfl (fun hc => ?_) (fun hc => ?_)
    · replace h := h.1 hc
      refine R_iconst (pc' := 51) rfl rfl ?_
      exact R_iret rfl rfl ⟨_, _, _, rfl, rfl, h⟩
    · replace h := h.2 hc
      refine R_iload (pc' := 45) rfl rfl rfl ?_
      refine R_bipush (pc' := 47) rfl rfl ?_
      refine R_icle (pc' := 50) rfl rfl (fun hc => ?_) (fun hc => ?_)
      · replace h := h.1 hc
        refine R_iload_n (pc' := 53) rfl rfl rfl ?_
        refine R_bipush (pc' := 55) rfl rfl ?_
        have g5 := h.1
        replace h := h.2
        refine R_imul (pc' := 56) rfl rfl g5 ?_
        refine R_iload (pc' := 58) rfl rfl rfl ?_
        have g6 := h.1
        replace h := h.2
        refine R_iadd (pc' := 59) rfl rfl g6 ?_
        refine R_istore_n (ls' := [vR (some 1), vJ, vI ((x2 * 10) + (z1 - 48)), vI x3, vI x4, vI (z1 - 48)]) (pc' := 60) rfl rfl rfl ?_
        have g7 := h.1
        replace h := h.2
        refine R_iinc (ls' := [vR (some 1), vJ, vI ((x2 * 10) + (z1 - 48)), vI x3, vI (x4 + 1), vI (z1 - 48)]) (pc' := 63) rfl rfl rfl g7 rfl ?_
        refine R_goto rfl ?_
        exact R_forget (ls' := [vR (some 1), vJ, vI ((x2 * 10) + (z1 - 48)), vI x3, vI (x4 + 1), vJ]) ⟨Or.inl rfl, Or.inl rfl, Or.inl rfl, Or.inl rfl, Or.inl rfl, Or.inr rfl, trivial⟩ h
      · replace h := h.2 hc
        refine R_iconst (pc' := 51) rfl rfl ?_
        exact R_iret rfl rfl ⟨_, _, _, rfl, rfl, h⟩
/-! 47 X6_kindOf -/
theorem S47 {e : En} {I : HI} {D : HD} {Q : Int → HI → HD → Prop} {x1 : Int} {x2 : Int} (he : HS e)
    (h : CI 49 [vI x2] e I D (fun z1 I2 D3 => ((z1 = 0 → CI 52 [vR (some 1), vI x1] e I2 D3 (fun z4 I5 D6 => (-2147483648 ≤ (x1 + 2) ∧ (x1 + 2) < 2147483648) ∧ ((¬ z4 = (x1 + 2) → RI 47 55 [vJ, vJ, vI x2, vJ] [vI 0] e I5 D6 Q) ∧ (¬ (¬ z4 = (x1 + 2)) → RI 47 55 [vJ, vJ, vI x2, vJ] [vI 1] e I5 D6 Q)))) ∧ (¬ (z1 = 0) → CI 57 [vR (some 1), vI x1, vS 12] e I2 D3 (fun z8 I9 D10 => ((z8 = 0 → CI 57 [vR (some 1), vI x1, vS 13] e I9 D10 (fun z11 I12 D13 => ((z11 = 0 → Q 2 I12 D13) ∧ (¬ (z11 = 0) → Q 7 I12 D13)))) ∧ (¬ (z8 = 0) → Q 6 I9 D10))))))) :
    CI 47 [vR (some 1), vI x1, vI x2] e I D Q := by
  refine Call_run (ls := [vR (some 1), vI x1, vI x2, vJ]) rfl rfl ?_
  refine R_iload_n (pc' := 1) rfl rfl rfl ?_
  refine KI_st (as := [vI x2]) (rest := []) (pc' := 4) rfl rfl rfl (Nat.le_of_ble_eq_true rfl) rfl (CI_mono h ?_)
  intro z1 I2 D3 h
  refine R_ifeq (pc' := 7) rfl rfl (fun hc => ?_) (fun hc => ?_)
  · replace h := h.1 hc
    refine R_aload_n (pc' := 40) rfl rfl rfl ?_
    refine R_iload_n (pc' := 41) rfl rfl rfl ?_
    refine KI_iv (as := [vI x1]) (rest := []) (pc' := 44) rfl rfl rfl rfl rfl (Nat.le_of_ble_eq_true rfl) rfl (CI_mono h ?_)
    intro z4 I5 D6 h
    refine R_iload_n (pc' := 45) rfl rfl rfl ?_
    refine R_iconst (pc' := 46) rfl rfl ?_
    have g7 := h.1
    replace h := h.2
    refine R_iadd (pc' := 47) rfl rfl g7 ?_
    refine R_icne (pc' := 50) rfl rfl (fun hc => ?_) (fun hc => ?_)
    · replace h := h.1 hc
      refine R_iconst (pc' := 55) rfl rfl ?_
      exact R_forget (ls' := [vJ, vJ, vI x2, vJ]) ⟨Or.inr rfl, Or.inr rfl, Or.inl rfl, Or.inl rfl, trivial⟩ h
    · replace h := h.2 hc
      refine R_iconst (pc' := 51) rfl rfl ?_
      refine R_goto rfl ?_
      exact R_forget (ls' := [vJ, vJ, vI x2, vJ]) ⟨Or.inr rfl, Or.inr rfl, Or.inl rfl, Or.inl rfl, trivial⟩ h
  · replace h := h.2 hc
    refine R_aload_n (pc' := 8) rfl rfl rfl ?_
    refine R_iload_n (pc' := 9) rfl rfl rfl ?_
    refine R_ldcS (pc' := 11) rfl rfl ?_
    refine KI_iv (as := [vI x1, vS 12]) (rest := []) (pc' := 14) rfl rfl rfl rfl rfl (Nat.le_of_ble_eq_true rfl) rfl (CI_mono h ?_)
    intro z8 I9 D10 h
    refine R_ifeq (pc' := 17) rfl rfl (fun hc => ?_) (fun hc => ?_)
    · replace h := h.1 hc
      refine R_aload_n (pc' := 23) rfl rfl rfl ?_
      refine R_iload_n (pc' := 24) rfl rfl rfl ?_
      refine R_ldcS (pc' := 26) rfl rfl ?_
      refine KI_iv (as := [vI x1, vS 13]) (rest := []) (pc' := 29) rfl rfl rfl rfl rfl (Nat.le_of_ble_eq_true rfl) rfl (CI_mono h ?_)
      intro z11 I12 D13 h
      refine R_ifeq (pc' := 32) rfl rfl (fun hc => ?_) (fun hc => ?_)
      · replace h := h.1 hc
        refine R_iconst (pc' := 38) rfl rfl ?_
        exact R_iret rfl rfl ⟨_, _, _, rfl, rfl, h⟩
      · replace h := h.2 hc
        refine R_bipush (pc' := 34) rfl rfl ?_
        refine R_goto rfl ?_
        exact R_iret rfl rfl ⟨_, _, _, rfl, rfl, h⟩
    · replace h := h.2 hc
      refine R_bipush (pc' := 19) rfl rfl ?_
      refine R_goto rfl ?_
      exact R_iret rfl rfl ⟨_, _, _, rfl, rfl, h⟩
theorem S47_55 {e : En} {I : HI} {D : HD} {Q : Int → HI → HD → Prop} {x2 : Int} {y0 : Int} (he : HS e)
    (h : ((x2 = 47 → Q 8 I D) ∧ (x2 = 60 → ((y0 = 0 → Q 1 I D) ∧ (¬ (y0 = 0) → Q 9 I D))) ∧ (x2 = 62 → ((y0 = 0 → Q 1 I D) ∧ (¬ (y0 = 0) → Q 10 I D))) ∧ (x2 = 91 → Q 11 I D) ∧ (x2 = 93 → Q 12 I D) ∧ (x2 ≠ 47 → x2 ≠ 60 → x2 ≠ 62 → x2 ≠ 91 → x2 ≠ 93 → Q 1 I D))) :
    RI 47 55 [vJ, vJ, vI x2, vJ] [vI y0] e I D Q := by
  show Run 47 55 [vJ, vJ, vI x2, vJ] [vI y0] (mk e I D) (pI e Q)
  refine R_istore_n (ls' := [vJ, vJ, vI x2, vI y0]) (pc' := 56) rfl rfl rfl ?_
  refine R_iload_n (pc' := 57) rfl rfl rfl ?_
  by_cases c0 : x2 = 47
  · replace h := h.1 c0
    refine R_lsw (pc' := 108) rfl (by rw [c0]; rfl) ?_
    refine R_bipush (pc' := 110) rfl rfl ?_
    exact R_iret rfl rfl ⟨_, _, _, rfl, rfl, h⟩
  replace h := h.2
  by_cases c1 : x2 = 60
  · replace h := h.1 c1
    refine R_lsw (pc' := 111) rfl (by rw [c1]; rfl) ?_
    refine R_iload_n (pc' := 112) rfl rfl rfl ?_
    refine R_ifeq (pc' := 115) rfl rfl (fun hc => ?_) (fun hc => ?_)
    · replace h := h.1 hc
      refine R_iconst (pc' := 121) rfl rfl ?_
      exact R_iret rfl rfl ⟨_, _, _, rfl, rfl, h⟩
    · replace h := h.2 hc
      refine R_bipush (pc' := 117) rfl rfl ?_
      refine R_goto rfl ?_
      exact R_iret rfl rfl ⟨_, _, _, rfl, rfl, h⟩
  replace h := h.2
  by_cases c2 : x2 = 62
  · replace h := h.1 c2
    refine R_lsw (pc' := 122) rfl (by rw [c2]; rfl) ?_
    refine R_iload_n (pc' := 123) rfl rfl rfl ?_
    refine R_ifeq (pc' := 126) rfl rfl (fun hc => ?_) (fun hc => ?_)
    · replace h := h.1 hc
      refine R_iconst (pc' := 132) rfl rfl ?_
      exact R_iret rfl rfl ⟨_, _, _, rfl, rfl, h⟩
    · replace h := h.2 hc
      refine R_bipush (pc' := 128) rfl rfl ?_
      refine R_goto rfl ?_
      exact R_iret rfl rfl ⟨_, _, _, rfl, rfl, h⟩
  replace h := h.2
  by_cases c3 : x2 = 91
  · replace h := h.1 c3
    refine R_lsw (pc' := 133) rfl (by rw [c3]; rfl) ?_
    refine R_bipush (pc' := 135) rfl rfl ?_
    exact R_iret rfl rfl ⟨_, _, _, rfl, rfl, h⟩
  replace h := h.2
  by_cases c4 : x2 = 93
  · replace h := h.1 c4
    refine R_lsw (pc' := 136) rfl (by rw [c4]; rfl) ?_
    refine R_bipush (pc' := 138) rfl rfl ?_
    exact R_iret rfl rfl ⟨_, _, _, rfl, rfl, h⟩
  replace h := h.2
  replace h := h c0 c1 c2 c3 c4
  refine R_lsw (pc' := 139) rfl (by simp [swT, List.lookup, beq_iff_eq, beq_eq_false_iff_ne.mpr c0, beq_eq_false_iff_ne.mpr c1, beq_eq_false_iff_ne.mpr c2, beq_eq_false_iff_ne.mpr c3, beq_eq_false_iff_ne.mpr c4]) ?_
  refine R_iconst (pc' := 140) rfl rfl ?_
  exact R_iret rfl rfl ⟨_, _, _, rfl, rfl, h⟩
/-! 48 X6_kindOfNumber -/
theorem S48 {e : En} {I : HI} {D : HD} {Q : Int → HI → HD → Prop} {x1 : Int} (he : HS e)
    (h : CI 54 [vR (some 1), vI x1] e I D (fun z1 I2 D3 => CI 55 [vR (some 1), vI x1] e I2 D3 (fun z4 I5 D6 => CI 54 [vR (some 1), vI z4] e I5 D6 (fun z7 I8 D9 => (((0 : Int) ≤ z7 → CI 55 [vR (some 1), vI z4] e I8 D9 (fun z10 I11 D12 => CI 57 [vR (some 1), vI z10, vS 10] e I11 D12 (fun z13 I14 D15 => ((z13 = 0 → ((z1 < 1 → RI 48 57 [vR (some 1), vJ, vJ, vJ, vI z10, vJ] [] e I14 D15 Q) ∧ (¬ (z1 < 1) → (((60 : Int) < z1 → RI 48 57 [vR (some 1), vJ, vJ, vJ, vI z10, vJ] [] e I14 D15 Q) ∧ (¬ ((60 : Int) < z1) → RI 48 58 [vR (some 1), vJ, vJ, vJ, vI z10, vJ] [vI 1] e I14 D15 Q))))) ∧ (¬ (z13 = 0) → Q 4 I14 D15))))) ∧ (¬ ((0 : Int) ≤ z7) → Q 3 I8 D9)))))) :
    CI 48 [vR (some 1), vI x1] e I D Q := by
  refine Call_run (ls := [vR (some 1), vI x1, vJ, vJ, vJ, vJ]) rfl rfl ?_
  refine R_aload_n (pc' := 1) rfl rfl rfl ?_
  refine R_iload_n (pc' := 2) rfl rfl rfl ?_
  refine KI_iv (as := [vI x1]) (rest := []) (pc' := 5) rfl rfl rfl rfl rfl (Nat.le_of_ble_eq_true rfl) rfl (CI_mono h ?_)
  intro z1 I2 D3 h
  refine R_istore_n (ls' := [vR (some 1), vI x1, vI z1, vJ, vJ, vJ]) (pc' := 6) rfl rfl rfl ?_
  refine R_aload_n (pc' := 7) rfl rfl rfl ?_
  refine R_iload_n (pc' := 8) rfl rfl rfl ?_
  refine KI_iv (as := [vI x1]) (rest := []) (pc' := 11) rfl rfl rfl rfl rfl (Nat.le_of_ble_eq_true rfl) rfl (CI_mono h ?_)
  intro z4 I5 D6 h
  refine R_istore_n (ls' := [vR (some 1), vI x1, vI z1, vI z4, vJ, vJ]) (pc' := 12) rfl rfl rfl ?_
  refine R_aload_n (pc' := 13) rfl rfl rfl ?_
  refine R_iload_n (pc' := 14) rfl rfl rfl ?_
  refine KI_iv (as := [vI z4]) (rest := []) (pc' := 17) rfl rfl rfl rfl rfl (Nat.le_of_ble_eq_true rfl) rfl (CI_mono h ?_)
  intro z7 I8 D9 h
  refine R_ifge (pc' := 20) rfl rfl (fun hc => ?_) (fun hc => ?_)
  · replace h := h.1 hc
    refine R_aload_n (pc' := 23) rfl rfl rfl ?_
    refine R_iload_n (pc' := 24) rfl rfl rfl ?_
    refine KI_iv (as := [vI z4]) (rest := []) (pc' := 27) rfl rfl rfl rfl rfl (Nat.le_of_ble_eq_true rfl) rfl (CI_mono h ?_)
    intro z10 I11 D12 h
    refine R_istore (ls' := [vR (some 1), vI x1, vI z1, vI z4, vI z10, vJ]) (pc' := 29) rfl rfl rfl ?_
    refine R_aload_n (pc' := 30) rfl rfl rfl ?_
    refine R_iload (pc' := 32) rfl rfl rfl ?_
    refine R_ldcS (pc' := 34) rfl rfl ?_
    refine KI_iv (as := [vI z10, vS 10]) (rest := []) (pc' := 37) rfl rfl rfl rfl rfl (Nat.le_of_ble_eq_true rfl) rfl (CI_mono h ?_)
    intro z13 I14 D15 h
    refine R_ifeq (pc' := 40) rfl rfl (fun hc => ?_) (fun hc => ?_)
    · replace h := h.1 hc
      refine R_iload_n (pc' := 43) rfl rfl rfl ?_
      refine R_iconst (pc' := 44) rfl rfl ?_
      refine R_iclt (pc' := 47) rfl rfl (fun hc => ?_) (fun hc => ?_)
      · replace h := h.1 hc
        exact R_forget (ls' := [vR (some 1), vJ, vJ, vJ, vI z10, vJ]) ⟨Or.inl rfl, Or.inr rfl, Or.inr rfl, Or.inr rfl, Or.inl rfl, Or.inl rfl, trivial⟩ h
      · replace h := h.2 hc
        refine R_iload_n (pc' := 48) rfl rfl rfl ?_
        refine R_bipush (pc' := 50) rfl rfl ?_
        refine R_icgt (pc' := 53) rfl rfl (fun hc => ?_) (fun hc => ?_)
        · replace h := h.1 hc
          exact R_forget (ls' := [vR (some 1), vJ, vJ, vJ, vI z10, vJ]) ⟨Or.inl rfl, Or.inr rfl, Or.inr rfl, Or.inr rfl, Or.inl rfl, Or.inl rfl, trivial⟩ h
        · replace h := h.2 hc
          refine R_iconst (pc' := 54) rfl rfl ?_
          refine R_goto rfl ?_
          exact R_forget (ls' := [vR (some 1), vJ, vJ, vJ, vI z10, vJ]) ⟨Or.inl rfl, Or.inr rfl, Or.inr rfl, Or.inr rfl, Or.inl rfl, Or.inl rfl, trivial⟩ h
    · replace h := h.2 hc
      refine R_iconst (pc' := 41) rfl rfl ?_
      exact R_iret rfl rfl ⟨_, _, _, rfl, rfl, h⟩
  · replace h := h.2 hc
    refine R_iconst (pc' := 21) rfl rfl ?_
    exact R_iret rfl rfl ⟨_, _, _, rfl, rfl, h⟩
theorem S48_57 {e : En} {I : HI} {D : HD} {Q : Int → HI → HD → Prop} {x4 : Int} (he : HS e)
    (h : RI 48 58 [vR (some 1), vJ, vJ, vJ, vI x4, vJ] [vI 0] e I D Q) :
    RI 48 57 [vR (some 1), vJ, vJ, vJ, vI x4, vJ] [] e I D Q := by
  show Run 48 57 [vR (some 1), vJ, vJ, vJ, vI x4, vJ] [] (mk e I D) (pI e Q)
  refine R_iconst (pc' := 58) rfl rfl ?_
  exact h
theorem S48_58 {e : En} {I : HI} {D : HD} {Q : Int → HI → HD → Prop} {x4 : Int} {y0 : Int} (he : HS e)
    (h : ((y0 = 0 → Q 3 I D) ∧ (¬ (y0 = 0) → CI 57 [vR (some 1), vI x4, vS 11] e I D (fun z1 I2 D3 => ((z1 = 0 → Q 3 I2 D3) ∧ (¬ (z1 = 0) → Q 5 I2 D3)))))) :
    RI 48 58 [vR (some 1), vJ, vJ, vJ, vI x4, vJ] [vI y0] e I D Q := by
  show Run 48 58 [vR (some 1), vJ, vJ, vJ, vI x4, vJ] [vI y0] (mk e I D) (pI e Q)
  refine R_istore (ls' := [vR (some 1), vJ, vJ, vJ, vI x4, vI y0]) (pc' := 60) rfl rfl rfl ?_
  refine R_iload (pc' := 62) rfl rfl rfl ?_
  refine R_ifeq (pc' := 65) rfl rfl (fun hc => ?_) (fun hc => ?_)
  · replace h := h.1 hc
    refine R_iconst (pc' := 81) rfl rfl ?_
    exact R_iret rfl rfl ⟨_, _, _, rfl, rfl, h⟩
  · replace h := h.2 hc
    refine R_aload_n (pc' := 66) rfl rfl rfl ?_
    refine R_iload (pc' := 68) rfl rfl rfl ?_
    refine R_ldcS (pc' := 70) rfl rfl ?_
    refine KI_iv (as := [vI x4, vS 11]) (rest := []) (pc' := 73) rfl rfl rfl rfl rfl (Nat.le_of_ble_eq_true rfl) rfl (CI_mono h ?_)
    intro z1 I2 D3 h
    refine R_ifeq (pc' := 76) rfl rfl (fun hc => ?_) (fun hc => ?_)
    · replace h := h.1 hc
      refine R_iconst (pc' := 81) rfl rfl ?_
      exact R_iret rfl rfl ⟨_, _, _, rfl, rfl, h⟩
    · replace h := h.2 hc
      refine R_iconst (pc' := 77) rfl rfl ?_
      refine R_goto rfl ?_
      exact R_iret rfl rfl ⟨_, _, _, rfl, rfl, h⟩
/-! 49 X6_isRegular -/
theorem S49 {e : En} {I : HI} {D : HD} {Q : Int → HI → HD → Prop} {x0 : Int} (he : HS e)
    (h : ((x0 = 37 → Q 0 I D) ∧ (x0 = 40 → Q 0 I D) ∧ (x0 = 41 → Q 0 I D) ∧ (x0 = 47 → Q 0 I D) ∧ (x0 = 60 → Q 0 I D) ∧ (x0 = 62 → Q 0 I D) ∧ (x0 = 91 → Q 0 I D) ∧ (x0 = 93 → Q 0 I D) ∧ (x0 = 123 → Q 0 I D) ∧ (x0 = 125 → Q 0 I D) ∧ (x0 ≠ 37 → x0 ≠ 40 → x0 ≠ 41 → x0 ≠ 47 → x0 ≠ 60 → x0 ≠ 62 → x0 ≠ 91 → x0 ≠ 93 → x0 ≠ 123 → x0 ≠ 125 → ((x0 ≤ 32 → Q 0 I D) ∧ (¬ (x0 ≤ 32) → Q 1 I D))))) :
    CI 49 [vI x0] e I D Q := by
  refine Call_run (ls := [vI x0]) rfl rfl ?_
  refine R_iload_n (pc' := 1) rfl rfl rfl ?_
  by_cases c0 : x0 = 37
  · replace h := h.1 c0
    refine R_lsw (pc' := 92) rfl (by rw [c0]; rfl) ?_
    refine R_iconst (pc' := 93) rfl rfl ?_
    exact R_zret rfl rfl (Or.inl rfl) ⟨_, _, _, rfl, rfl, h⟩
  replace h := h.2
  by_cases c1 : x0 = 40
  · replace h := h.1 c1
    refine R_lsw (pc' := 92) rfl (by rw [c1]; rfl) ?_
    refine R_iconst (pc' := 93) rfl rfl ?_
    exact R_zret rfl rfl (Or.inl rfl) ⟨_, _, _, rfl, rfl, h⟩
  replace h := h.2
  by_cases c2 : x0 = 41
  · replace h := h.1 c2
    refine R_lsw (pc' := 92) rfl (by rw [c2]; rfl) ?_
    refine R_iconst (pc' := 93) rfl rfl ?_
    exact R_zret rfl rfl (Or.inl rfl) ⟨_, _, _, rfl, rfl, h⟩
  replace h := h.2
  by_cases c3 : x0 = 47
  · replace h := h.1 c3
    refine R_lsw (pc' := 92) rfl (by rw [c3]; rfl) ?_
    refine R_iconst (pc' := 93) rfl rfl ?_
    exact R_zret rfl rfl (Or.inl rfl) ⟨_, _, _, rfl, rfl, h⟩
  replace h := h.2
  by_cases c4 : x0 = 60
  · replace h := h.1 c4
    refine R_lsw (pc' := 92) rfl (by rw [c4]; rfl) ?_
    refine R_iconst (pc' := 93) rfl rfl ?_
    exact R_zret rfl rfl (Or.inl rfl) ⟨_, _, _, rfl, rfl, h⟩
  replace h := h.2
  by_cases c5 : x0 = 62
  · replace h := h.1 c5
    refine R_lsw (pc' := 92) rfl (by rw [c5]; rfl) ?_
    refine R_iconst (pc' := 93) rfl rfl ?_
    exact R_zret rfl rfl (Or.inl rfl) ⟨_, _, _, rfl, rfl, h⟩
  replace h := h.2
  by_cases c6 : x0 = 91
  · replace h := h.1 c6
    refine R_lsw (pc' := 92) rfl (by rw [c6]; rfl) ?_
    refine R_iconst (pc' := 93) rfl rfl ?_
    exact R_zret rfl rfl (Or.inl rfl) ⟨_, _, _, rfl, rfl, h⟩
  replace h := h.2
  by_cases c7 : x0 = 93
  · replace h := h.1 c7
    refine R_lsw (pc' := 92) rfl (by rw [c7]; rfl) ?_
    refine R_iconst (pc' := 93) rfl rfl ?_
    exact R_zret rfl rfl (Or.inl rfl) ⟨_, _, _, rfl, rfl, h⟩
  replace h := h.2
  by_cases c8 : x0 = 123
  · replace h := h.1 c8
    refine R_lsw (pc' := 92) rfl (by rw [c8]; rfl) ?_
    refine R_iconst (pc' := 93) rfl rfl ?_
    exact R_zret rfl rfl (Or.inl rfl) ⟨_, _, _, rfl, rfl, h⟩
  replace h := h.2
  by_cases c9 : x0 = 125
  · replace h := h.1 c9
    refine R_lsw (pc' := 92) rfl (by rw [c9]; rfl) ?_
    refine R_iconst (pc' := 93) rfl rfl ?_
    exact R_zret rfl rfl (Or.inl rfl) ⟨_, _, _, rfl, rfl, h⟩
  replace h := h.2
  replace h := h c0 c1 c2 c3 c4 c5 c6 c7 c8 c9
  refine R_lsw (pc' := 94) rfl (by simp [swT, List.lookup, beq_iff_eq, beq_eq_false_iff_ne.mpr c0, beq_eq_false_iff_ne.mpr c1, beq_eq_false_iff_ne.mpr c2, beq_eq_false_iff_ne.mpr c3, beq_eq_false_iff_ne.mpr c4, beq_eq_false_iff_ne.mpr c5, beq_eq_false_iff_ne.mpr c6, beq_eq_false_iff_ne.mpr c7, beq_eq_false_iff_ne.mpr c8, beq_eq_false_iff_ne.mpr c9]) ?_
  refine R_iload_n (pc' := 95) rfl rfl rfl ?_
  refine R_bipush (pc' := 97) rfl rfl ?_
  refine R_icle (pc' := 100) rfl rfl (fun hc => ?_) (fun hc => ?_)
  · replace h := h.1 hc
    refine R_iconst (pc' := 105) rfl rfl ?_
    exact R_zret rfl rfl (Or.inl rfl) ⟨_, _, _, rfl, rfl, h⟩
  · replace h := h.2 hc
    refine R_iconst (pc' := 101) rfl rfl ?_
    refine R_goto rfl ?_
    exact R_zret rfl rfl (Or.inr rfl) ⟨_, _, _, rfl, rfl, h⟩
/-! 50 X6_byteAt -/
theorem S50 {e : En} {I : HI} {D : HD} {Q : Int → HI → HD → Prop} {x1 : Int} (he : HS e)
    (h : ((x1 < 0 → Q (-1) I D) ∧ (¬ (x1 < 0) → (((I 1 5) ≤ x1 → Q (-1) I D) ∧ (¬ ((I 1 5) ≤ x1) → (K0 (D 1 4) = 22) ∧ (0 ≤ x1 ∧ x1 < ((L0 (D 1 4)) : Int)) ∧ Q ((I (D 1 4) (x1.toNat)) % 256) I D))))) :
    CI 50 [vR (some 1), vI x1] e I D Q := by
  refine Call_run (ls := [vR (some 1), vI x1]) rfl rfl ?_
  refine R_iload_n (pc' := 1) rfl rfl rfl ?_
  refine R_iflt (pc' := 4) rfl rfl (fun hc => ?_) (fun hc => ?_)
  · replace h := h.1 hc
    refine R_iconst (pc' := 26) rfl rfl ?_
    exact R_iret rfl rfl ⟨_, _, _, rfl, rfl, h⟩
  · replace h := h.2 hc
    refine R_iload_n (pc' := 5) rfl rfl rfl ?_
    refine R_aload_n (pc' := 6) rfl rfl rfl ?_
    refine K_getI (pc' := 9) rfl rfl (by decide) rfl rfl ?_
    refine R_icge (pc' := 12) rfl rfl (fun hc => ?_) (fun hc => ?_)
    · replace h := h.1 hc
      refine R_iconst (pc' := 26) rfl rfl ?_
      exact R_iret rfl rfl ⟨_, _, _, rfl, rfl, h⟩
    · replace h := h.2 hc
      refine R_aload_n (pc' := 13) rfl rfl rfl ?_
      refine K_getR (pc' := 16) rfl rfl rfl rfl (dy_at rfl) ?_
      refine R_iload_n (pc' := 17) rfl rfl rfl ?_
      have g1 := h.1
      replace h := h.2
      have g2 := h.1
      replace h := h.2
      refine K_bald (pc' := 18) rfl rfl g1 g2.1 g2.2 rfl ?_
      refine R_sipush (pc' := 21) rfl rfl ?_
      refine R_iand255 (pc' := 22) rfl rfl ?_
      refine R_goto rfl ?_
      exact R_iret rfl rfl ⟨_, _, _, rfl, rfl, h⟩
/-! 51 X6_startFrom -/
theorem S51 {e : En} {I : HI} {D : HD} {Q : Int → HI → HD → Prop} {x1 : Int} (he : HS e)
    (h : ((x1 < 0 → Q (I 1 5) I D) ∧ (¬ (x1 < 0) → (((I 1 5) < x1 → Q (I 1 5) I D) ∧ (¬ ((I 1 5) < x1) → (0 ≤ x1 ∧ x1 < 3001) ∧ Q (I 2 (x1.toNat)) I D))))) :
    CI 51 [vR (some 1), vI x1] e I D Q := by
  refine Call_run (ls := [vR (some 1), vI x1]) rfl rfl ?_
  refine R_iload_n (pc' := 1) rfl rfl rfl ?_
  refine R_iflt (pc' := 4) rfl rfl (fun hc => ?_) (fun hc => ?_)
  · replace h := h.1 hc
    refine R_aload_n (pc' := 22) rfl rfl rfl ?_
    refine K_getI (pc' := 25) rfl rfl (by decide) rfl rfl ?_
    exact R_iret rfl rfl ⟨_, _, _, rfl, rfl, h⟩
  · replace h := h.2 hc
    refine R_iload_n (pc' := 5) rfl rfl rfl ?_
    refine R_aload_n (pc' := 6) rfl rfl rfl ?_
    refine K_getI (pc' := 9) rfl rfl (by decide) rfl rfl ?_
    refine R_icgt (pc' := 12) rfl rfl (fun hc => ?_) (fun hc => ?_)
    · replace h := h.1 hc
      refine R_aload_n (pc' := 22) rfl rfl rfl ?_
      refine K_getI (pc' := 25) rfl rfl (by decide) rfl rfl ?_
      exact R_iret rfl rfl ⟨_, _, _, rfl, rfl, h⟩
    · replace h := h.2 hc
      refine R_aload_n (pc' := 13) rfl rfl rfl ?_
      refine K_getR (pc' := 16) rfl rfl rfl rfl (st_at he rfl rfl (by decide)) ?_
      refine R_iload_n (pc' := 17) rfl rfl rfl ?_
      have g1 := h.1
      replace h := h.2
      refine K_iald (pc' := 18) rfl rfl rfl g1.1 g1.2 rfl ?_
      refine R_goto rfl ?_
      exact R_iret rfl rfl ⟨_, _, _, rfl, rfl, h⟩
/-! 52 X6_endAt -/
theorem S52 {e : En} {I : HI} {D : HD} {Q : Int → HI → HD → Prop} {x1 : Int} (he : HS e)
    (h : ((x1 < 0 → Q (I 1 5) I D) ∧ (¬ (x1 < 0) → (((I 1 5) < x1 → Q (I 1 5) I D) ∧ (¬ ((I 1 5) < x1) → (0 ≤ x1 ∧ x1 < 3001) ∧ Q (I 3 (x1.toNat)) I D))))) :
    CI 52 [vR (some 1), vI x1] e I D Q := by
  refine Call_run (ls := [vR (some 1), vI x1]) rfl rfl ?_
  refine R_iload_n (pc' := 1) rfl rfl rfl ?_
  refine R_iflt (pc' := 4) rfl rfl (fun hc => ?_) (fun hc => ?_)
  · replace h := h.1 hc
    refine R_aload_n (pc' := 22) rfl rfl rfl ?_
    refine K_getI (pc' := 25) rfl rfl (by decide) rfl rfl ?_
    exact R_iret rfl rfl ⟨_, _, _, rfl, rfl, h⟩
  · replace h := h.2 hc
    refine R_iload_n (pc' := 5) rfl rfl rfl ?_
    refine R_aload_n (pc' := 6) rfl rfl rfl ?_
    refine K_getI (pc' := 9) rfl rfl (by decide) rfl rfl ?_
    refine R_icgt (pc' := 12) rfl rfl (fun hc => ?_) (fun hc => ?_)
    · replace h := h.1 hc
      refine R_aload_n (pc' := 22) rfl rfl rfl ?_
      refine K_getI (pc' := 25) rfl rfl (by decide) rfl rfl ?_
      exact R_iret rfl rfl ⟨_, _, _, rfl, rfl, h⟩
    · replace h := h.2 hc
      refine R_aload_n (pc' := 13) rfl rfl rfl ?_
      refine K_getR (pc' := 16) rfl rfl rfl rfl (st_at he rfl rfl (by decide)) ?_
      refine R_iload_n (pc' := 17) rfl rfl rfl ?_
      have g1 := h.1
      replace h := h.2
      refine K_iald (pc' := 18) rfl rfl rfl g1.1 g1.2 rfl ?_
      refine R_goto rfl ?_
      exact R_iret rfl rfl ⟨_, _, _, rfl, rfl, h⟩
/-! 53 X6_kindAt -/
theorem S53 {e : En} {I : HI} {D : HD} {Q : Int → HI → HD → Prop} {x1 : Int} (he : HS e)
    (h : ((x1 < 0 → Q 0 I D) ∧ (¬ (x1 < 0) → (((I 1 5) < x1 → Q 0 I D) ∧ (¬ ((I 1 5) < x1) → (0 ≤ x1 ∧ x1 < 3001) ∧ Q (I 4 (x1.toNat)) I D))))) :
    CI 53 [vR (some 1), vI x1] e I D Q := by
  refine Call_run (ls := [vR (some 1), vI x1]) rfl rfl ?_
  refine R_iload_n (pc' := 1) rfl rfl rfl ?_
  refine R_iflt (pc' := 4) rfl rfl (fun hc => ?_) (fun hc => ?_)
  · replace h := h.1 hc
    refine R_iconst (pc' := 22) rfl rfl ?_
    exact R_iret rfl rfl ⟨_, _, _, rfl, rfl, h⟩
  · replace h := h.2 hc
    refine R_iload_n (pc' := 5) rfl rfl rfl ?_
    refine R_aload_n (pc' := 6) rfl rfl rfl ?_
    refine K_getI (pc' := 9) rfl rfl (by decide) rfl rfl ?_
    refine R_icgt (pc' := 12) rfl rfl (fun hc => ?_) (fun hc => ?_)
    · replace h := h.1 hc
      refine R_iconst (pc' := 22) rfl rfl ?_
      exact R_iret rfl rfl ⟨_, _, _, rfl, rfl, h⟩
    · replace h := h.2 hc
      refine R_aload_n (pc' := 13) rfl rfl rfl ?_
      refine K_getR (pc' := 16) rfl rfl rfl rfl (st_at he rfl rfl (by decide)) ?_
      refine R_iload_n (pc' := 17) rfl rfl rfl ?_
      have g1 := h.1
      replace h := h.2
      refine K_iald (pc' := 18) rfl rfl rfl g1.1 g1.2 rfl ?_
      refine R_goto rfl ?_
      exact R_iret rfl rfl ⟨_, _, _, rfl, rfl, h⟩
/-! 54 X6_numberAt -/
theorem S54 {e : En} {I : HI} {D : HD} {Q : Int → HI → HD → Prop} {x1 : Int} (he : HS e)
    (h : ((x1 < 0 → Q (-1) I D) ∧ (¬ (x1 < 0) → (((I 1 5) < x1 → Q (-1) I D) ∧ (¬ ((I 1 5) < x1) → (0 ≤ x1 ∧ x1 < 3001) ∧ Q (I 5 (x1.toNat)) I D))))) :
    CI 54 [vR (some 1), vI x1] e I D Q := by
  refine Call_run (ls := [vR (some 1), vI x1]) rfl rfl ?_
  refine R_iload_n (pc' := 1) rfl rfl rfl ?_
  refine R_iflt (pc' := 4) rfl rfl (fun hc => ?_) (fun hc => ?_)
  · replace h := h.1 hc
    refine R_iconst (pc' := 22) rfl rfl ?_
    exact R_iret rfl rfl ⟨_, _, _, rfl, rfl, h⟩
  · replace h := h.2 hc
    refine R_iload_n (pc' := 5) rfl rfl rfl ?_
    refine R_aload_n (pc' := 6) rfl rfl rfl ?_
    refine K_getI (pc' := 9) rfl rfl (by decide) rfl rfl ?_
    refine R_icgt (pc' := 12) rfl rfl (fun hc => ?_) (fun hc => ?_)
    · replace h := h.1 hc
      refine R_iconst (pc' := 22) rfl rfl ?_
      exact R_iret rfl rfl ⟨_, _, _, rfl, rfl, h⟩
    · replace h := h.2 hc
      refine R_aload_n (pc' := 13) rfl rfl rfl ?_
      refine K_getR (pc' := 16) rfl rfl rfl rfl (st_at he rfl rfl (by decide)) ?_
      refine R_iload_n (pc' := 17) rfl rfl rfl ?_
      have g1 := h.1
      replace h := h.2
      refine K_iald (pc' := 18) rfl rfl rfl g1.1 g1.2 rfl ?_
      refine R_goto rfl ?_
      exact R_iret rfl rfl ⟨_, _, _, rfl, rfl, h⟩
/-! 55 X6_next -/
theorem S55 {e : En} {I : HI} {D : HD} {Q : Int → HI → HD → Prop} {x1 : Int} (he : HS e)
    (h : CI 52 [vR (some 1), vI x1] e I D (fun z1 I2 D3 => CI 51 [vR (some 1), vI z1] e I2 D3 (fun z4 I5 D6 => Q z4 I5 D6))) :
    CI 55 [vR (some 1), vI x1] e I D Q := by
  refine Call_run (ls := [vR (some 1), vI x1]) rfl rfl ?_
  refine R_aload_n (pc' := 1) rfl rfl rfl ?_
  refine R_aload_n (pc' := 2) rfl rfl rfl ?_
  refine R_iload_n (pc' := 3) rfl rfl rfl ?_
  refine KI_iv (as := [vI x1]) (rest := [vR (some 1)]) (pc' := 6) rfl rfl rfl rfl rfl (Nat.le_of_ble_eq_true rfl) rfl (CI_mono h ?_)
  intro z1 I2 D3 h
  refine KI_iv (as := [vI z1]) (rest := []) (pc' := 9) rfl rfl rfl rfl rfl (Nat.le_of_ble_eq_true rfl) rfl (CI_mono h ?_)
  intro z4 I5 D6 h
  exact R_iret rfl rfl ⟨_, _, _, rfl, rfl, h⟩
/-! 56 X6_endOfThree -/
theorem S56 {e : En} {I : HI} {D : HD} {Q : Int → HI → HD → Prop} {x1 : Int} (he : HS e)
    (h : CI 55 [vR (some 1), vI x1] e I D (fun z1 I2 D3 => CI 55 [vR (some 1), vI z1] e I2 D3 (fun z4 I5 D6 => CI 52 [vR (some 1), vI z4] e I5 D6 (fun z7 I8 D9 => Q z7 I8 D9)))) :
    CI 56 [vR (some 1), vI x1] e I D Q := by
  refine Call_run (ls := [vR (some 1), vI x1]) rfl rfl ?_
  refine R_aload_n (pc' := 1) rfl rfl rfl ?_
  refine R_aload_n (pc' := 2) rfl rfl rfl ?_
  refine R_aload_n (pc' := 3) rfl rfl rfl ?_
  refine R_iload_n (pc' := 4) rfl rfl rfl ?_
  refine KI_iv (as := [vI x1]) (rest := [vR (some 1), vR (some 1)]) (pc' := 7) rfl rfl rfl rfl rfl (Nat.le_of_ble_eq_true rfl) rfl (CI_mono h ?_)
  intro z1 I2 D3 h
  refine KI_iv (as := [vI z1]) (rest := [vR (some 1)]) (pc' := 10) rfl rfl rfl rfl rfl (Nat.le_of_ble_eq_true rfl) rfl (CI_mono h ?_)
  intro z4 I5 D6 h
  refine KI_iv (as := [vI z4]) (rest := []) (pc' := 13) rfl rfl rfl rfl rfl (Nat.le_of_ble_eq_true rfl) rfl (CI_mono h ?_)
  intro z7 I8 D9 h
  exact R_iret rfl rfl ⟨_, _, _, rfl, rfl, h⟩
/-! 57 X6_isText -/
theorem S57 {e : En} {I : HI} {D : HD} {Q : Int → HI → HD → Prop} {x1 : Int} {k2 : Nat} (he : HS e) (hk2 : k2 < 25)
    (h : CI 52 [vR (some 1), vI x1] e I D (fun z1 I2 D3 => (-2147483648 ≤ (z1 - x1) ∧ (z1 - x1) < 2147483648) ∧ ((¬ (z1 - x1) = ((zstr k2).length : Int) → Q 0 I2 D3) ∧ (¬ (¬ (z1 - x1) = ((zstr k2).length : Int)) → CI 58 [vR (some 1), vI x1, vS k2] e I2 D3 (fun z5 I6 D7 => ((z5 = 0 → Q 0 I6 D7) ∧ (¬ (z5 = 0) → Q 1 I6 D7))))))) :
    CI 57 [vR (some 1), vI x1, vS k2] e I D Q := by
  refine Call_run (ls := [vR (some 1), vI x1, vS k2]) rfl rfl ?_
  refine R_aload_n (pc' := 1) rfl rfl rfl ?_
  refine R_iload_n (pc' := 2) rfl rfl rfl ?_
  refine KI_iv (as := [vI x1]) (rest := []) (pc' := 5) rfl rfl rfl rfl rfl (Nat.le_of_ble_eq_true rfl) rfl (CI_mono h ?_)
  intro z1 I2 D3 h
  refine R_iload_n (pc' := 6) rfl rfl rfl ?_
  have g4 := h.1
  replace h := h.2
  refine R_isub (pc' := 7) rfl rfl g4 ?_
  refine R_aload_nS (pc' := 8) rfl rfl rfl ?_
  refine R_strlen (pc' := 11) rfl rfl hk2 (Nat.le_of_ble_eq_true rfl) ?_
  refine R_icne (pc' := 14) rfl rfl (fun hc => ?_) (fun hc => ?_)
  · replace h := h.1 hc
    refine R_iconst (pc' := 28) rfl rfl ?_
    exact R_zret rfl rfl (Or.inl rfl) ⟨_, _, _, rfl, rfl, h⟩
  · replace h := h.2 hc
    refine R_aload_n (pc' := 15) rfl rfl rfl ?_
    refine R_iload_n (pc' := 16) rfl rfl rfl ?_
    refine R_aload_nS (pc' := 17) rfl rfl rfl ?_
    refine KI_iv (as := [vI x1, vS k2]) (rest := []) (pc' := 20) rfl rfl rfl rfl rfl (Nat.le_of_ble_eq_true rfl) rfl (CI_mono h ?_)
    intro z5 I6 D7 h
    refine R_ifeq (pc' := 23) rfl rfl (fun hc => ?_) (fun hc => ?_)
    · replace h := h.1 hc
      refine R_iconst (pc' := 28) rfl rfl ?_
      exact R_zret rfl rfl (Or.inl rfl) ⟨_, _, _, rfl, rfl, h⟩
    · replace h := h.2 hc
      refine R_iconst (pc' := 24) rfl rfl ?_
      refine R_goto rfl ?_
      exact R_zret rfl rfl (Or.inr rfl) ⟨_, _, _, rfl, rfl, h⟩
/-! 58 X6_standsAt -/
theorem S58 {e : En} {I : HI} {D : HD} {Q : Int → HI → HD → Prop} {x1 : Int} {k2 : Nat} (he : HS e) (hk2 : k2 < 25)
    (h : ((x1 < 0 → Q 0 I D) ∧ (¬ (x1 < 0) → (-2147483648 ≤ ((I 1 5) - ((zstr k2).length : Int)) ∧ ((I 1 5) - ((zstr k2).length : Int)) < 2147483648) ∧ ((x1 ≤ ((I 1 5) - ((zstr k2).length : Int)) → RI 58 21 [vR (some 1), vI x1, vS k2, vI 0] [] e I D Q) ∧ (¬ (x1 ≤ ((I 1 5) - ((zstr k2).length : Int))) → Q 0 I D))))) :
    CI 58 [vR (some 1), vI x1, vS k2] e I D Q := by
  refine Call_run (ls := [vR (some 1), vI x1, vS k2, vJ]) rfl rfl ?_
  refine R_iload_n (pc' := 1) rfl rfl rfl ?_
  refine R_iflt (pc' := 4) rfl rfl (fun hc => ?_) (fun hc => ?_)
  · replace h := h.1 hc
    refine R_iconst (pc' := 18) rfl rfl ?_
    exact R_zret rfl rfl (Or.inl rfl) ⟨_, _, _, rfl, rfl, h⟩
  · replace h := h.2 hc
    refine R_iload_n (pc' := 5) rfl rfl rfl ?_
    refine R_aload_n (pc' := 6) rfl rfl rfl ?_
    refine K_getI (pc' := 9) rfl rfl (by decide) rfl rfl ?_
    refine R_aload_nS (pc' := 10) rfl rfl rfl ?_
    refine R_strlen (pc' := 13) rfl rfl hk2 (Nat.le_of_ble_eq_true rfl) ?_
    have g1 := h.1
    replace h := h.2
    refine R_isub (pc' := 14) rfl rfl g1 ?_
    refine R_icle (pc' := 17) rfl rfl (fun hc => ?_) (fun hc => ?_)
    · replace h := h.1 hc
      refine R_iconst (pc' := 20) rfl rfl ?_
      refine R_istore_n (ls' := [vR (some 1), vI x1, vS k2, vI 0]) (pc' := 21) rfl rfl rfl ?_
      exact h
    · replace h := h.2 hc
      refine R_iconst (pc' := 18) rfl rfl ?_
      exact R_zret rfl rfl (Or.inl rfl) ⟨_, _, _, rfl, rfl, h⟩
theorem S58_21 {e : En} {I : HI} {D : HD} {Q : Int → HI → HD → Prop} {x1 : Int} {k2 : Nat} {x3 : Int} (he : HS e) (hk2 : k2 < 25)
    (h : ((((zstr k2).length : Int) ≤ x3 → Q 1 I D) ∧ (¬ (((zstr k2).length : Int) ≤ x3) → (-2147483648 ≤ (x1 + x3) ∧ (x1 + x3) < 2147483648) ∧ (K0 (D 1 4) = 22) ∧ (0 ≤ (x1 + x3) ∧ (x1 + x3) < ((L0 (D 1 4)) : Int)) ∧ (0 ≤ x3 ∧ x3 < ((zstr k2).length : Int)) ∧ ((((I (D 1 4) (((x1 + x3) : Int).toNat)) % 256) = (((zstr k2).getD (x3.toNat) 0 : Nat) : Int) → (-2147483648 ≤ (x3 + 1) ∧ (x3 + 1) < 2147483648) ∧ RI 58 21 [vR (some 1), vI x1, vS k2, vI (x3 + 1)] [] e I D Q) ∧ (¬ (((I (D 1 4) (((x1 + x3) : Int).toNat)) % 256) = (((zstr k2).getD (x3.toNat) 0 : Nat) : Int)) → Q 0 I D))))) :
    RI 58 21 [vR (some 1), vI x1, vS k2, vI x3] [] e I D Q := by
  show Run 58 21 [vR (some 1), vI x1, vS k2, vI x3] [] (mk e I D) (pI e Q)
  refine R_iload_n (pc' := 22) rfl rfl rfl ?_
  refine R_aload_nS (pc' := 23) rfl rfl rfl ?_
  refine R_strlen (pc' := 26) rfl rfl hk2 (Nat.le_of_ble_eq_true rfl) ?_
  refine R_icge (pc' := 29) rfl rfl (fun hc => ?_) (fun hc => ?_)
  · replace h := h.1 hc
    refine R_iconst (pc' := 58) rfl rfl ?_
    exact R_zret rfl rfl (Or.inr rfl) ⟨_, _, _, rfl, rfl, h⟩
  · replace h := h.2 hc
    refine R_aload_n (pc' := 30) rfl rfl rfl ?_
    refine K_getR (pc' := 33) rfl rfl rfl rfl (dy_at rfl) ?_
    refine R_iload_n (pc' := 34) rfl rfl rfl ?_
    refine R_iload_n (pc' := 35) rfl rfl rfl ?_
    have g1 := h.1
    replace h := h.2
    refine R_iadd (pc' := 36) rfl rfl g1 ?_
    have g2 := h.1
    replace h := h.2
    have g3 := h.1
    replace h := h.2
    refine K_bald (pc' := 37) rfl rfl g2 g3.1 g3.2 rfl ?_
    refine R_sipush (pc' := 40) rfl rfl ?_
    refine R_iand255 (pc' := 41) rfl rfl ?_
    refine R_aload_nS (pc' := 42) rfl rfl rfl ?_
    refine R_iload_n (pc' := 43) rfl rfl rfl ?_
    have g4 := h.1
    replace h := h.2
    refine R_strch (pc' := 46) rfl rfl hk2 g4.1 g4.2 (Nat.le_of_ble_eq_true rfl) ?_
    refine R_iceq (pc' := 49) rfl rfl (fun hc => ?_) (fun hc => ?_)
    · replace h := h.1 hc
      have g5 := h.1
      replace h := h.2
      refine R_iinc (ls' := [vR (some 1), vI x1, vS k2, vI (x3 + 1)]) (pc' := 54) rfl rfl rfl g5 rfl ?_
      refine R_goto rfl ?_
      exact h
    · replace h := h.2 hc
      refine R_iconst (pc' := 50) rfl rfl ?_
      exact R_zret rfl rfl (Or.inl rfl) ⟨_, _, _, rfl, rfl, h⟩
end
section
/-! what the code of each method does: printed by wip/whole/gen/decomp.py -/
/-! 1 X0_clearAt -/
theorem S1 {e : En} {I : HI} {D : HD} {Q : HI → HD → Prop} {q0 : Nat} {x1 : Int} {x2 : Int} {x3 : Int} (he : HS e) (hq0 : K0 q0 = 1)
    (h : Q (uI (uI (uI (uI (uI (uI (uI (uI (uI (uI (uI (uI (uI (uI I q0 0 x1) q0 1 x1) q0 2 0) q0 3 0) q0 4 0) q0 5 (-1)) q0 6 0) q0 7 (-1)) q0 8 0) q0 9 0) q0 10 x2) q0 11 x2) q0 12 x3) q0 13 x3) D) :
    CV 1 [vR (some q0), vI x1, vI x2, vI x3] e I D Q := by
  refine Call_run (ls := [vR (some q0), vI x1, vI x2, vI x3]) rfl rfl ?_
  refine R_aload_n (pc' := 1) rfl rfl rfl ?_
  refine R_iload_n (pc' := 2) rfl rfl rfl ?_
  refine K_putI (pc' := 5) rfl rfl (by decide) (fun h => absurd h (by decide)) hq0 ?_
  refine R_aload_n (pc' := 6) rfl rfl rfl ?_
  refine R_iload_n (pc' := 7) rfl rfl rfl ?_
  refine K_putI (pc' := 10) rfl rfl (by decide) (fun h => absurd h (by decide)) hq0 ?_
  refine R_aload_n (pc' := 11) rfl rfl rfl ?_
  refine R_iconst (pc' := 12) rfl rfl ?_
  refine K_putI (pc' := 15) rfl rfl (by decide) (fun _ => Or.inl rfl) hq0 ?_
  refine R_aload_n (pc' := 16) rfl rfl rfl ?_
  refine R_iconst (pc' := 17) rfl rfl ?_
  refine K_putI (pc' := 20) rfl rfl (by decide) (fun h => absurd h (by decide)) hq0 ?_
  refine R_aload_n (pc' := 21) rfl rfl rfl ?_
  refine R_iconst (pc' := 22) rfl rfl ?_
  refine K_putI (pc' := 25) rfl rfl (by decide) (fun h => absurd h (by decide)) hq0 ?_
  refine R_aload_n (pc' := 26) rfl rfl rfl ?_
  refine R_iconst (pc' := 27) rfl rfl ?_
  refine K_putI (pc' := 30) rfl rfl (by decide) (fun h => absurd h (by decide)) hq0 ?_
  refine R_aload_n (pc' := 31) rfl rfl rfl ?_
  refine R_iconst (pc' := 32) rfl rfl ?_
  refine K_putI (pc' := 35) rfl rfl (by decide) (fun h => absurd h (by decide)) hq0 ?_
  refine R_aload_n (pc' := 36) rfl rfl rfl ?_
  refine R_iconst (pc' := 37) rfl rfl ?_
  refine K_putI (pc' := 40) rfl rfl (by decide) (fun h => absurd h (by decide)) hq0 ?_
  refine R_aload_n (pc' := 41) rfl rfl rfl ?_
  refine R_iconst (pc' := 42) rfl rfl ?_
  refine K_putI (pc' := 45) rfl rfl (by decide) (fun h => absurd h (by decide)) hq0 ?_
  refine R_aload_n (pc' := 46) rfl rfl rfl ?_
  refine R_iconst (pc' := 47) rfl rfl ?_
  refine K_putI (pc' := 50) rfl rfl (by decide) (fun h => absurd h (by decide)) hq0 ?_
  refine R_aload_n (pc' := 51) rfl rfl rfl ?_
  refine R_iload_n (pc' := 52) rfl rfl rfl ?_
  refine K_putI (pc' := 55) rfl rfl (by decide) (fun h => absurd h (by decide)) hq0 ?_
  refine R_aload_n (pc' := 56) rfl rfl rfl ?_
  refine R_iload_n (pc' := 57) rfl rfl rfl ?_
  refine K_putI (pc' := 60) rfl rfl (by decide) (fun h => absurd h (by decide)) hq0 ?_
  refine R_aload_n (pc' := 61) rfl rfl rfl ?_
  refine R_iload_n (pc' := 62) rfl rfl rfl ?_
  refine K_putI (pc' := 65) rfl rfl (by decide) (fun h => absurd h (by decide)) hq0 ?_
  refine R_aload_n (pc' := 66) rfl rfl rfl ?_
  refine R_iload_n (pc' := 67) rfl rfl rfl ?_
  refine K_putI (pc' := 70) rfl rfl (by decide) (fun h => absurd h (by decide)) hq0 ?_
  exact R_vret rfl rfl ⟨_, _, rfl, rfl, h⟩
/-! 2 X0_finish -/
theorem S2 {e : En} {I : HI} {D : HD} {Q : HI → HD → Prop} {q0 : Nat} {x1 : Int} {x2 : Int} {x3 : Int} (he : HS e) (hq0 : K0 q0 = 1)
    (h : Q (uI (uI (uI I q0 1 x1) q0 11 x2) q0 13 x3) D) :
    CV 2 [vR (some q0), vI x1, vI x2, vI x3] e I D Q := by
  refine Call_run (ls := [vR (some q0), vI x1, vI x2, vI x3]) rfl rfl ?_
  refine R_aload_n (pc' := 1) rfl rfl rfl ?_
  refine R_iload_n (pc' := 2) rfl rfl rfl ?_
  refine K_putI (pc' := 5) rfl rfl (by decide) (fun h => absurd h (by decide)) hq0 ?_
  refine R_aload_n (pc' := 6) rfl rfl rfl ?_
  refine R_iload_n (pc' := 7) rfl rfl rfl ?_
  refine K_putI (pc' := 10) rfl rfl (by decide) (fun h => absurd h (by decide)) hq0 ?_
  refine R_aload_n (pc' := 11) rfl rfl rfl ?_
  refine R_iload_n (pc' := 12) rfl rfl rfl ?_
  refine K_putI (pc' := 15) rfl rfl (by decide) (fun h => absurd h (by decide)) hq0 ?_
  exact R_vret rfl rfl ⟨_, _, rfl, rfl, h⟩
/-! 9 X2_beginAt -/
theorem S9 {e : En} {I : HI} {D : HD} {Q : HI → HD → Prop} {q0 : Nat} {x1 : Int} {x2 : Int} {x3 : Int} {x4 : Int} (he : HS e) (hq0 : K0 q0 = 3)
    (h : CV 1 [vR (some (q0 + 1)), vI x2, vI x3, vI x4] e I D (fun I2 D3 => Q (uI (uI (uI (uI (uI (uI (uI (uI (uI (uI I2 q0 1 0) q0 2 x1) q0 3 x2) q0 4 x2) q0 5 0) q0 6 0) q0 7 0) q0 8 0) q0 9 0) q0 10 0) D3)) :
    CV 9 [vR (some q0), vI x1, vI x2, vI x3, vI x4] e I D Q := by
  refine Call_run (ls := [vR (some q0), vI x1, vI x2, vI x3, vI x4]) rfl rfl ?_
  refine R_aload_n (pc' := 1) rfl rfl rfl ?_
  refine K_getR (pc' := 4) rfl rfl rfl hq0 (gF0 he hq0) ?_
  refine R_iload_n (pc' := 5) rfl rfl rfl ?_
  refine R_iload_n (pc' := 6) rfl rfl rfl ?_
  refine R_iload (pc' := 8) rfl rfl rfl ?_
  refine KV_iv (as := [vI x2, vI x3, vI x4]) (rest := []) (pc' := 11) rfl rfl rfl (kF hq0).1 rfl (Nat.le_of_ble_eq_true rfl) rfl (CV_mono h ?_)
  intro I2 D3 h
  refine R_aload_n (pc' := 12) rfl rfl rfl ?_
  refine R_iconst (pc' := 13) rfl rfl ?_
  refine K_putI (pc' := 16) rfl rfl (by decide) (fun _ => Or.inl rfl) hq0 ?_
  refine R_aload_n (pc' := 17) rfl rfl rfl ?_
  refine R_iload_n (pc' := 18) rfl rfl rfl ?_
  refine K_putI (pc' := 21) rfl rfl (by decide) (fun h => absurd h (by decide)) hq0 ?_
  refine R_aload_n (pc' := 22) rfl rfl rfl ?_
  refine R_iload_n (pc' := 23) rfl rfl rfl ?_
  refine K_putI (pc' := 26) rfl rfl (by decide) (fun h => absurd h (by decide)) hq0 ?_
  refine R_aload_n (pc' := 27) rfl rfl rfl ?_
  refine R_iload_n (pc' := 28) rfl rfl rfl ?_
  refine K_putI (pc' := 31) rfl rfl (by decide) (fun h => absurd h (by decide)) hq0 ?_
  refine R_aload_n (pc' := 32) rfl rfl rfl ?_
  refine R_iconst (pc' := 33) rfl rfl ?_
  refine K_putI (pc' := 36) rfl rfl (by decide) (fun _ => Or.inl rfl) hq0 ?_
  refine R_aload_n (pc' := 37) rfl rfl rfl ?_
  refine R_iconst (pc' := 38) rfl rfl ?_
  refine K_putI (pc' := 41) rfl rfl (by decide) (fun _ => Or.inl rfl) hq0 ?_
  refine R_aload_n (pc' := 42) rfl rfl rfl ?_
  refine R_iconst (pc' := 43) rfl rfl ?_
  refine K_putI (pc' := 46) rfl rfl (by decide) (fun _ => Or.inl rfl) hq0 ?_
  refine R_aload_n (pc' := 47) rfl rfl rfl ?_
  refine R_iconst (pc' := 48) rfl rfl ?_
  refine K_putI (pc' := 51) rfl rfl (by decide) (fun _ => Or.inl rfl) hq0 ?_
  refine R_aload_n (pc' := 52) rfl rfl rfl ?_
  refine R_iconst (pc' := 53) rfl rfl ?_
  refine K_putI (pc' := 56) rfl rfl (by decide) (fun h => absurd h (by decide)) hq0 ?_
  refine R_aload_n (pc' := 57) rfl rfl rfl ?_
  refine R_iconst (pc' := 58) rfl rfl ?_
  refine K_putI (pc' := 61) rfl rfl (by decide) (fun h => absurd h (by decide)) hq0 ?_
  exact R_vret rfl rfl ⟨_, _, rfl, rfl, h⟩
/-! 11 X3_put -/
theorem S11 {e : En} {I : HI} {D : HD} {Q : HI → HD → Prop} {q0 : Nat} {x1 : Int} {x2 : Int} {x3 : Int} (he : HS e) (hq0 : K0 q0 = 4)
    (h : (((I q0 3) < 0 → Q I D) ∧ (¬ ((I q0 3) < 0) → ((((L0 (q0 + 1)) : Int) ≤ (I q0 3) → Q I D) ∧ (¬ (((L0 (q0 + 1)) : Int) ≤ (I q0 3)) → ((((L0 (q0 + 2)) : Int) ≤ (I q0 3) → Q I D) ∧ (¬ (((L0 (q0 + 2)) : Int) ≤ (I q0 3)) → ((((L0 (q0 + 3)) : Int) ≤ (I q0 3) → Q I D) ∧ (¬ (((L0 (q0 + 3)) : Int) ≤ (I q0 3)) → (0 ≤ (I q0 3) ∧ (I q0 3) < ((L0 (q0 + 1)) : Int)) ∧ (0 ≤ ((uI I (q0 + 1) (((I q0 3) : Int).toNat) x1) q0 3) ∧ ((uI I (q0 + 1) (((I q0 3) : Int).toNat) x1) q0 3) < ((L0 (q0 + 2)) : Int)) ∧ (0 ≤ ((uI (uI I (q0 + 1) (((I q0 3) : Int).toNat) x1) (q0 + 2) ((((uI I (q0 + 1) (((I q0 3) : Int).toNat) x1) q0 3) : Int).toNat) x2) q0 3) ∧ ((uI (uI I (q0 + 1) (((I q0 3) : Int).toNat) x1) (q0 + 2) ((((uI I (q0 + 1) (((I q0 3) : Int).toNat) x1) q0 3) : Int).toNat) x2) q0 3) < ((L0 (q0 + 3)) : Int)) ∧ (-2147483648 ≤ (((uI (uI (uI I (q0 + 1) (((I q0 3) : Int).toNat) x1) (q0 + 2) ((((uI I (q0 + 1) (((I q0 3) : Int).toNat) x1) q0 3) : Int).toNat) x2) (q0 + 3) ((((uI (uI I (q0 + 1) (((I q0 3) : Int).toNat) x1) (q0 + 2) ((((uI I (q0 + 1) (((I q0 3) : Int).toNat) x1) q0 3) : Int).toNat) x2) q0 3) : Int).toNat) x3) q0 3) + 1) ∧ (((uI (uI (uI I (q0 + 1) (((I q0 3) : Int).toNat) x1) (q0 + 2) ((((uI I (q0 + 1) (((I q0 3) : Int).toNat) x1) q0 3) : Int).toNat) x2) (q0 + 3) ((((uI (uI I (q0 + 1) (((I q0 3) : Int).toNat) x1) (q0 + 2) ((((uI I (q0 + 1) (((I q0 3) : Int).toNat) x1) q0 3) : Int).toNat) x2) q0 3) : Int).toNat) x3) q0 3) + 1) < 2147483648) ∧ Q (uI (uI (uI (uI I (q0 + 1) (((I q0 3) : Int).toNat) x1) (q0 + 2) ((((uI I (q0 + 1) (((I q0 3) : Int).toNat) x1) q0 3) : Int).toNat) x2) (q0 + 3) ((((uI (uI I (q0 + 1) (((I q0 3) : Int).toNat) x1) (q0 + 2) ((((uI I (q0 + 1) (((I q0 3) : Int).toNat) x1) q0 3) : Int).toNat) x2) q0 3) : Int).toNat) x3) q0 3 (((uI (uI (uI I (q0 + 1) (((I q0 3) : Int).toNat) x1) (q0 + 2) ((((uI I (q0 + 1) (((I q0 3) : Int).toNat) x1) q0 3) : Int).toNat) x2) (q0 + 3) ((((uI (uI I (q0 + 1) (((I q0 3) : Int).toNat) x1) (q0 + 2) ((((uI I (q0 + 1) (((I q0 3) : Int).toNat) x1) q0 3) : Int).toNat) x2) q0 3) : Int).toNat) x3) q0 3) + 1)) D))))))))) :
    CV 11 [vR (some q0), vI x1, vI x2, vI x3] e I D Q := by
  refine Call_run (ls := [vR (some q0), vI x1, vI x2, vI x3]) rfl rfl ?_
  refine R_aload_n (pc' := 1) rfl rfl rfl ?_
  refine K_getI (pc' := 4) rfl rfl (by decide) hq0 rfl ?_
  refine R_iflt (pc' := 7) rfl rfl (fun hc => ?_) (fun hc => ?_)
  · replace h := h.1 hc
    exact R_vret rfl rfl ⟨_, _, rfl, rfl, h⟩
  · replace h := h.2 hc
    refine R_aload_n (pc' := 8) rfl rfl rfl ?_
    refine K_getI (pc' := 11) rfl rfl (by decide) hq0 rfl ?_
    refine R_aload_n (pc' := 12) rfl rfl rfl ?_
    refine K_getR (pc' := 15) rfl rfl rfl hq0 (gM0 he hq0) ?_
    refine K_alen (pc' := 16) rfl rfl 0 (kM hq0).1 (by decide) rfl ?_
    refine R_icge (pc' := 19) rfl rfl (fun hc => ?_) (fun hc => ?_)
    · replace h := h.1 hc
      exact R_vret rfl rfl ⟨_, _, rfl, rfl, h⟩
    · replace h := h.2 hc
      refine R_aload_n (pc' := 20) rfl rfl rfl ?_
      refine K_getI (pc' := 23) rfl rfl (by decide) hq0 rfl ?_
      refine R_aload_n (pc' := 24) rfl rfl rfl ?_
      refine K_getR (pc' := 27) rfl rfl rfl hq0 (gM1 he hq0) ?_
      refine K_alen (pc' := 28) rfl rfl 0 (kM hq0).2.1 (by decide) rfl ?_
      refine R_icge (pc' := 31) rfl rfl (fun hc => ?_) (fun hc => ?_)
      · replace h := h.1 hc
        exact R_vret rfl rfl ⟨_, _, rfl, rfl, h⟩
      · replace h := h.2 hc
        refine R_aload_n (pc' := 32) rfl rfl rfl ?_
        refine K_getI (pc' := 35) rfl rfl (by decide) hq0 rfl ?_
        refine R_aload_n (pc' := 36) rfl rfl rfl ?_
        refine K_getR (pc' := 39) rfl rfl rfl hq0 (gM2 he hq0) ?_
        refine K_alen (pc' := 40) rfl rfl 0 (kM hq0).2.2.1 (by decide) rfl ?_
        refine R_icge (pc' := 43) rfl rfl (fun hc => ?_) (fun hc => ?_)
        · replace h := h.1 hc
          exact R_vret rfl rfl ⟨_, _, rfl, rfl, h⟩
        · replace h := h.2 hc
          refine R_aload_n (pc' := 44) rfl rfl rfl ?_
          refine K_getR (pc' := 47) rfl rfl rfl hq0 (gM0 he hq0) ?_
          refine R_aload_n (pc' := 48) rfl rfl rfl ?_
          refine K_getI (pc' := 51) rfl rfl (by decide) hq0 rfl ?_
          refine R_iload_n (pc' := 52) rfl rfl rfl ?_
          have g1 := h.1
          replace h := h.2
          refine K_iast (pc' := 53) rfl rfl (kM hq0).1 g1.1 g1.2 ?_
          refine R_aload_n (pc' := 54) rfl rfl rfl ?_
          refine K_getR (pc' := 57) rfl rfl rfl hq0 (gM1 he hq0) ?_
          refine R_aload_n (pc' := 58) rfl rfl rfl ?_
          refine K_getI (pc' := 61) rfl rfl (by decide) hq0 rfl ?_
          refine R_iload_n (pc' := 62) rfl rfl rfl ?_
          have g2 := h.1
          replace h := h.2
          refine K_iast (pc' := 63) rfl rfl (kM hq0).2.1 g2.1 g2.2 ?_
          refine R_aload_n (pc' := 64) rfl rfl rfl ?_
          refine K_getR (pc' := 67) rfl rfl rfl hq0 (gM2 he hq0) ?_
          refine R_aload_n (pc' := 68) rfl rfl rfl ?_
          refine K_getI (pc' := 71) rfl rfl (by decide) hq0 rfl ?_
          refine R_iload_n (pc' := 72) rfl rfl rfl ?_
          have g3 := h.1
          replace h := h.2
          refine K_iast (pc' := 73) rfl rfl (kM hq0).2.2.1 g3.1 g3.2 ?_
          refine R_aload_n (pc' := 74) rfl rfl rfl ?_
          refine R_dup (pc' := 75) rfl rfl rfl ?_
          refine K_getI (pc' := 78) rfl rfl (by decide) hq0 rfl ?_
          refine R_iconst (pc' := 79) rfl rfl ?_
          have g4 := h.1
          replace h := h.2
          refine R_iadd (pc' := 80) rfl rfl g4 ?_
          refine K_putI (pc' := 83) rfl rfl (by decide) (fun h => absurd h (by decide)) hq0 ?_
          exact R_vret rfl rfl ⟨_, _, rfl, rfl, h⟩
/-! 12 X3_shortenTo -/
theorem S12 {e : En} {I : HI} {D : HD} {Q : HI → HD → Prop} {q0 : Nat} {x1 : Int} (he : HS e) (hq0 : K0 q0 = 4)
    (h : Q (uI I q0 3 (max 0 (min (I q0 3) x1))) D) :
    CV 12 [vR (some q0), vI x1] e I D Q := by
  refine Call_run (ls := [vR (some q0), vI x1]) rfl rfl ?_
  refine R_aload_n (pc' := 1) rfl rfl rfl ?_
  refine R_iconst (pc' := 2) rfl rfl ?_
  refine R_aload_n (pc' := 3) rfl rfl rfl ?_
  refine K_getI (pc' := 6) rfl rfl (by decide) hq0 rfl ?_
  refine R_iload_n (pc' := 7) rfl rfl rfl ?_
  refine R_min (pc' := 10) rfl rfl (Nat.le_of_ble_eq_true rfl) ?_
  refine R_max (pc' := 13) rfl rfl (Nat.le_of_ble_eq_true rfl) ?_
  refine K_putI (pc' := 16) rfl rfl (by decide) (fun h => absurd h (by decide)) hq0 ?_
  exact R_vret rfl rfl ⟨_, _, rfl, rfl, h⟩
/-! 13 X3_numberAt -/
theorem S13 {e : En} {I : HI} {D : HD} {Q : Int → HI → HD → Prop} {q0 : Nat} {x1 : Int} (he : HS e) (hq0 : K0 q0 = 4)
    (h : ((x1 < 0 → Q (-1) I D) ∧ (¬ (x1 < 0) → (((I q0 3) ≤ x1 → Q (-1) I D) ∧ (¬ ((I q0 3) ≤ x1) → ((((L0 (q0 + 1)) : Int) ≤ x1 → Q (-1) I D) ∧ (¬ (((L0 (q0 + 1)) : Int) ≤ x1) → (0 ≤ x1 ∧ x1 < ((L0 (q0 + 1)) : Int)) ∧ Q (I (q0 + 1) (x1.toNat)) I D))))))) :
    CI 13 [vR (some q0), vI x1] e I D Q := by
  refine Call_run (ls := [vR (some q0), vI x1]) rfl rfl ?_
  refine R_iload_n (pc' := 1) rfl rfl rfl ?_
  refine R_iflt (pc' := 4) rfl rfl (fun hc => ?_) (fun hc => ?_)
  · replace h := h.1 hc
    refine R_iconst (pc' := 31) rfl rfl ?_
    exact R_iret rfl rfl ⟨_, _, _, rfl, rfl, h⟩
  · replace h := h.2 hc
    refine R_iload_n (pc' := 5) rfl rfl rfl ?_
    refine R_aload_n (pc' := 6) rfl rfl rfl ?_
    refine K_getI (pc' := 9) rfl rfl (by decide) hq0 rfl ?_
    refine R_icge (pc' := 12) rfl rfl (fun hc => ?_) (fun hc => ?_)
    · replace h := h.1 hc
      refine R_iconst (pc' := 31) rfl rfl ?_
      exact R_iret rfl rfl ⟨_, _, _, rfl, rfl, h⟩
    · replace h := h.2 hc
      refine R_iload_n (pc' := 13) rfl rfl rfl ?_
      refine R_aload_n (pc' := 14) rfl rfl rfl ?_
      refine K_getR (pc' := 17) rfl rfl rfl hq0 (gM0 he hq0) ?_
      refine K_alen (pc' := 18) rfl rfl 0 (kM hq0).1 (by decide) rfl ?_
      refine R_icge (pc' := 21) rfl rfl (fun hc => ?_) (fun hc => ?_)
      · replace h := h.1 hc
        refine R_iconst (pc' := 31) rfl rfl ?_
        exact R_iret rfl rfl ⟨_, _, _, rfl, rfl, h⟩
      · replace h := h.2 hc
        refine R_aload_n (pc' := 22) rfl rfl rfl ?_
        refine K_getR (pc' := 25) rfl rfl rfl hq0 (gM0 he hq0) ?_
        refine R_iload_n (pc' := 26) rfl rfl rfl ?_
        have g1 := h.1
        replace h := h.2
        refine K_iald (pc' := 27) rfl rfl (kM hq0).1 g1.1 g1.2 rfl ?_
        refine R_goto rfl ?_
        exact R_iret rfl rfl ⟨_, _, _, rfl, rfl, h⟩
/-! 14 X3_fromAt -/
theorem S14 {e : En} {I : HI} {D : HD} {Q : Int → HI → HD → Prop} {q0 : Nat} {x1 : Int} (he : HS e) (hq0 : K0 q0 = 4)
    (h : ((x1 < 0 → Q (-1) I D) ∧ (¬ (x1 < 0) → (((I q0 3) ≤ x1 → Q (-1) I D) ∧ (¬ ((I q0 3) ≤ x1) → ((((L0 (q0 + 2)) : Int) ≤ x1 → Q (-1) I D) ∧ (¬ (((L0 (q0 + 2)) : Int) ≤ x1) → (0 ≤ x1 ∧ x1 < ((L0 (q0 + 2)) : Int)) ∧ Q (I (q0 + 2) (x1.toNat)) I D))))))) :
    CI 14 [vR (some q0), vI x1] e I D Q := by
  refine Call_run (ls := [vR (some q0), vI x1]) rfl rfl ?_
  refine R_iload_n (pc' := 1) rfl rfl rfl ?_
  refine R_iflt (pc' := 4) rfl rfl (fun hc => ?_) (fun hc => ?_)
  · replace h := h.1 hc
    refine R_iconst (pc' := 31) rfl rfl ?_
    exact R_iret rfl rfl ⟨_, _, _, rfl, rfl, h⟩
  · replace h := h.2 hc
    refine R_iload_n (pc' := 5) rfl rfl rfl ?_
    refine R_aload_n (pc' := 6) rfl rfl rfl ?_
    refine K_getI (pc' := 9) rfl rfl (by decide) hq0 rfl ?_
    refine R_icge (pc' := 12) rfl rfl (fun hc => ?_) (fun hc => ?_)
    · replace h := h.1 hc
      refine R_iconst (pc' := 31) rfl rfl ?_
      exact R_iret rfl rfl ⟨_, _, _, rfl, rfl, h⟩
    · replace h := h.2 hc
      refine R_iload_n (pc' := 13) rfl rfl rfl ?_
      refine R_aload_n (pc' := 14) rfl rfl rfl ?_
      refine K_getR (pc' := 17) rfl rfl rfl hq0 (gM1 he hq0) ?_
      refine K_alen (pc' := 18) rfl rfl 0 (kM hq0).2.1 (by decide) rfl ?_
      refine R_icge (pc' := 21) rfl rfl (fun hc => ?_) (fun hc => ?_)
      · replace h := h.1 hc
        refine R_iconst (pc' := 31) rfl rfl ?_
        exact R_iret rfl rfl ⟨_, _, _, rfl, rfl, h⟩
      · replace h := h.2 hc
        refine R_aload_n (pc' := 22) rfl rfl rfl ?_
        refine K_getR (pc' := 25) rfl rfl rfl hq0 (gM1 he hq0) ?_
        refine R_iload_n (pc' := 26) rfl rfl rfl ?_
        have g1 := h.1
        replace h := h.2
        refine K_iald (pc' := 27) rfl rfl (kM hq0).2.1 g1.1 g1.2 rfl ?_
        refine R_goto rfl ?_
        exact R_iret rfl rfl ⟨_, _, _, rfl, rfl, h⟩
/-! 15 X3_toAt -/
theorem S15 {e : En} {I : HI} {D : HD} {Q : Int → HI → HD → Prop} {q0 : Nat} {x1 : Int} (he : HS e) (hq0 : K0 q0 = 4)
    (h : ((x1 < 0 → Q (-1) I D) ∧ (¬ (x1 < 0) → (((I q0 3) ≤ x1 → Q (-1) I D) ∧ (¬ ((I q0 3) ≤ x1) → ((((L0 (q0 + 3)) : Int) ≤ x1 → Q (-1) I D) ∧ (¬ (((L0 (q0 + 3)) : Int) ≤ x1) → (0 ≤ x1 ∧ x1 < ((L0 (q0 + 3)) : Int)) ∧ Q (I (q0 + 3) (x1.toNat)) I D))))))) :
    CI 15 [vR (some q0), vI x1] e I D Q := by
  refine Call_run (ls := [vR (some q0), vI x1]) rfl rfl ?_
  refine R_iload_n (pc' := 1) rfl rfl rfl ?_
  refine R_iflt (pc' := 4) rfl rfl (fun hc => ?_) (fun hc => ?_)
  · replace h := h.1 hc
    refine R_iconst (pc' := 31) rfl rfl ?_
    exact R_iret rfl rfl ⟨_, _, _, rfl, rfl, h⟩
  · replace h := h.2 hc
    refine R_iload_n (pc' := 5) rfl rfl rfl ?_
    refine R_aload_n (pc' := 6) rfl rfl rfl ?_
    refine K_getI (pc' := 9) rfl rfl (by decide) hq0 rfl ?_
    refine R_icge (pc' := 12) rfl rfl (fun hc => ?_) (fun hc => ?_)
    · replace h := h.1 hc
      refine R_iconst (pc' := 31) rfl rfl ?_
      exact R_iret rfl rfl ⟨_, _, _, rfl, rfl, h⟩
    · replace h := h.2 hc
      refine R_iload_n (pc' := 13) rfl rfl rfl ?_
      refine R_aload_n (pc' := 14) rfl rfl rfl ?_
      refine K_getR (pc' := 17) rfl rfl rfl hq0 (gM2 he hq0) ?_
      refine K_alen (pc' := 18) rfl rfl 0 (kM hq0).2.2.1 (by decide) rfl ?_
      refine R_icge (pc' := 21) rfl rfl (fun hc => ?_) (fun hc => ?_)
      · replace h := h.1 hc
        refine R_iconst (pc' := 31) rfl rfl ?_
        exact R_iret rfl rfl ⟨_, _, _, rfl, rfl, h⟩
      · replace h := h.2 hc
        refine R_aload_n (pc' := 22) rfl rfl rfl ?_
        refine K_getR (pc' := 25) rfl rfl rfl hq0 (gM2 he hq0) ?_
        refine R_iload_n (pc' := 26) rfl rfl rfl ?_
        have g1 := h.1
        replace h := h.2
        refine K_iald (pc' := 27) rfl rfl (kM hq0).2.2.1 g1.1 g1.2 rfl ?_
        refine R_goto rfl ?_
        exact R_iret rfl rfl ⟨_, _, _, rfl, rfl, h⟩
/-! 4 X1_read -/
theorem S4 {e : En} {I : HI} {D : HD} {Q : Int → HI → HD → Prop} {A : Nat} {q1 : Nat} {x2 : Int} {x3 : Int} (he : HS e) (hA : isA A) (hq1 : K0 q1 = 1)
    (h : (x3 = 0 ∨ x3 = 1) ∧ CI 52 [vR (some 1), vI x2] e (uI I (A + 18) 4 x3) (uD D (A + 18) 3 q1) (fun z2 I3 D4 => (K0 ((uD D (A + 18) 3 q1) (A + 18) 3) = 1) ∧ CV 1 [vR (some ((uD D (A + 18) 3 q1) (A + 18) 3)), vI z2, vI (I3 (A + 2) 3), vI (I3 (A + 6) 3)] e I3 D4 (fun I7 D8 => CI 55 [vR (some 1), vI x2] e I7 D8 (fun z9 I10 D11 => RI 4 52 [vR (some (A + 18)), vJ, vJ, vJ, vI z9, vI 0, vJ, vJ, vJ, vJ] [] e I10 D11 Q)))) :
    CI 4 [vR (some (A + 18)), vR (some q1), vI x2, vI x3] e I D Q := by
  refine Call_run (ls := [vR (some (A + 18)), vR (some q1), vI x2, vI x3, vJ, vJ, vJ, vJ, vJ, vJ]) rfl rfl ?_
  refine R_aload_n (pc' := 1) rfl rfl rfl ?_
  refine R_aload_n (pc' := 2) rfl rfl rfl ?_
  refine K_putR (pc' := 5) rfl rfl rfl (kA hA 18 2 ⟨rfl, rfl⟩) (dA hA 18 3 ⟨rfl, rfl⟩) ?_
  refine R_aload_n (pc' := 6) rfl rfl rfl ?_
  refine R_iload_n (pc' := 7) rfl rfl rfl ?_
  have g1 := h.1
  replace h := h.2
  refine K_putI (pc' := 10) rfl rfl (by decide) (fun _ => g1) (kA hA 18 2 ⟨rfl, rfl⟩) ?_
  refine R_aload_n (pc' := 11) rfl rfl rfl ?_
  refine K_getR (pc' := 14) rfl rfl rfl (kA hA 18 2 ⟨rfl, rfl⟩) (dy_at (dA hA 18 3 ⟨rfl, rfl⟩)) ?_
  refine R_aload_n (pc' := 15) rfl rfl rfl ?_
  refine K_getR (pc' := 18) rfl rfl rfl (kA hA 18 2 ⟨rfl, rfl⟩) (gA1 he hA 18 ⟨⟨rfl, rfl⟩, rfl, rfl⟩) ?_
  refine R_iload_n (pc' := 19) rfl rfl rfl ?_
  refine KI_iv (as := [vI x2]) (rest := [vR (some ((uD D (A + 18) 3 q1) (A + 18) 3))]) (pc' := 22) rfl rfl rfl rfl rfl (Nat.le_of_ble_eq_true rfl) rfl (CI_mono h ?_)
  intro z2 I3 D4 h
  refine R_aload_n (pc' := 23) rfl rfl rfl ?_
  refine K_getR (pc' := 26) rfl rfl rfl (kA hA 18 2 ⟨rfl, rfl⟩) (gA he hA 18 1 2 ⟨⟨rfl, rfl⟩, rfl, rfl⟩) ?_
  refine K_getIN (pc' := 29) rfl rfl (by decide) (kA hA 2 4 ⟨rfl, rfl⟩) rfl ?_
  refine R_aload_n (pc' := 30) rfl rfl rfl ?_
  refine K_getR (pc' := 33) rfl rfl rfl (kA hA 18 2 ⟨rfl, rfl⟩) (gA he hA 18 2 6 ⟨⟨rfl, rfl⟩, rfl, rfl⟩) ?_
  refine K_getIN (pc' := 36) rfl rfl (by decide) (kA hA 6 4 ⟨rfl, rfl⟩) rfl ?_
  have g5 := h.1
  replace h := h.2
  refine KV_iv (as := [vI z2, vI (I3 (A + 2) 3), vI (I3 (A + 6) 3)]) (rest := []) (pc' := 39) rfl rfl rfl g5 rfl (Nat.le_of_ble_eq_true rfl) rfl (CV_mono h ?_)
  intro I7 D8 h
  refine R_aload_n (pc' := 40) rfl rfl rfl ?_
  refine K_getR (pc' := 43) rfl rfl rfl (kA hA 18 2 ⟨rfl, rfl⟩) (gA1 he hA 18 ⟨⟨rfl, rfl⟩, rfl, rfl⟩) ?_
  refine R_iload_n (pc' := 44) rfl rfl rfl ?_
  refine KI_iv (as := [vI x2]) (rest := []) (pc' := 47) rfl rfl rfl rfl rfl (Nat.le_of_ble_eq_true rfl) rfl (CI_mono h ?_)
  intro z9 I10 D11 h
  refine R_istore (ls' := [vR (some (A + 18)), vR (some q1), vI x2, vI x3, vI z9, vJ, vJ, vJ, vJ, vJ]) (pc' := 49) rfl rfl rfl ?_
  refine R_iconst (pc' := 50) rfl rfl ?_
  refine R_istore (ls' := [vR (some (A + 18)), vR (some q1), vI x2, vI x3, vI z9, vI 0, vJ, vJ, vJ, vJ]) (pc' := 52) rfl rfl rfl ?_
  exact R_forget (ls' := [vR (some (A + 18)), vJ, vJ, vJ, vI z9, vI 0, vJ, vJ, vJ, vJ]) ⟨Or.inl rfl, Or.inr rfl, Or.inr rfl, Or.inr rfl, Or.inl rfl, Or.inl rfl, Or.inl rfl, Or.inl rfl, Or.inl rfl, Or.inl rfl, trivial⟩ h
theorem S4_52 {e : En} {I : HI} {D : HD} {Q : Int → HI → HD → Prop} {A : Nat} {x4 : Int} {x5 : Int} (he : HS e) (hA : isA A)
    (h : (((3000 : Int) < x5 → RI 4 200 [vR (some (A + 18)), vJ, vJ, vJ, vI x4, vJ, vJ, vJ, vJ, vJ] [] e I D Q) ∧ (¬ ((3000 : Int) < x5) → CI 5 [vR (some (A + 18)), vI x4] e I D (fun z1 I2 D3 => ((¬ z1 = 0 → RI 4 200 [vR (some (A + 18)), vJ, vJ, vJ, vI x4, vJ, vJ, vJ, vJ, vJ] [] e I2 D3 Q) ∧ (¬ (¬ z1 = 0) → CI 53 [vR (some 1), vI x4] e I2 D3 (fun z4 I5 D6 => ((¬ z4 = 10 → CI 55 [vR (some 1), vI x4] e I5 D6 (fun z7 I8 D9 => ((¬ z4 = 8 → RI 4 190 [vR (some (A + 18)), vJ, vJ, vJ, vJ, vI x5, vJ, vI z7, vJ, vJ] [] e I8 D9 Q) ∧ (¬ (¬ z4 = 8) → CI 53 [vR (some 1), vI z7] e I8 D9 (fun z10 I11 D12 => ((z10 = 10 → RI 4 190 [vR (some (A + 18)), vJ, vJ, vJ, vJ, vI x5, vJ, vI z7, vJ, vJ] [] e I11 D12 Q) ∧ (¬ (z10 = 10) → CI 5 [vR (some (A + 18)), vI z7] e I11 D12 (fun z13 I14 D15 => ((¬ z13 = 0 → RI 4 190 [vR (some (A + 18)), vJ, vJ, vJ, vJ, vI x5, vJ, vI z7, vJ, vJ] [] e I14 D15 Q) ∧ (¬ (¬ z13 = 0) → CI 6 [vR (some (A + 18)), vI z7] e I14 D15 (fun z16 I17 D18 => CV 7 [vR (some (A + 18)), vI x4, vI z7, vI z16, vI (I14 (A + 2) 3)] e I17 D18 (fun I20 D21 => CI 51 [vR (some 1), vI z16] e I20 D21 (fun z22 I23 D24 => RI 4 190 [vR (some (A + 18)), vJ, vJ, vJ, vJ, vI x5, vJ, vI z22, vJ, vJ] [] e I23 D24 Q))))))))))))) ∧ (¬ (¬ z4 = 10) → (K0 (D6 (A + 18) 3) = 1) ∧ CI 52 [vR (some 1), vI x4] e (uI I5 (D6 (A + 18) 3) 2 1) D6 (fun z26 I27 D28 => RI 4 200 [vR (some (A + 18)), vJ, vJ, vJ, vI z26, vJ, vJ, vJ, vJ, vJ] [] e I27 D28 Q)))))))))) :
    RI 4 52 [vR (some (A + 18)), vJ, vJ, vJ, vI x4, vI x5, vJ, vJ, vJ, vJ] [] e I D Q := by
  show Run 4 52 [vR (some (A + 18)), vJ, vJ, vJ, vI x4, vI x5, vJ, vJ, vJ, vJ] [] (mk e I D) (pI e Q)
  refine R_iload (pc' := 54) rfl rfl rfl ?_
  refine R_sipush (pc' := 57) rfl rfl ?_
  refine R_icgt (pc' := 60) rfl rfl (fun hc => ?_) (fun hc => ?_)
  · replace h := h.1 hc
    exact R_forget (ls' := [vR (some (A + 18)), vJ, vJ, vJ, vI x4, vJ, vJ, vJ, vJ, vJ]) ⟨Or.inl rfl, Or.inl rfl, Or.inl rfl, Or.inl rfl, Or.inl rfl, Or.inr rfl, Or.inl rfl, Or.inl rfl, Or.inl rfl, Or.inl rfl, trivial⟩ h
  · replace h := h.2 hc
    refine R_aload_n (pc' := 61) rfl rfl rfl ?_
    refine R_iload (pc' := 63) rfl rfl rfl ?_
    refine KI_iv (as := [vI x4]) (rest := []) (pc' := 66) rfl rfl rfl (kA hA 18 2 ⟨rfl, rfl⟩) rfl (Nat.le_of_ble_eq_true rfl) rfl (CI_mono h ?_)
    intro z1 I2 D3 h
    refine R_ifne (pc' := 69) rfl rfl (fun hc => ?_) (fun hc => ?_)
    · replace h := h.1 hc
      exact R_forget (ls' := [vR (some (A + 18)), vJ, vJ, vJ, vI x4, vJ, vJ, vJ, vJ, vJ]) ⟨Or.inl rfl, Or.inl rfl, Or.inl rfl, Or.inl rfl, Or.inl rfl, Or.inr rfl, Or.inl rfl, Or.inl rfl, Or.inl rfl, Or.inl rfl, trivial⟩ h
    · replace h := h.2 hc
      refine R_aload_n (pc' := 70) rfl rfl rfl ?_
      refine K_getR (pc' := 73) rfl rfl rfl (kA hA 18 2 ⟨rfl, rfl⟩) (gA1 he hA 18 ⟨⟨rfl, rfl⟩, rfl, rfl⟩) ?_
      refine R_iload (pc' := 75) rfl rfl rfl ?_
      refine KI_iv (as := [vI x4]) (rest := []) (pc' := 78) rfl rfl rfl rfl rfl (Nat.le_of_ble_eq_true rfl) rfl (CI_mono h ?_)
      intro z4 I5 D6 h
      refine R_istore (ls' := [vR (some (A + 18)), vJ, vJ, vJ, vI x4, vI x5, vI z4, vJ, vJ, vJ]) (pc' := 80) rfl rfl rfl ?_
      refine R_iload (pc' := 82) rfl rfl rfl ?_
      refine R_bipush (pc' := 84) rfl rfl ?_
      refine R_icne (pc' := 87) rfl rfl (fun hc => ?_) (fun hc => ?_)
      · replace h := h.1 hc
        refine R_aload_n (pc' := 110) rfl rfl rfl ?_
        refine K_getR (pc' := 113) rfl rfl rfl (kA hA 18 2 ⟨rfl, rfl⟩) (gA1 he hA 18 ⟨⟨rfl, rfl⟩, rfl, rfl⟩) ?_
        refine R_iload (pc' := 115) rfl rfl rfl ?_
        refine KI_iv (as := [vI x4]) (rest := []) (pc' := 118) rfl rfl rfl rfl rfl (Nat.le_of_ble_eq_true rfl) rfl (CI_mono h ?_)
        intro z7 I8 D9 h
        refine R_istore (ls' := [vR (some (A + 18)), vJ, vJ, vJ, vI x4, vI x5, vI z4, vI z7, vJ, vJ]) (pc' := 120) rfl rfl rfl ?_
        refine R_iload (pc' := 122) rfl rfl rfl ?_
        refine R_bipush (pc' := 124) rfl rfl ?_
        refine R_icne (pc' := 127) rfl rfl (fun hc => ?_) (fun hc => ?_)
        · replace h := h.1 hc
          exact R_forget (ls' := [vR (some (A + 18)), vJ, vJ, vJ, vJ, vI x5, vJ, vI z7, vJ, vJ]) ⟨Or.inl rfl, Or.inl rfl, Or.inl rfl, Or.inl rfl, Or.inr rfl, Or.inl rfl, Or.inr rfl, Or.inl rfl, Or.inl rfl, Or.inl rfl, trivial⟩ h
        · replace h := h.2 hc
          refine R_aload_n (pc' := 128) rfl rfl rfl ?_
          refine K_getR (pc' := 131) rfl rfl rfl (kA hA 18 2 ⟨rfl, rfl⟩) (gA1 he hA 18 ⟨⟨rfl, rfl⟩, rfl, rfl⟩) ?_
          refine R_iload (pc' := 133) rfl rfl rfl ?_
          refine KI_iv (as := [vI z7]) (rest := []) (pc' := 136) rfl rfl rfl rfl rfl (Nat.le_of_ble_eq_true rfl) rfl (CI_mono h ?_)
          intro z10 I11 D12 h
          refine R_bipush (pc' := 138) rfl rfl ?_
          refine R_iceq (pc' := 141) rfl rfl (fun hc => ?_) (fun hc => ?_)
          · replace h := h.1 hc
            exact R_forget (ls' := [vR (some (A + 18)), vJ, vJ, vJ, vJ, vI x5, vJ, vI z7, vJ, vJ]) ⟨Or.inl rfl, Or.inl rfl, Or.inl rfl, Or.inl rfl, Or.inr rfl, Or.inl rfl, Or.inr rfl, Or.inl rfl, Or.inl rfl, Or.inl rfl, trivial⟩ h
          · replace h := h.2 hc
            refine R_aload_n (pc' := 142) rfl rfl rfl ?_
            refine R_iload (pc' := 144) rfl rfl rfl ?_
            refine KI_iv (as := [vI z7]) (rest := []) (pc' := 147) rfl rfl rfl (kA hA 18 2 ⟨rfl, rfl⟩) rfl (Nat.le_of_ble_eq_true rfl) rfl (CI_mono h ?_)
            intro z13 I14 D15 h
            refine R_ifne (pc' := 150) rfl rfl (fun hc => ?_) (fun hc => ?_)
            · replace h := h.1 hc
              exact R_forget (ls' := [vR (some (A + 18)), vJ, vJ, vJ, vJ, vI x5, vJ, vI z7, vJ, vJ]) ⟨Or.inl rfl, Or.inl rfl, Or.inl rfl, Or.inl rfl, Or.inr rfl, Or.inl rfl, Or.inr rfl, Or.inl rfl, Or.inl rfl, Or.inl rfl, trivial⟩ h
            · replace h := h.2 hc
              refine R_aload_n (pc' := 151) rfl rfl rfl ?_
              refine K_getR (pc' := 154) rfl rfl rfl (kA hA 18 2 ⟨rfl, rfl⟩) (gA he hA 18 1 2 ⟨⟨rfl, rfl⟩, rfl, rfl⟩) ?_
              refine K_getIN (pc' := 157) rfl rfl (by decide) (kA hA 2 4 ⟨rfl, rfl⟩) rfl ?_
              refine R_istore (ls' := [vR (some (A + 18)), vJ, vJ, vJ, vI x4, vI x5, vI z4, vI z7, vI (I14 (A + 2) 3), vJ]) (pc' := 159) rfl rfl rfl ?_
              refine R_aload_n (pc' := 160) rfl rfl rfl ?_
              refine R_iload (pc' := 162) rfl rfl rfl ?_
              refine KI_iv (as := [vI z7]) (rest := []) (pc' := 165) rfl rfl rfl (kA hA 18 2 ⟨rfl, rfl⟩) rfl (Nat.le_of_ble_eq_true rfl) rfl (CI_mono h ?_)
              intro z16 I17 D18 h
              refine R_istore (ls' := [vR (some (A + 18)), vJ, vJ, vJ, vI x4, vI x5, vI z4, vI z7, vI (I14 (A + 2) 3), vI z16]) (pc' := 167) rfl rfl rfl ?_
              refine R_aload_n (pc' := 168) rfl rfl rfl ?_
              refine R_iload (pc' := 170) rfl rfl rfl ?_
              refine R_iload (pc' := 172) rfl rfl rfl ?_
              refine R_iload (pc' := 174) rfl rfl rfl ?_
              refine R_iload (pc' := 176) rfl rfl rfl ?_
              refine KV_iv (as := [vI x4, vI z7, vI z16, vI (I14 (A + 2) 3)]) (rest := []) (pc' := 179) rfl rfl rfl (kA hA 18 2 ⟨rfl, rfl⟩) rfl (Nat.le_of_ble_eq_true rfl) rfl (CV_mono h ?_)
              intro I20 D21 h
              refine R_aload_n (pc' := 180) rfl rfl rfl ?_
              refine K_getR (pc' := 183) rfl rfl rfl (kA hA 18 2 ⟨rfl, rfl⟩) (gA1 he hA 18 ⟨⟨rfl, rfl⟩, rfl, rfl⟩) ?_
              refine R_iload (pc' := 185) rfl rfl rfl ?_
              refine KI_iv (as := [vI z16]) (rest := []) (pc' := 188) rfl rfl rfl rfl rfl (Nat.le_of_ble_eq_true rfl) rfl (CI_mono h ?_)
              intro z22 I23 D24 h
              refine R_istore (ls' := [vR (some (A + 18)), vJ, vJ, vJ, vI x4, vI x5, vI z4, vI z22, vI (I14 (A + 2) 3), vI z16]) (pc' := 190) rfl rfl rfl ?_
              exact R_forget (ls' := [vR (some (A + 18)), vJ, vJ, vJ, vJ, vI x5, vJ, vI z22, vJ, vJ]) ⟨Or.inl rfl, Or.inl rfl, Or.inl rfl, Or.inl rfl, Or.inr rfl, Or.inl rfl, Or.inr rfl, Or.inl rfl, Or.inr rfl, Or.inr rfl, trivial⟩ h
      · replace h := h.2 hc
        refine R_aload_n (pc' := 88) rfl rfl rfl ?_
        refine K_getR (pc' := 91) rfl rfl rfl (kA hA 18 2 ⟨rfl, rfl⟩) (dy_at (dA hA 18 3 ⟨rfl, rfl⟩)) ?_
        refine R_iconst (pc' := 92) rfl rfl ?_
        have g25 := h.1
        replace h := h.2
        refine K_putIN (pc' := 95) rfl rfl (by decide) (fun _ => Or.inr rfl) g25 ?_
        refine R_aload_n (pc' := 96) rfl rfl rfl ?_
        refine K_getR (pc' := 99) rfl rfl rfl (kA hA 18 2 ⟨rfl, rfl⟩) (gA1 he hA 18 ⟨⟨rfl, rfl⟩, rfl, rfl⟩) ?_
        refine R_iload (pc' := 101) rfl rfl rfl ?_
        refine KI_iv (as := [vI x4]) (rest := []) (pc' := 104) rfl rfl rfl rfl rfl (Nat.le_of_ble_eq_true rfl) rfl (CI_mono h ?_)
        intro z26 I27 D28 h
        refine R_istore (ls' := [vR (some (A + 18)), vJ, vJ, vJ, vI z26, vI x5, vI z4, vJ, vJ, vJ]) (pc' := 106) rfl rfl rfl ?_
        refine R_goto rfl ?_
        exact R_forget (ls' := [vR (some (A + 18)), vJ, vJ, vJ, vI z26, vJ, vJ, vJ, vJ, vJ]) ⟨Or.inl rfl, Or.inl rfl, Or.inl rfl, Or.inl rfl, Or.inl rfl, Or.inr rfl, Or.inr rfl, Or.inl rfl, Or.inl rfl, Or.inl rfl, trivial⟩ h
theorem S4_190 {e : En} {I : HI} {D : HD} {Q : Int → HI → HD → Prop} {A : Nat} {x5 : Int} {x7 : Int} (he : HS e) (hA : isA A)
    (h : (-2147483648 ≤ (x5 + 1) ∧ (x5 + 1) < 2147483648) ∧ RI 4 52 [vR (some (A + 18)), vJ, vJ, vJ, vI x7, vI (x5 + 1), vJ, vJ, vJ, vJ] [] e I D Q) :
    RI 4 190 [vR (some (A + 18)), vJ, vJ, vJ, vJ, vI x5, vJ, vI x7, vJ, vJ] [] e I D Q := by
  show Run 4 190 [vR (some (A + 18)), vJ, vJ, vJ, vJ, vI x5, vJ, vI x7, vJ, vJ] [] (mk e I D) (pI e Q)
  refine R_iload (pc' := 192) rfl rfl rfl ?_
  refine R_istore (ls' := [vR (some (A + 18)), vJ, vJ, vJ, vI x7, vI x5, vJ, vI x7, vJ, vJ]) (pc' := 194) rfl rfl rfl ?_
  have g1 := h.1
  replace h := h.2
  refine R_iinc (ls' := [vR (some (A + 18)), vJ, vJ, vJ, vI x7, vI (x5 + 1), vJ, vI x7, vJ, vJ]) (pc' := 197) rfl rfl rfl g1 rfl ?_
  refine R_goto rfl ?_
  exact R_forget (ls' := [vR (some (A + 18)), vJ, vJ, vJ, vI x7, vI (x5 + 1), vJ, vJ, vJ, vJ]) ⟨Or.inl rfl, Or.inl rfl, Or.inl rfl, Or.inl rfl, Or.inl rfl, Or.inl rfl, Or.inl rfl, Or.inr rfl, Or.inl rfl, Or.inl rfl, trivial⟩ h
theorem S4_200 {e : En} {I : HI} {D : HD} {Q : Int → HI → HD → Prop} {A : Nat} {x4 : Int} (he : HS e) (hA : isA A)
    (h : (K0 (D (A + 18) 3) = 1) ∧ CV 2 [vR (some (D (A + 18) 3)), vI x4, vI (I (A + 2) 3), vI (I (A + 6) 3)] e I D (fun I3 D4 => Q x4 I3 D4)) :
    RI 4 200 [vR (some (A + 18)), vJ, vJ, vJ, vI x4, vJ, vJ, vJ, vJ, vJ] [] e I D Q := by
  show Run 4 200 [vR (some (A + 18)), vJ, vJ, vJ, vI x4, vJ, vJ, vJ, vJ, vJ] [] (mk e I D) (pI e Q)
  refine R_aload_n (pc' := 201) rfl rfl rfl ?_
  refine K_getR (pc' := 204) rfl rfl rfl (kA hA 18 2 ⟨rfl, rfl⟩) (dy_at (dA hA 18 3 ⟨rfl, rfl⟩)) ?_
  refine R_iload (pc' := 206) rfl rfl rfl ?_
  refine R_aload_n (pc' := 207) rfl rfl rfl ?_
  refine K_getR (pc' := 210) rfl rfl rfl (kA hA 18 2 ⟨rfl, rfl⟩) (gA he hA 18 1 2 ⟨⟨rfl, rfl⟩, rfl, rfl⟩) ?_
  refine K_getIN (pc' := 213) rfl rfl (by decide) (kA hA 2 4 ⟨rfl, rfl⟩) rfl ?_
  refine R_aload_n (pc' := 214) rfl rfl rfl ?_
  refine K_getR (pc' := 217) rfl rfl rfl (kA hA 18 2 ⟨rfl, rfl⟩) (gA he hA 18 2 6 ⟨⟨rfl, rfl⟩, rfl, rfl⟩) ?_
  refine K_getIN (pc' := 220) rfl rfl (by decide) (kA hA 6 4 ⟨rfl, rfl⟩) rfl ?_
  have g1 := h.1
  replace h := h.2
  refine KV_iv (as := [vI x4, vI (I (A + 2) 3), vI (I (A + 6) 3)]) (rest := []) (pc' := 223) rfl rfl rfl g1 rfl (Nat.le_of_ble_eq_true rfl) rfl (CV_mono h ?_)
  intro I3 D4 h
  refine R_iload (pc' := 225) rfl rfl rfl ?_
  exact R_iret rfl rfl ⟨_, _, _, rfl, rfl, h⟩
/-! 5 X1_endsAt -/
theorem S5 {e : En} {I : HI} {D : HD} {Q : Int → HI → HD → Prop} {A : Nat} {x1 : Int} (he : HS e) (hA : isA A)
    (h : CI 53 [vR (some 1), vI x1] e I D (fun z1 I2 D3 => ((z1 = 0 → RI 5 27 [vJ, vJ, vJ] [] e I2 D3 Q) ∧ (¬ (z1 = 0) → (((I2 (A + 18) 4) = 0 → Q 0 I2 D3) ∧ (¬ ((I2 (A + 18) 4) = 0) → CI 84 [vI z1] e I2 D3 (fun z4 I5 D6 => ((z4 = 0 → Q 0 I5 D6) ∧ (¬ (z4 = 0) → RI 5 27 [vJ, vJ, vJ] [] e I5 D6 Q))))))))) :
    CI 5 [vR (some (A + 18)), vI x1] e I D Q := by
  refine Call_run (ls := [vR (some (A + 18)), vI x1, vJ]) rfl rfl ?_
  refine R_aload_n (pc' := 1) rfl rfl rfl ?_
  refine K_getR (pc' := 4) rfl rfl rfl (kA hA 18 2 ⟨rfl, rfl⟩) (gA1 he hA 18 ⟨⟨rfl, rfl⟩, rfl, rfl⟩) ?_
  refine R_iload_n (pc' := 5) rfl rfl rfl ?_
  refine KI_iv (as := [vI x1]) (rest := []) (pc' := 8) rfl rfl rfl rfl rfl (Nat.le_of_ble_eq_true rfl) rfl (CI_mono h ?_)
  intro z1 I2 D3 h
  refine R_istore_n (ls' := [vR (some (A + 18)), vI x1, vI z1]) (pc' := 9) rfl rfl rfl ?_
  refine R_iload_n (pc' := 10) rfl rfl rfl ?_
  refine R_ifeq (pc' := 13) rfl rfl (fun hc => ?_) (fun hc => ?_)
  · replace h := h.1 hc
    exact R_forget (ls' := [vJ, vJ, vJ]) ⟨Or.inr rfl, Or.inr rfl, Or.inr rfl, trivial⟩ h
  · replace h := h.2 hc
    refine R_aload_n (pc' := 14) rfl rfl rfl ?_
    refine K_getI (pc' := 17) rfl rfl (by decide) (kA hA 18 2 ⟨rfl, rfl⟩) rfl ?_
    refine R_ifeq (pc' := 20) rfl rfl (fun hc => ?_) (fun hc => ?_)
    · replace h := h.1 hc
      refine R_iconst (pc' := 32) rfl rfl ?_
      exact R_zret rfl rfl (Or.inl rfl) ⟨_, _, _, rfl, rfl, h⟩
    · replace h := h.2 hc
      refine R_iload_n (pc' := 21) rfl rfl rfl ?_
      refine KI_stN (as := [vI z1]) (rest := []) (pc' := 24) rfl rfl rfl rfl (Nat.le_of_ble_eq_true rfl) rfl (CI_mono h ?_)
      intro z4 I5 D6 h
      refine R_ifeq (pc' := 27) rfl rfl (fun hc => ?_) (fun hc => ?_)
      · replace h := h.1 hc
        refine R_iconst (pc' := 32) rfl rfl ?_
        exact R_zret rfl rfl (Or.inl rfl) ⟨_, _, _, rfl, rfl, h⟩
      · replace h := h.2 hc
        exact R_forget (ls' := [vJ, vJ, vJ]) ⟨Or.inr rfl, Or.inr rfl, Or.inr rfl, trivial⟩ h
theorem S5_27 {e : En} {I : HI} {D : HD} {Q : Int → HI → HD → Prop} (he : HS e)
    (h : Q 1 I D) :
    RI 5 27 [vJ, vJ, vJ] [] e I D Q := by
  show Run 5 27 [vJ, vJ, vJ] [] (mk e I D) (pI e Q)
  refine R_iconst (pc' := 28) rfl rfl ?_
  refine R_goto rfl ?_
  exact R_zret rfl rfl (Or.inr rfl) ⟨_, _, _, rfl, rfl, h⟩
/-! 6 X1_takeValue -/
theorem S6 {e : En} {I : HI} {D : HD} {Q : Int → HI → HD → Prop} {A : Nat} {x1 : Int} (he : HS e) (hA : isA A)
    (h : CI 53 [vR (some 1), vI x1] e I D (fun z1 I2 D3 => ((¬ z1 = 9 → ((¬ z1 = 11 → RI 6 32 [vR (some (A + 18)), vI x1, vI z1, vJ, vJ, vJ, vJ, vJ, vJ] [vI 0] e I2 D3 Q) ∧ (¬ (¬ z1 = 11) → RI 6 32 [vR (some (A + 18)), vI x1, vI z1, vJ, vJ, vJ, vJ, vJ, vJ] [vI 12] e I2 D3 Q))) ∧ (¬ (¬ z1 = 9) → RI 6 32 [vR (some (A + 18)), vI x1, vI z1, vJ, vJ, vJ, vJ, vJ, vJ] [vI 10] e I2 D3 Q)))) :
    CI 6 [vR (some (A + 18)), vI x1] e I D Q := by
  refine Call_run (ls := [vR (some (A + 18)), vI x1, vJ, vJ, vJ, vJ, vJ, vJ, vJ]) rfl rfl ?_
  refine R_aload_n (pc' := 1) rfl rfl rfl ?_
  refine K_getR (pc' := 4) rfl rfl rfl (kA hA 18 2 ⟨rfl, rfl⟩) (gA1 he hA 18 ⟨⟨rfl, rfl⟩, rfl, rfl⟩) ?_
  refine R_iload_n (pc' := 5) rfl rfl rfl ?_
  refine KI_iv (as := [vI x1]) (rest := []) (pc' := 8) rfl rfl rfl rfl rfl (Nat.le_of_ble_eq_true rfl) rfl (CI_mono h ?_)
  intro z1 I2 D3 h
  refine R_istore_n (ls' := [vR (some (A + 18)), vI x1, vI z1, vJ, vJ, vJ, vJ, vJ, vJ]) (pc' := 9) rfl rfl rfl ?_
  refine R_iload_n (pc' := 10) rfl rfl rfl ?_
  refine R_bipush (pc' := 12) rfl rfl ?_
  refine R_icne (pc' := 15) rfl rfl (fun hc => ?_) (fun hc => ?_)
  · replace h := h.1 hc
    refine R_iload_n (pc' := 21) rfl rfl rfl ?_
    refine R_bipush (pc' := 23) rfl rfl ?_
    refine R_icne (pc' := 26) rfl rfl (fun hc => ?_) (fun hc => ?_)
    · replace h := h.1 hc
      refine R_iconst (pc' := 32) rfl rfl ?_
      exact h
    · replace h := h.2 hc
      refine R_bipush (pc' := 28) rfl rfl ?_
      refine R_goto rfl ?_
      exact h
  · replace h := h.2 hc
    refine R_bipush (pc' := 17) rfl rfl ?_
    refine R_goto rfl ?_
    exact h
theorem S6_32 {e : En} {I : HI} {D : HD} {Q : Int → HI → HD → Prop} {A : Nat} {x1 : Int} {x2 : Int} {y0 : Int} (he : HS e) (hA : isA A)
    (h : RI 6 42 [vR (some (A + 18)), vJ, vI x2, vI y0, vI 0, vI x1, vI 0, vJ, vJ] [] e I D Q) :
    RI 6 32 [vR (some (A + 18)), vI x1, vI x2, vJ, vJ, vJ, vJ, vJ, vJ] [vI y0] e I D Q := by
  show Run 6 32 [vR (some (A + 18)), vI x1, vI x2, vJ, vJ, vJ, vJ, vJ, vJ] [vI y0] (mk e I D) (pI e Q)
  refine R_istore_n (ls' := [vR (some (A + 18)), vI x1, vI x2, vI y0, vJ, vJ, vJ, vJ, vJ]) (pc' := 33) rfl rfl rfl ?_
  refine R_iconst (pc' := 34) rfl rfl ?_
  refine R_istore (ls' := [vR (some (A + 18)), vI x1, vI x2, vI y0, vI 0, vJ, vJ, vJ, vJ]) (pc' := 36) rfl rfl rfl ?_
  refine R_iload_n (pc' := 37) rfl rfl rfl ?_
  refine R_istore (ls' := [vR (some (A + 18)), vI x1, vI x2, vI y0, vI 0, vI x1, vJ, vJ, vJ]) (pc' := 39) rfl rfl rfl ?_
  refine R_iconst (pc' := 40) rfl rfl ?_
  refine R_istore (ls' := [vR (some (A + 18)), vI x1, vI x2, vI y0, vI 0, vI x1, vI 0, vJ, vJ]) (pc' := 42) rfl rfl rfl ?_
  exact R_forget (ls' := [vR (some (A + 18)), vJ, vI x2, vI y0, vI 0, vI x1, vI 0, vJ, vJ]) ⟨Or.inl rfl, Or.inr rfl, Or.inl rfl, Or.inl rfl, Or.inl rfl, Or.inl rfl, Or.inl rfl, Or.inl rfl, Or.inl rfl, trivial⟩ h
theorem S6_42 {e : En} {I : HI} {D : HD} {Q : Int → HI → HD → Prop} {A : Nat} {x2 : Int} {x3 : Int} {x4 : Int} {x5 : Int} {x6 : Int} (he : HS e) (hA : isA A)
    (h : (((3000 : Int) < x6 → Q x5 I D) ∧ (¬ ((3000 : Int) < x6) → CI 5 [vR (some (A + 18)), vI x5] e I D (fun z1 I2 D3 => ((¬ z1 = 0 → Q x5 I2 D3) ∧ (¬ (¬ z1 = 0) → CI 53 [vR (some 1), vI x5] e I2 D3 (fun z4 I5 D6 => CI 52 [vR (some 1), vI x5] e I5 D6 (fun z7 I8 D9 => ((¬ z4 = 4 → ((¬ z4 = x3 → ((¬ z4 = x2 → RI 6 146 [vR (some (A + 18)), vJ, vI x2, vI x3, vI x4, vJ, vI x6, vJ, vI z7] [] e I8 D9 Q) ∧ (¬ (¬ z4 = x2) → ((x3 = 0 → RI 6 146 [vR (some (A + 18)), vJ, vI x2, vI x3, vI x4, vJ, vI x6, vJ, vI z7] [] e I8 D9 Q) ∧ (¬ (x3 = 0) → (-2147483648 ≤ (x4 + 1) ∧ (x4 + 1) < 2147483648) ∧ RI 6 146 [vR (some (A + 18)), vJ, vI x2, vI x3, vI (x4 + 1), vJ, vI x6, vJ, vI z7] [] e I8 D9 Q))))) ∧ (¬ (¬ z4 = x3) → (-2147483648 ≤ (x4 + (-1)) ∧ (x4 + (-1)) < 2147483648) ∧ RI 6 146 [vR (some (A + 18)), vJ, vI x2, vI x3, vI (x4 + (-1)), vJ, vI x6, vJ, vI z7] [] e I8 D9 Q))) ∧ (¬ (¬ z4 = 4) → CI 56 [vR (some 1), vI x5] e I8 D9 (fun z12 I13 D14 => CI 54 [vR (some 1), vI x5] e I13 D14 (fun z15 I16 D17 => CV 11 [vR (some (A + 2)), vI z15, vI x5, vI z12] e I16 D17 (fun I19 D20 => RI 6 146 [vR (some (A + 18)), vJ, vI x2, vI x3, vI x4, vJ, vI x6, vJ, vI z12] [] e I19 D20 Q))))))))))))) :
    RI 6 42 [vR (some (A + 18)), vJ, vI x2, vI x3, vI x4, vI x5, vI x6, vJ, vJ] [] e I D Q := by
  show Run 6 42 [vR (some (A + 18)), vJ, vI x2, vI x3, vI x4, vI x5, vI x6, vJ, vJ] [] (mk e I D) (pI e Q)
  refine R_iload (pc' := 44) rfl rfl rfl ?_
  refine R_sipush (pc' := 47) rfl rfl ?_
  refine R_icgt (pc' := 50) rfl rfl (fun hc => ?_) (fun hc => ?_)
  · replace h := h.1 hc
    refine R_iload (pc' := 173) rfl rfl rfl ?_
    exact R_iret rfl rfl ⟨_, _, _, rfl, rfl, h⟩
  · replace h := h.2 hc
    refine R_aload_n (pc' := 51) rfl rfl rfl ?_
    refine R_iload (pc' := 53) rfl rfl rfl ?_
    refine KI_iv (as := [vI x5]) (rest := []) (pc' := 56) rfl rfl rfl (kA hA 18 2 ⟨rfl, rfl⟩) rfl (Nat.le_of_ble_eq_true rfl) rfl (CI_mono h ?_)
    intro z1 I2 D3 h
    refine R_ifne (pc' := 59) rfl rfl (fun hc => ?_) (fun hc => ?_)
    · replace h := h.1 hc
      refine R_iload (pc' := 173) rfl rfl rfl ?_
      exact R_iret rfl rfl ⟨_, _, _, rfl, rfl, h⟩
    · replace h := h.2 hc
      refine R_aload_n (pc' := 60) rfl rfl rfl ?_
      refine K_getR (pc' := 63) rfl rfl rfl (kA hA 18 2 ⟨rfl, rfl⟩) (gA1 he hA 18 ⟨⟨rfl, rfl⟩, rfl, rfl⟩) ?_
      refine R_iload (pc' := 65) rfl rfl rfl ?_
      refine KI_iv (as := [vI x5]) (rest := []) (pc' := 68) rfl rfl rfl rfl rfl (Nat.le_of_ble_eq_true rfl) rfl (CI_mono h ?_)
      intro z4 I5 D6 h
      refine R_istore (ls' := [vR (some (A + 18)), vJ, vI x2, vI x3, vI x4, vI x5, vI x6, vI z4, vJ]) (pc' := 70) rfl rfl rfl ?_
      refine R_aload_n (pc' := 71) rfl rfl rfl ?_
      refine K_getR (pc' := 74) rfl rfl rfl (kA hA 18 2 ⟨rfl, rfl⟩) (gA1 he hA 18 ⟨⟨rfl, rfl⟩, rfl, rfl⟩) ?_
      refine R_iload (pc' := 76) rfl rfl rfl ?_
      refine KI_iv (as := [vI x5]) (rest := []) (pc' := 79) rfl rfl rfl rfl rfl (Nat.le_of_ble_eq_true rfl) rfl (CI_mono h ?_)
      intro z7 I8 D9 h
      refine R_istore (ls' := [vR (some (A + 18)), vJ, vI x2, vI x3, vI x4, vI x5, vI x6, vI z4, vI z7]) (pc' := 81) rfl rfl rfl ?_
      refine R_iload (pc' := 83) rfl rfl rfl ?_
      refine R_iconst (pc' := 84) rfl rfl ?_
      refine R_icne (pc' := 87) rfl rfl (fun hc => ?_) (fun hc => ?_)
      · replace h := h.1 hc
        refine R_iload (pc' := 123) rfl rfl rfl ?_
        refine R_iload_n (pc' := 124) rfl rfl rfl ?_
        refine R_icne (pc' := 127) rfl rfl (fun hc => ?_) (fun hc => ?_)
        · replace h := h.1 hc
          refine R_iload (pc' := 135) rfl rfl rfl ?_
          refine R_iload_n (pc' := 136) rfl rfl rfl ?_
          refine R_icne (pc' := 139) rfl rfl (fun hc => ?_) (fun hc => ?_)
          · replace h := h.1 hc
            exact R_forget (ls' := [vR (some (A + 18)), vJ, vI x2, vI x3, vI x4, vJ, vI x6, vJ, vI z7]) ⟨Or.inl rfl, Or.inl rfl, Or.inl rfl, Or.inl rfl, Or.inl rfl, Or.inr rfl, Or.inl rfl, Or.inr rfl, Or.inl rfl, trivial⟩ h
          · replace h := h.2 hc
            refine R_iload_n (pc' := 140) rfl rfl rfl ?_
            refine R_ifeq (pc' := 143) rfl rfl (fun hc => ?_) (fun hc => ?_)
            · replace h := h.1 hc
              exact R_forget (ls' := [vR (some (A + 18)), vJ, vI x2, vI x3, vI x4, vJ, vI x6, vJ, vI z7]) ⟨Or.inl rfl, Or.inl rfl, Or.inl rfl, Or.inl rfl, Or.inl rfl, Or.inr rfl, Or.inl rfl, Or.inr rfl, Or.inl rfl, trivial⟩ h
            · replace h := h.2 hc
              have g10 := h.1
              replace h := h.2
              refine R_iinc (ls' := [vR (some (A + 18)), vJ, vI x2, vI x3, vI (x4 + 1), vI x5, vI x6, vI z4, vI z7]) (pc' := 146) rfl rfl rfl g10 rfl ?_
              exact R_forget (ls' := [vR (some (A + 18)), vJ, vI x2, vI x3, vI (x4 + 1), vJ, vI x6, vJ, vI z7]) ⟨Or.inl rfl, Or.inl rfl, Or.inl rfl, Or.inl rfl, Or.inl rfl, Or.inr rfl, Or.inl rfl, Or.inr rfl, Or.inl rfl, trivial⟩ h
        · replace h := h.2 hc
          have g11 := h.1
          replace h := h.2
          refine R_iinc (ls' := [vR (some (A + 18)), vJ, vI x2, vI x3, vI (x4 + (-1)), vI x5, vI x6, vI z4, vI z7]) (pc' := 130) rfl rfl rfl g11 rfl ?_
          refine R_goto rfl ?_
          exact R_forget (ls' := [vR (some (A + 18)), vJ, vI x2, vI x3, vI (x4 + (-1)), vJ, vI x6, vJ, vI z7]) ⟨Or.inl rfl, Or.inl rfl, Or.inl rfl, Or.inl rfl, Or.inl rfl, Or.inr rfl, Or.inl rfl, Or.inr rfl, Or.inl rfl, trivial⟩ h
      · replace h := h.2 hc
        refine R_aload_n (pc' := 88) rfl rfl rfl ?_
        refine K_getR (pc' := 91) rfl rfl rfl (kA hA 18 2 ⟨rfl, rfl⟩) (gA1 he hA 18 ⟨⟨rfl, rfl⟩, rfl, rfl⟩) ?_
        refine R_iload (pc' := 93) rfl rfl rfl ?_
        refine KI_iv (as := [vI x5]) (rest := []) (pc' := 96) rfl rfl rfl rfl rfl (Nat.le_of_ble_eq_true rfl) rfl (CI_mono h ?_)
        intro z12 I13 D14 h
        refine R_istore (ls' := [vR (some (A + 18)), vJ, vI x2, vI x3, vI x4, vI x5, vI x6, vI z4, vI z12]) (pc' := 98) rfl rfl rfl ?_
        refine R_aload_n (pc' := 99) rfl rfl rfl ?_
        refine K_getR (pc' := 102) rfl rfl rfl (kA hA 18 2 ⟨rfl, rfl⟩) (gA he hA 18 1 2 ⟨⟨rfl, rfl⟩, rfl, rfl⟩) ?_
        refine R_aload_n (pc' := 103) rfl rfl rfl ?_
        refine K_getR (pc' := 106) rfl rfl rfl (kA hA 18 2 ⟨rfl, rfl⟩) (gA1 he hA 18 ⟨⟨rfl, rfl⟩, rfl, rfl⟩) ?_
        refine R_iload (pc' := 108) rfl rfl rfl ?_
        refine KI_iv (as := [vI x5]) (rest := [vR (some (A + 2))]) (pc' := 111) rfl rfl rfl rfl rfl (Nat.le_of_ble_eq_true rfl) rfl (CI_mono h ?_)
        intro z15 I16 D17 h
        refine R_iload (pc' := 113) rfl rfl rfl ?_
        refine R_iload (pc' := 115) rfl rfl rfl ?_
        refine KV_iv (as := [vI z15, vI x5, vI z12]) (rest := []) (pc' := 118) rfl rfl rfl (kA hA 2 4 ⟨rfl, rfl⟩) rfl (Nat.le_of_ble_eq_true rfl) rfl (CV_mono h ?_)
        intro I19 D20 h
        refine R_goto rfl ?_
        exact R_forget (ls' := [vR (some (A + 18)), vJ, vI x2, vI x3, vI x4, vJ, vI x6, vJ, vI z12]) ⟨Or.inl rfl, Or.inl rfl, Or.inl rfl, Or.inl rfl, Or.inl rfl, Or.inr rfl, Or.inl rfl, Or.inr rfl, Or.inl rfl, trivial⟩ h
theorem S6_146 {e : En} {I : HI} {D : HD} {Q : Int → HI → HD → Prop} {A : Nat} {x2 : Int} {x3 : Int} {x4 : Int} {x6 : Int} {x8 : Int} (he : HS e) (hA : isA A)
    (h : ((¬ x4 = 0 → CI 51 [vR (some 1), vI x8] e I D (fun z1 I2 D3 => (-2147483648 ≤ (x6 + 1) ∧ (x6 + 1) < 2147483648) ∧ RI 6 42 [vR (some (A + 18)), vJ, vI x2, vI x3, vI x4, vI z1, vI (x6 + 1), vJ, vJ] [] e I2 D3 Q)) ∧ (¬ (¬ x4 = 0) → Q x8 I D))) :
    RI 6 146 [vR (some (A + 18)), vJ, vI x2, vI x3, vI x4, vJ, vI x6, vJ, vI x8] [] e I D Q := by
  show Run 6 146 [vR (some (A + 18)), vJ, vI x2, vI x3, vI x4, vJ, vI x6, vJ, vI x8] [] (mk e I D) (pI e Q)
  refine R_iload (pc' := 148) rfl rfl rfl ?_
  refine R_ifne (pc' := 151) rfl rfl (fun hc => ?_) (fun hc => ?_)
  · replace h := h.1 hc
    refine R_aload_n (pc' := 155) rfl rfl rfl ?_
    refine K_getR (pc' := 158) rfl rfl rfl (kA hA 18 2 ⟨rfl, rfl⟩) (gA1 he hA 18 ⟨⟨rfl, rfl⟩, rfl, rfl⟩) ?_
    refine R_iload (pc' := 160) rfl rfl rfl ?_
    refine KI_iv (as := [vI x8]) (rest := []) (pc' := 163) rfl rfl rfl rfl rfl (Nat.le_of_ble_eq_true rfl) rfl (CI_mono h ?_)
    intro z1 I2 D3 h
    refine R_istore (ls' := [vR (some (A + 18)), vJ, vI x2, vI x3, vI x4, vI z1, vI x6, vJ, vI x8]) (pc' := 165) rfl rfl rfl ?_
    have g4 := h.1
    replace h := h.2
    refine R_iinc (ls' := [vR (some (A + 18)), vJ, vI x2, vI x3, vI x4, vI z1, vI (x6 + 1), vJ, vI x8]) (pc' := 168) rfl rfl rfl g4 rfl ?_
    refine R_goto rfl ?_
    exact R_forget (ls' := [vR (some (A + 18)), vJ, vI x2, vI x3, vI x4, vI z1, vI (x6 + 1), vJ, vJ]) ⟨Or.inl rfl, Or.inl rfl, Or.inl rfl, Or.inl rfl, Or.inl rfl, Or.inl rfl, Or.inl rfl, Or.inl rfl, Or.inr rfl, trivial⟩ h
  · replace h := h.2 hc
    refine R_iload (pc' := 153) rfl rfl rfl ?_
    exact R_iret rfl rfl ⟨_, _, _, rfl, rfl, h⟩
/-! 7 X1_keepPair -/
theorem S7 {e : En} {I : HI} {D : HD} {Q : HI → HD → Prop} {A : Nat} {x1 : Int} {x2 : Int} {x3 : Int} {x4 : Int} (he : HS e) (hA : isA A)
    (h : CI 53 [vR (some 1), vI x2] e I D (fun z1 I2 D3 => ((¬ z1 = 4 → RV 7 17 [vR (some (A + 18)), vI x1, vI x2, vI x3, vI x4, vJ, vJ, vJ, vJ, vJ] [vI 0] e I2 D3 Q) ∧ (¬ (¬ z1 = 4) → RV 7 17 [vR (some (A + 18)), vI x1, vI x2, vI x3, vI x4, vJ, vJ, vJ, vJ, vJ] [vI 1] e I2 D3 Q)))) :
    CV 7 [vR (some (A + 18)), vI x1, vI x2, vI x3, vI x4] e I D Q := by
  refine Call_run (ls := [vR (some (A + 18)), vI x1, vI x2, vI x3, vI x4, vJ, vJ, vJ, vJ, vJ]) rfl rfl ?_
  refine R_aload_n (pc' := 1) rfl rfl rfl ?_
  refine K_getR (pc' := 4) rfl rfl rfl (kA hA 18 2 ⟨rfl, rfl⟩) (gA1 he hA 18 ⟨⟨rfl, rfl⟩, rfl, rfl⟩) ?_
  refine R_iload_n (pc' := 5) rfl rfl rfl ?_
  refine KI_iv (as := [vI x2]) (rest := []) (pc' := 8) rfl rfl rfl rfl rfl (Nat.le_of_ble_eq_true rfl) rfl (CI_mono h ?_)
  intro z1 I2 D3 h
  refine R_iconst (pc' := 9) rfl rfl ?_
  refine R_icne (pc' := 12) rfl rfl (fun hc => ?_) (fun hc => ?_)
  · replace h := h.1 hc
    refine R_iconst (pc' := 17) rfl rfl ?_
    exact h
  · replace h := h.2 hc
    refine R_iconst (pc' := 13) rfl rfl ?_
    refine R_goto rfl ?_
    exact h
theorem S7_17 {e : En} {I : HI} {D : HD} {Q : HI → HD → Prop} {A : Nat} {x1 : Int} {x2 : Int} {x3 : Int} {x4 : Int} {y0 : Int} (he : HS e) (hA : isA A)
    (h : CI 54 [vR (some 1), vI x2] e I D (fun z1 I2 D3 => CI 57 [vR (some 1), vI x1, vS 15] e I2 D3 (fun z4 I5 D6 => ((z4 = 0 → CI 57 [vR (some 1), vI x1, vS 17] e I5 D6 (fun z7 I8 D9 => ((z7 = 0 → CI 57 [vR (some 1), vI x1, vS 19] e I8 D9 (fun z10 I11 D12 => ((z10 = 0 → CI 57 [vR (some 1), vI x1, vS 20] e I11 D12 (fun z13 I14 D15 => ((z13 = 0 → CI 57 [vR (some 1), vI x1, vS 21] e I14 D15 (fun z16 I17 D18 => ((z16 = 0 → CI 57 [vR (some 1), vI x1, vS 22] e I17 D18 (fun z19 I20 D21 => ((z19 = 0 → Q I20 D21) ∧ (¬ (z19 = 0) → ((y0 = 0 → (K0 (D21 (A + 18) 3) = 1) ∧ Q (uI I20 (D21 (A + 18) 3) 7 z1) D21) ∧ (¬ (y0 = 0) → (K0 (D21 (A + 18) 3) = 1) ∧ Q (uI I20 (D21 (A + 18) 3) 7 (-1)) D21)))))) ∧ (¬ (z16 = 0) → ((y0 = 0 → RV 7 261 [vJ, vJ, vJ, vJ, vJ, vJ, vJ, vJ, vJ, vJ] [vI 0, vR (some (D18 (A + 18) 3))] e I17 D18 Q) ∧ (¬ (y0 = 0) → RV 7 261 [vJ, vJ, vJ, vJ, vJ, vJ, vJ, vJ, vJ, vJ] [vI z1, vR (some (D18 (A + 18) 3))] e I17 D18 Q)))))) ∧ (¬ (z13 = 0) → ((y0 = 0 → RV 7 217 [vR (some (A + 18)), vI x1, vJ, vI x3, vJ, vJ, vJ, vJ, vJ, vJ] [vI z1, vR (some (D15 (A + 18) 3))] e I14 D15 Q) ∧ (¬ (y0 = 0) → RV 7 217 [vR (some (A + 18)), vI x1, vJ, vI x3, vJ, vJ, vJ, vJ, vJ, vJ] [vI (-1), vR (some (D15 (A + 18) 3))] e I14 D15 Q)))))) ∧ (¬ (z10 = 0) → (K0 (D12 (A + 18) 3) = 1) ∧ Q (uI (uI I11 (D12 (A + 18) 3) 8 x4) (D12 (A + 18) 3) 9 ((uI I11 (D12 (A + 18) 3) 8 x4) (A + 2) 3)) D12)))) ∧ (¬ (z7 = 0) → ((y0 = 0 → RV 7 144 [vJ, vJ, vJ, vJ, vJ, vJ, vJ, vJ, vJ, vJ] [vI 0, vR (some (D9 (A + 18) 3))] e I8 D9 Q) ∧ (¬ (y0 = 0) → RV 7 144 [vJ, vJ, vJ, vJ, vJ, vJ, vJ, vJ, vJ, vJ] [vI z1, vR (some (D9 (A + 18) 3))] e I8 D9 Q)))))) ∧ (¬ (z4 = 0) → CI 57 [vR (some 1), vI x2, vS 16] e I5 D6 (fun z25 I26 D27 => CI 57 [vR (some 1), vI x2, vS 17] e I26 D27 (fun z28 I29 D30 => CI 57 [vR (some 1), vI x2, vS 18] e I29 D30 (fun z31 I32 D33 => ((z25 = 0 → ((z28 = 0 → ((z31 = 0 → RV 7 110 [vJ, vJ, vJ, vJ, vJ, vJ, vJ, vJ, vJ, vJ] [vI 0, vR (some (D33 (A + 18) 3))] e I32 D33 Q) ∧ (¬ (z31 = 0) → RV 7 110 [vJ, vJ, vJ, vJ, vJ, vJ, vJ, vJ, vJ, vJ] [vI 3, vR (some (D33 (A + 18) 3))] e I32 D33 Q))) ∧ (¬ (z28 = 0) → RV 7 110 [vJ, vJ, vJ, vJ, vJ, vJ, vJ, vJ, vJ, vJ] [vI 2, vR (some (D33 (A + 18) 3))] e I32 D33 Q))) ∧ (¬ (z25 = 0) → RV 7 110 [vJ, vJ, vJ, vJ, vJ, vJ, vJ, vJ, vJ, vJ] [vI 1, vR (some (D33 (A + 18) 3))] e I32 D33 Q)))))))))) :
    RV 7 17 [vR (some (A + 18)), vI x1, vI x2, vI x3, vI x4, vJ, vJ, vJ, vJ, vJ] [vI y0] e I D Q := by
  show Run 7 17 [vR (some (A + 18)), vI x1, vI x2, vI x3, vI x4, vJ, vJ, vJ, vJ, vJ] [vI y0] (mk e I D) (pV e Q)
  refine R_istore (ls' := [vR (some (A + 18)), vI x1, vI x2, vI x3, vI x4, vI y0, vJ, vJ, vJ, vJ]) (pc' := 19) rfl rfl rfl ?_
  refine R_aload_n (pc' := 20) rfl rfl rfl ?_
  refine K_getR (pc' := 23) rfl rfl rfl (kA hA 18 2 ⟨rfl, rfl⟩) (gA1 he hA 18 ⟨⟨rfl, rfl⟩, rfl, rfl⟩) ?_
  refine R_iload_n (pc' := 24) rfl rfl rfl ?_
  refine KI_iv (as := [vI x2]) (rest := []) (pc' := 27) rfl rfl rfl rfl rfl (Nat.le_of_ble_eq_true rfl) rfl (CI_mono h ?_)
  intro z1 I2 D3 h
  refine R_istore (ls' := [vR (some (A + 18)), vI x1, vI x2, vI x3, vI x4, vI y0, vI z1, vJ, vJ, vJ]) (pc' := 29) rfl rfl rfl ?_
  refine R_aload_n (pc' := 30) rfl rfl rfl ?_
  refine K_getR (pc' := 33) rfl rfl rfl (kA hA 18 2 ⟨rfl, rfl⟩) (gA1 he hA 18 ⟨⟨rfl, rfl⟩, rfl, rfl⟩) ?_
  refine R_iload_n (pc' := 34) rfl rfl rfl ?_
  refine R_ldcS (pc' := 36) rfl rfl ?_
  refine KI_iv (as := [vI x1, vS 15]) (rest := []) (pc' := 39) rfl rfl rfl rfl rfl (Nat.le_of_ble_eq_true rfl) rfl (CI_mono h ?_)
  intro z4 I5 D6 h
  refine R_ifeq (pc' := 42) rfl rfl (fun hc => ?_) (fun hc => ?_)
  · replace h := h.1 hc
    refine R_aload_n (pc' := 117) rfl rfl rfl ?_
    refine K_getR (pc' := 120) rfl rfl rfl (kA hA 18 2 ⟨rfl, rfl⟩) (gA1 he hA 18 ⟨⟨rfl, rfl⟩, rfl, rfl⟩) ?_
    refine R_iload_n (pc' := 121) rfl rfl rfl ?_
    refine R_ldcS (pc' := 123) rfl rfl ?_
    refine KI_iv (as := [vI x1, vS 17]) (rest := []) (pc' := 126) rfl rfl rfl rfl rfl (Nat.le_of_ble_eq_true rfl) rfl (CI_mono h ?_)
    intro z7 I8 D9 h
    refine R_ifeq (pc' := 129) rfl rfl (fun hc => ?_) (fun hc => ?_)
    · replace h := h.1 hc
      refine R_aload_n (pc' := 151) rfl rfl rfl ?_
      refine K_getR (pc' := 154) rfl rfl rfl (kA hA 18 2 ⟨rfl, rfl⟩) (gA1 he hA 18 ⟨⟨rfl, rfl⟩, rfl, rfl⟩) ?_
      refine R_iload_n (pc' := 155) rfl rfl rfl ?_
      refine R_ldcS (pc' := 157) rfl rfl ?_
      refine KI_iv (as := [vI x1, vS 19]) (rest := []) (pc' := 160) rfl rfl rfl rfl rfl (Nat.le_of_ble_eq_true rfl) rfl (CI_mono h ?_)
      intro z10 I11 D12 h
      refine R_ifeq (pc' := 163) rfl rfl (fun hc => ?_) (fun hc => ?_)
      · replace h := h.1 hc
        refine R_aload_n (pc' := 190) rfl rfl rfl ?_
        refine K_getR (pc' := 193) rfl rfl rfl (kA hA 18 2 ⟨rfl, rfl⟩) (gA1 he hA 18 ⟨⟨rfl, rfl⟩, rfl, rfl⟩) ?_
        refine R_iload_n (pc' := 194) rfl rfl rfl ?_
        refine R_ldcS (pc' := 196) rfl rfl ?_
        refine KI_iv (as := [vI x1, vS 20]) (rest := []) (pc' := 199) rfl rfl rfl rfl rfl (Nat.le_of_ble_eq_true rfl) rfl (CI_mono h ?_)
        intro z13 I14 D15 h
        refine R_ifeq (pc' := 202) rfl rfl (fun hc => ?_) (fun hc => ?_)
        · replace h := h.1 hc
          refine R_aload_n (pc' := 234) rfl rfl rfl ?_
          refine K_getR (pc' := 237) rfl rfl rfl (kA hA 18 2 ⟨rfl, rfl⟩) (gA1 he hA 18 ⟨⟨rfl, rfl⟩, rfl, rfl⟩) ?_
          refine R_iload_n (pc' := 238) rfl rfl rfl ?_
          refine R_ldcS (pc' := 240) rfl rfl ?_
          refine KI_iv (as := [vI x1, vS 21]) (rest := []) (pc' := 243) rfl rfl rfl rfl rfl (Nat.le_of_ble_eq_true rfl) rfl (CI_mono h ?_)
          intro z16 I17 D18 h
          refine R_ifeq (pc' := 246) rfl rfl (fun hc => ?_) (fun hc => ?_)
          · replace h := h.1 hc
            refine R_aload_n (pc' := 268) rfl rfl rfl ?_
            refine K_getR (pc' := 271) rfl rfl rfl (kA hA 18 2 ⟨rfl, rfl⟩) (gA1 he hA 18 ⟨⟨rfl, rfl⟩, rfl, rfl⟩) ?_
            refine R_iload_n (pc' := 272) rfl rfl rfl ?_
            refine R_ldcS (pc' := 274) rfl rfl ?_
            refine KI_iv (as := [vI x1, vS 22]) (rest := []) (pc' := 277) rfl rfl rfl rfl rfl (Nat.le_of_ble_eq_true rfl) rfl (CI_mono h ?_)
            intro z19 I20 D21 h
            refine R_ifeq (pc' := 280) rfl rfl (fun hc => ?_) (fun hc => ?_)
            · replace h := h.1 hc
              exact R_vret rfl rfl ⟨_, _, rfl, rfl, h⟩
            · replace h := h.2 hc
              refine R_aload_n (pc' := 281) rfl rfl rfl ?_
              refine K_getR (pc' := 284) rfl rfl rfl (kA hA 18 2 ⟨rfl, rfl⟩) (dy_at (dA hA 18 3 ⟨rfl, rfl⟩)) ?_
              refine R_iload (pc' := 286) rfl rfl rfl ?_
              refine R_ifeq (pc' := 289) rfl rfl (fun hc => ?_) (fun hc => ?_)
              · replace h := h.1 hc
                refine R_iload (pc' := 295) rfl rfl rfl ?_
                have g22 := h.1
                replace h := h.2
                refine K_putIN (pc' := 298) rfl rfl (by decide) (fun h => absurd h (by decide)) g22 ?_
                exact R_vret rfl rfl ⟨_, _, rfl, rfl, h⟩
              · replace h := h.2 hc
                refine R_iconst (pc' := 290) rfl rfl ?_
                refine R_goto rfl ?_
                have g23 := h.1
                replace h := h.2
                refine K_putIN (pc' := 298) rfl rfl (by decide) (fun h => absurd h (by decide)) g23 ?_
                exact R_vret rfl rfl ⟨_, _, rfl, rfl, h⟩
          · replace h := h.2 hc
            refine R_aload_n (pc' := 247) rfl rfl rfl ?_
            refine K_getR (pc' := 250) rfl rfl rfl (kA hA 18 2 ⟨rfl, rfl⟩) (dy_at (dA hA 18 3 ⟨rfl, rfl⟩)) ?_
            refine R_iload (pc' := 252) rfl rfl rfl ?_
            refine R_ifeq (pc' := 255) rfl rfl (fun hc => ?_) (fun hc => ?_)
            · replace h := h.1 hc
              refine R_iconst (pc' := 261) rfl rfl ?_
              exact R_forget (ls' := [vJ, vJ, vJ, vJ, vJ, vJ, vJ, vJ, vJ, vJ]) ⟨Or.inr rfl, Or.inr rfl, Or.inr rfl, Or.inr rfl, Or.inr rfl, Or.inr rfl, Or.inr rfl, Or.inl rfl, Or.inl rfl, Or.inl rfl, trivial⟩ h
            · replace h := h.2 hc
              refine R_iload (pc' := 257) rfl rfl rfl ?_
              refine R_goto rfl ?_
              exact R_forget (ls' := [vJ, vJ, vJ, vJ, vJ, vJ, vJ, vJ, vJ, vJ]) ⟨Or.inr rfl, Or.inr rfl, Or.inr rfl, Or.inr rfl, Or.inr rfl, Or.inr rfl, Or.inr rfl, Or.inl rfl, Or.inl rfl, Or.inl rfl, trivial⟩ h
        · replace h := h.2 hc
          refine R_aload_n (pc' := 203) rfl rfl rfl ?_
          refine K_getR (pc' := 206) rfl rfl rfl (kA hA 18 2 ⟨rfl, rfl⟩) (dy_at (dA hA 18 3 ⟨rfl, rfl⟩)) ?_
          refine R_iload (pc' := 208) rfl rfl rfl ?_
          refine R_ifeq (pc' := 211) rfl rfl (fun hc => ?_) (fun hc => ?_)
          · replace h := h.1 hc
            refine R_iload (pc' := 217) rfl rfl rfl ?_
            exact R_forget (ls' := [vR (some (A + 18)), vI x1, vJ, vI x3, vJ, vJ, vJ, vJ, vJ, vJ]) ⟨Or.inl rfl, Or.inl rfl, Or.inr rfl, Or.inl rfl, Or.inr rfl, Or.inr rfl, Or.inr rfl, Or.inl rfl, Or.inl rfl, Or.inl rfl, trivial⟩ h
          · replace h := h.2 hc
            refine R_iconst (pc' := 212) rfl rfl ?_
            refine R_goto rfl ?_
            exact R_forget (ls' := [vR (some (A + 18)), vI x1, vJ, vI x3, vJ, vJ, vJ, vJ, vJ, vJ]) ⟨Or.inl rfl, Or.inl rfl, Or.inr rfl, Or.inl rfl, Or.inr rfl, Or.inr rfl, Or.inr rfl, Or.inl rfl, Or.inl rfl, Or.inl rfl, trivial⟩ h
      · replace h := h.2 hc
        refine R_aload_n (pc' := 164) rfl rfl rfl ?_
        refine K_getR (pc' := 167) rfl rfl rfl (kA hA 18 2 ⟨rfl, rfl⟩) (dy_at (dA hA 18 3 ⟨rfl, rfl⟩)) ?_
        refine R_iload (pc' := 169) rfl rfl rfl ?_
        have g24 := h.1
        replace h := h.2
        refine K_putIN (pc' := 172) rfl rfl (by decide) (fun h => absurd h (by decide)) g24 ?_
        refine R_aload_n (pc' := 173) rfl rfl rfl ?_
        refine K_getR (pc' := 176) rfl rfl rfl (kA hA 18 2 ⟨rfl, rfl⟩) (dy_at (dA hA 18 3 ⟨rfl, rfl⟩)) ?_
        refine R_aload_n (pc' := 177) rfl rfl rfl ?_
        refine K_getR (pc' := 180) rfl rfl rfl (kA hA 18 2 ⟨rfl, rfl⟩) (gA he hA 18 1 2 ⟨⟨rfl, rfl⟩, rfl, rfl⟩) ?_
        refine K_getIN (pc' := 183) rfl rfl (by decide) (kA hA 2 4 ⟨rfl, rfl⟩) rfl ?_
        refine K_putIN (pc' := 186) rfl rfl (by decide) (fun h => absurd h (by decide)) g24 ?_
        refine R_goto rfl ?_
        exact R_vret rfl rfl ⟨_, _, rfl, rfl, h⟩
    · replace h := h.2 hc
      refine R_aload_n (pc' := 130) rfl rfl rfl ?_
      refine K_getR (pc' := 133) rfl rfl rfl (kA hA 18 2 ⟨rfl, rfl⟩) (dy_at (dA hA 18 3 ⟨rfl, rfl⟩)) ?_
      refine R_iload (pc' := 135) rfl rfl rfl ?_
      refine R_ifeq (pc' := 138) rfl rfl (fun hc => ?_) (fun hc => ?_)
      · replace h := h.1 hc
        refine R_iconst (pc' := 144) rfl rfl ?_
        exact R_forget (ls' := [vJ, vJ, vJ, vJ, vJ, vJ, vJ, vJ, vJ, vJ]) ⟨Or.inr rfl, Or.inr rfl, Or.inr rfl, Or.inr rfl, Or.inr rfl, Or.inr rfl, Or.inr rfl, Or.inl rfl, Or.inl rfl, Or.inl rfl, trivial⟩ h
      · replace h := h.2 hc
        refine R_iload (pc' := 140) rfl rfl rfl ?_
        refine R_goto rfl ?_
        exact R_forget (ls' := [vJ, vJ, vJ, vJ, vJ, vJ, vJ, vJ, vJ, vJ]) ⟨Or.inr rfl, Or.inr rfl, Or.inr rfl, Or.inr rfl, Or.inr rfl, Or.inr rfl, Or.inr rfl, Or.inl rfl, Or.inl rfl, Or.inl rfl, trivial⟩ h
  · replace h := h.2 hc
    refine R_aload_n (pc' := 43) rfl rfl rfl ?_
    refine K_getR (pc' := 46) rfl rfl rfl (kA hA 18 2 ⟨rfl, rfl⟩) (gA1 he hA 18 ⟨⟨rfl, rfl⟩, rfl, rfl⟩) ?_
    refine R_iload_n (pc' := 47) rfl rfl rfl ?_
    refine R_ldcS (pc' := 49) rfl rfl ?_
    refine KI_iv (as := [vI x2, vS 16]) (rest := []) (pc' := 52) rfl rfl rfl rfl rfl (Nat.le_of_ble_eq_true rfl) rfl (CI_mono h ?_)
    intro z25 I26 D27 h
    refine R_istore (ls' := [vR (some (A + 18)), vI x1, vI x2, vI x3, vI x4, vI y0, vI z1, vI z25, vJ, vJ]) (pc' := 54) rfl rfl rfl ?_
    refine R_aload_n (pc' := 55) rfl rfl rfl ?_
    refine K_getR (pc' := 58) rfl rfl rfl (kA hA 18 2 ⟨rfl, rfl⟩) (gA1 he hA 18 ⟨⟨rfl, rfl⟩, rfl, rfl⟩) ?_
    refine R_iload_n (pc' := 59) rfl rfl rfl ?_
    refine R_ldcS (pc' := 61) rfl rfl ?_
    refine KI_iv (as := [vI x2, vS 17]) (rest := []) (pc' := 64) rfl rfl rfl rfl rfl (Nat.le_of_ble_eq_true rfl) rfl (CI_mono h ?_)
    intro z28 I29 D30 h
    refine R_istore (ls' := [vR (some (A + 18)), vI x1, vI x2, vI x3, vI x4, vI y0, vI z1, vI z25, vI z28, vJ]) (pc' := 66) rfl rfl rfl ?_
    refine R_aload_n (pc' := 67) rfl rfl rfl ?_
    refine K_getR (pc' := 70) rfl rfl rfl (kA hA 18 2 ⟨rfl, rfl⟩) (gA1 he hA 18 ⟨⟨rfl, rfl⟩, rfl, rfl⟩) ?_
    refine R_iload_n (pc' := 71) rfl rfl rfl ?_
    refine R_ldcS (pc' := 73) rfl rfl ?_
    refine KI_iv (as := [vI x2, vS 18]) (rest := []) (pc' := 76) rfl rfl rfl rfl rfl (Nat.le_of_ble_eq_true rfl) rfl (CI_mono h ?_)
    intro z31 I32 D33 h
    refine R_istore (ls' := [vR (some (A + 18)), vI x1, vI x2, vI x3, vI x4, vI y0, vI z1, vI z25, vI z28, vI z31]) (pc' := 78) rfl rfl rfl ?_
    refine R_aload_n (pc' := 79) rfl rfl rfl ?_
    refine K_getR (pc' := 82) rfl rfl rfl (kA hA 18 2 ⟨rfl, rfl⟩) (dy_at (dA hA 18 3 ⟨rfl, rfl⟩)) ?_
    refine R_iload (pc' := 84) rfl rfl rfl ?_
    refine R_ifeq (pc' := 87) rfl rfl (fun hc => ?_) (fun hc => ?_)
    · replace h := h.1 hc
      refine R_iload (pc' := 93) rfl rfl rfl ?_
      refine R_ifeq (pc' := 96) rfl rfl (fun hc => ?_) (fun hc => ?_)
      · replace h := h.1 hc
        refine R_iload (pc' := 102) rfl rfl rfl ?_
        refine R_ifeq (pc' := 105) rfl rfl (fun hc => ?_) (fun hc => ?_)
        · replace h := h.1 hc
          refine R_iconst (pc' := 110) rfl rfl ?_
          exact R_forget (ls' := [vJ, vJ, vJ, vJ, vJ, vJ, vJ, vJ, vJ, vJ]) ⟨Or.inr rfl, Or.inr rfl, Or.inr rfl, Or.inr rfl, Or.inr rfl, Or.inr rfl, Or.inr rfl, Or.inr rfl, Or.inr rfl, Or.inr rfl, trivial⟩ h
        · replace h := h.2 hc
          refine R_iconst (pc' := 106) rfl rfl ?_
          refine R_goto rfl ?_
          exact R_forget (ls' := [vJ, vJ, vJ, vJ, vJ, vJ, vJ, vJ, vJ, vJ]) ⟨Or.inr rfl, Or.inr rfl, Or.inr rfl, Or.inr rfl, Or.inr rfl, Or.inr rfl, Or.inr rfl, Or.inr rfl, Or.inr rfl, Or.inr rfl, trivial⟩ h
      · replace h := h.2 hc
        refine R_iconst (pc' := 97) rfl rfl ?_
        refine R_goto rfl ?_
        exact R_forget (ls' := [vJ, vJ, vJ, vJ, vJ, vJ, vJ, vJ, vJ, vJ]) ⟨Or.inr rfl, Or.inr rfl, Or.inr rfl, Or.inr rfl, Or.inr rfl, Or.inr rfl, Or.inr rfl, Or.inr rfl, Or.inr rfl, Or.inr rfl, trivial⟩ h
    · replace h := h.2 hc
      refine R_iconst (pc' := 88) rfl rfl ?_
      refine R_goto rfl ?_
      exact R_forget (ls' := [vJ, vJ, vJ, vJ, vJ, vJ, vJ, vJ, vJ, vJ]) ⟨Or.inr rfl, Or.inr rfl, Or.inr rfl, Or.inr rfl, Or.inr rfl, Or.inr rfl, Or.inr rfl, Or.inr rfl, Or.inr rfl, Or.inr rfl, trivial⟩ h
theorem S7_110 {e : En} {I : HI} {D : HD} {Q : HI → HD → Prop} {p0 : Nat} {y1 : Int} (he : HS e) (hp0 : K0 p0 = 1)
    (h : Q (uI I p0 3 y1) D) :
    RV 7 110 [vJ, vJ, vJ, vJ, vJ, vJ, vJ, vJ, vJ, vJ] [vI y1, vR (some p0)] e I D Q := by
  show Run 7 110 [vJ, vJ, vJ, vJ, vJ, vJ, vJ, vJ, vJ, vJ] [vI y1, vR (some p0)] (mk e I D) (pV e Q)
  refine K_putIN (pc' := 113) rfl rfl (by decide) (fun h => absurd h (by decide)) hp0 ?_
  refine R_goto rfl ?_
  exact R_vret rfl rfl ⟨_, _, rfl, rfl, h⟩
theorem S7_144 {e : En} {I : HI} {D : HD} {Q : HI → HD → Prop} {p0 : Nat} {y1 : Int} (he : HS e) (hp0 : K0 p0 = 1)
    (h : Q (uI I p0 4 y1) D) :
    RV 7 144 [vJ, vJ, vJ, vJ, vJ, vJ, vJ, vJ, vJ, vJ] [vI y1, vR (some p0)] e I D Q := by
  show Run 7 144 [vJ, vJ, vJ, vJ, vJ, vJ, vJ, vJ, vJ, vJ] [vI y1, vR (some p0)] (mk e I D) (pV e Q)
  refine K_putIN (pc' := 147) rfl rfl (by decide) (fun h => absurd h (by decide)) hp0 ?_
  refine R_goto rfl ?_
  exact R_vret rfl rfl ⟨_, _, rfl, rfl, h⟩
theorem S7_217 {e : En} {I : HI} {D : HD} {Q : HI → HD → Prop} {A : Nat} {x1 : Int} {x3 : Int} {p0 : Nat} {y1 : Int} (he : HS e) (hA : isA A) (hp0 : K0 p0 = 1)
    (h : CV 11 [vR (some (A + 6)), vI 0, vI x1, vI x3] e (uI I p0 5 y1) D (fun I2 D3 => Q I2 D3)) :
    RV 7 217 [vR (some (A + 18)), vI x1, vJ, vI x3, vJ, vJ, vJ, vJ, vJ, vJ] [vI y1, vR (some p0)] e I D Q := by
  show Run 7 217 [vR (some (A + 18)), vI x1, vJ, vI x3, vJ, vJ, vJ, vJ, vJ, vJ] [vI y1, vR (some p0)] (mk e I D) (pV e Q)
  refine K_putIN (pc' := 220) rfl rfl (by decide) (fun h => absurd h (by decide)) hp0 ?_
  refine R_aload_n (pc' := 221) rfl rfl rfl ?_
  refine K_getR (pc' := 224) rfl rfl rfl (kA hA 18 2 ⟨rfl, rfl⟩) (gA he hA 18 2 6 ⟨⟨rfl, rfl⟩, rfl, rfl⟩) ?_
  refine R_iconst (pc' := 225) rfl rfl ?_
  refine R_iload_n (pc' := 226) rfl rfl rfl ?_
  refine R_iload_n (pc' := 227) rfl rfl rfl ?_
  refine KV_iv (as := [vI 0, vI x1, vI x3]) (rest := []) (pc' := 230) rfl rfl rfl (kA hA 6 4 ⟨rfl, rfl⟩) rfl (Nat.le_of_ble_eq_true rfl) rfl (CV_mono h ?_)
  intro I2 D3 h
  refine R_goto rfl ?_
  exact R_vret rfl rfl ⟨_, _, rfl, rfl, h⟩
theorem S7_261 {e : En} {I : HI} {D : HD} {Q : HI → HD → Prop} {p0 : Nat} {y1 : Int} (he : HS e) (hp0 : K0 p0 = 1)
    (h : Q (uI I p0 6 y1) D) :
    RV 7 261 [vJ, vJ, vJ, vJ, vJ, vJ, vJ, vJ, vJ, vJ] [vI y1, vR (some p0)] e I D Q := by
  show Run 7 261 [vJ, vJ, vJ, vJ, vJ, vJ, vJ, vJ, vJ, vJ] [vI y1, vR (some p0)] (mk e I D) (pV e Q)
  refine K_putIN (pc' := 264) rfl rfl (by decide) (fun h => absurd h (by decide)) hp0 ?_
  refine R_goto rfl ?_
  exact R_vret rfl rfl ⟨_, _, rfl, rfl, h⟩
end
section
/-! what the code of each method does: printed by wip/whole/gen/decomp.py -/
/-! 17 X4_clear -/
theorem S17 {e : En} {I : HI} {D : HD} {Q : HI → HD → Prop} {A : Nat} (he : HS e) (hA : isA A)
    (h : RV 17 12 [vR (some (A + 146)), vI 0] [] e (uI (uI I (A + 146) 1 0) (A + 146) 5 0) D Q) :
    CV 17 [vR (some (A + 146))] e I D Q := by
  refine Call_run (ls := [vR (some (A + 146)), vJ]) rfl rfl ?_
  refine R_aload_n (pc' := 1) rfl rfl rfl ?_
  refine R_iconst (pc' := 2) rfl rfl ?_
  refine K_putI (pc' := 5) rfl rfl (by decide) (fun h => absurd h (by decide)) (kA hA 146 5 ⟨rfl, rfl⟩) ?_
  refine R_aload_n (pc' := 6) rfl rfl rfl ?_
  refine R_iconst (pc' := 7) rfl rfl ?_
  refine K_putI (pc' := 10) rfl rfl (by decide) (fun h => absurd h (by decide)) (kA hA 146 5 ⟨rfl, rfl⟩) ?_
  refine R_iconst (pc' := 11) rfl rfl ?_
  refine R_istore_n (ls' := [vR (some (A + 146)), vI 0]) (pc' := 12) rfl rfl rfl ?_
  exact h
theorem S17_12 {e : En} {I : HI} {D : HD} {Q : HI → HD → Prop} {A : Nat} {x1 : Int} (he : HS e) (hA : isA A)
    (h : (((61 : Int) ≤ x1 → Q I D) ∧ (¬ ((61 : Int) ≤ x1) → (0 ≤ x1 ∧ x1 < 61) ∧ (-2147483648 ≤ (x1 + 1) ∧ (x1 + 1) < 2147483648) ∧ RV 17 12 [vR (some (A + 146)), vI (x1 + 1)] [] e (uI I (A + 148) (x1.toNat) 0) D Q))) :
    RV 17 12 [vR (some (A + 146)), vI x1] [] e I D Q := by
  show Run 17 12 [vR (some (A + 146)), vI x1] [] (mk e I D) (pV e Q)
  refine R_iload_n (pc' := 13) rfl rfl rfl ?_
  refine R_aload_n (pc' := 14) rfl rfl rfl ?_
  refine K_getR (pc' := 17) rfl rfl rfl (kA hA 146 5 ⟨rfl, rfl⟩) (gA he hA 146 2 148 ⟨⟨rfl, rfl⟩, rfl, rfl⟩) ?_
  refine K_alen (pc' := 18) rfl rfl 2 (kA hA 148 23 ⟨rfl, rfl⟩) (by decide) (lA hA 148 61 ⟨rfl, rfl⟩) ?_
  refine R_icge (pc' := 21) rfl rfl (fun hc => ?_) (fun hc => ?_)
  · replace h := h.1 hc
    exact R_vret rfl rfl ⟨_, _, rfl, rfl, h⟩
  · replace h := h.2 hc
    refine R_aload_n (pc' := 22) rfl rfl rfl ?_
    refine K_getR (pc' := 25) rfl rfl rfl (kA hA 146 5 ⟨rfl, rfl⟩) (gA he hA 146 2 148 ⟨⟨rfl, rfl⟩, rfl, rfl⟩) ?_
    refine R_iload_n (pc' := 26) rfl rfl rfl ?_
    refine R_iconst (pc' := 27) rfl rfl ?_
    have g1 := h.1
    replace h := h.2
    refine K_zast (pc' := 28) rfl rfl (kA hA 148 23 ⟨rfl, rfl⟩) g1.1 (by rw [(lA hA 148 61 ⟨rfl, rfl⟩)]; exact g1.2) (Or.inl rfl) ?_
    have g2 := h.1
    replace h := h.2
    refine R_iinc (ls' := [vR (some (A + 146)), vI (x1 + 1)]) (pc' := 31) rfl rfl rfl g2 rfl ?_
    refine R_goto rfl ?_
    exact h
/-! 18 X4_objectAt -/
theorem S18 {e : En} {I : HI} {D : HD} {Q : Int → HI → HD → Prop} {A : Nat} {x1 : Int} (he : HS e) (hA : isA A)
    (h : ((x1 < 0 → Q 0 I D) ∧ (¬ (x1 < 0) → (((I (A + 146) 1) ≤ x1 → Q 0 I D) ∧ (¬ ((I (A + 146) 1) ≤ x1) → (((61 : Int) ≤ x1 → Q 0 I D) ∧ (¬ ((61 : Int) ≤ x1) → (0 ≤ x1 ∧ x1 < 61) ∧ Q (I (A + 147) (x1.toNat)) I D))))))) :
    CI 18 [vR (some (A + 146)), vI x1] e I D Q := by
  refine Call_run (ls := [vR (some (A + 146)), vI x1]) rfl rfl ?_
  refine R_iload_n (pc' := 1) rfl rfl rfl ?_
  refine R_iflt (pc' := 4) rfl rfl (fun hc => ?_) (fun hc => ?_)
  · replace h := h.1 hc
    refine R_iconst (pc' := 31) rfl rfl ?_
    exact R_iret rfl rfl ⟨_, _, _, rfl, rfl, h⟩
  · replace h := h.2 hc
    refine R_iload_n (pc' := 5) rfl rfl rfl ?_
    refine R_aload_n (pc' := 6) rfl rfl rfl ?_
    refine K_getI (pc' := 9) rfl rfl (by decide) (kA hA 146 5 ⟨rfl, rfl⟩) rfl ?_
    refine R_icge (pc' := 12) rfl rfl (fun hc => ?_) (fun hc => ?_)
    · replace h := h.1 hc
      refine R_iconst (pc' := 31) rfl rfl ?_
      exact R_iret rfl rfl ⟨_, _, _, rfl, rfl, h⟩
    · replace h := h.2 hc
      refine R_iload_n (pc' := 13) rfl rfl rfl ?_
      refine R_aload_n (pc' := 14) rfl rfl rfl ?_
      refine K_getR (pc' := 17) rfl rfl rfl (kA hA 146 5 ⟨rfl, rfl⟩) (gA he hA 146 0 147 ⟨⟨rfl, rfl⟩, rfl, rfl⟩) ?_
      refine K_alen (pc' := 18) rfl rfl 0 (kA hA 147 21 ⟨rfl, rfl⟩) (by decide) (lA hA 147 61 ⟨rfl, rfl⟩) ?_
      refine R_icge (pc' := 21) rfl rfl (fun hc => ?_) (fun hc => ?_)
      · replace h := h.1 hc
        refine R_iconst (pc' := 31) rfl rfl ?_
        exact R_iret rfl rfl ⟨_, _, _, rfl, rfl, h⟩
      · replace h := h.2 hc
        refine R_aload_n (pc' := 22) rfl rfl rfl ?_
        refine K_getR (pc' := 25) rfl rfl rfl (kA hA 146 5 ⟨rfl, rfl⟩) (gA he hA 146 0 147 ⟨⟨rfl, rfl⟩, rfl, rfl⟩) ?_
        refine R_iload_n (pc' := 26) rfl rfl rfl ?_
        have g1 := h.1
        replace h := h.2
        refine K_iald (pc' := 27) rfl rfl (kA hA 147 21 ⟨rfl, rfl⟩) g1.1 (by rw [(lA hA 147 61 ⟨rfl, rfl⟩)]; exact g1.2) rfl ?_
        refine R_goto rfl ?_
        exact R_iret rfl rfl ⟨_, _, _, rfl, rfl, h⟩
/-! 19 X4_follow -/
theorem S19 {e : En} {I : HI} {D : HD} {Q : HI → HD → Prop} {A : Nat} {x2 : Int} (he : HS e) (hA : isA A)
    (h : CI 36 [vR (some A), vI x2] e I D (fun z1 I2 D3 => ((¬ z1 = 2 → RV 19 15 [vR (some (A + 146)), vR (some A), vJ, vJ, vJ, vJ, vJ] [] e I2 D3 Q) ∧ (¬ (¬ z1 = 2) → CV 20 [vR (some (A + 146)), vR (some A), vI x2] e I2 D3 (fun I5 D6 => RV 19 15 [vR (some (A + 146)), vR (some A), vJ, vJ, vJ, vJ, vJ] [] e I5 D6 Q))))) :
    CV 19 [vR (some (A + 146)), vR (some A), vI x2] e I D Q := by
  refine Call_run (ls := [vR (some (A + 146)), vR (some A), vI x2, vJ, vJ, vJ, vJ]) rfl rfl ?_
  refine R_aload_n (pc' := 1) rfl rfl rfl ?_
  refine R_iload_n (pc' := 2) rfl rfl rfl ?_
  refine KI_iv (as := [vI x2]) (rest := []) (pc' := 5) rfl rfl rfl (kA hA 0 6 ⟨rfl, rfl⟩) rfl (Nat.le_of_ble_eq_true rfl) rfl (CI_mono h ?_)
  intro z1 I2 D3 h
  refine R_iconst (pc' := 6) rfl rfl ?_
  refine R_icne (pc' := 9) rfl rfl (fun hc => ?_) (fun hc => ?_)
  · replace h := h.1 hc
    exact R_forget (ls' := [vR (some (A + 146)), vR (some A), vJ, vJ, vJ, vJ, vJ]) ⟨Or.inl rfl, Or.inl rfl, Or.inr rfl, Or.inl rfl, Or.inl rfl, Or.inl rfl, Or.inl rfl, trivial⟩ h
  · replace h := h.2 hc
    refine R_aload_n (pc' := 10) rfl rfl rfl ?_
    refine R_aload_n (pc' := 11) rfl rfl rfl ?_
    refine R_iload_n (pc' := 12) rfl rfl rfl ?_
    refine KV_iv (as := [vR (some A), vI x2]) (rest := []) (pc' := 15) rfl rfl rfl (kA hA 146 5 ⟨rfl, rfl⟩) rfl (Nat.le_of_ble_eq_true rfl) rfl (CV_mono h ?_)
    intro I5 D6 h
    exact R_forget (ls' := [vR (some (A + 146)), vR (some A), vJ, vJ, vJ, vJ, vJ]) ⟨Or.inl rfl, Or.inl rfl, Or.inr rfl, Or.inl rfl, Or.inl rfl, Or.inl rfl, Or.inl rfl, trivial⟩ h
theorem S19_15 {e : En} {I : HI} {D : HD} {Q : HI → HD → Prop} {A : Nat} (he : HS e) (hA : isA A)
    (h : RV 19 22 [vR (some (A + 146)), vR (some A), vJ, vI 3060, vI 0, vJ, vJ] [] e I D Q) :
    RV 19 15 [vR (some (A + 146)), vR (some A), vJ, vJ, vJ, vJ, vJ] [] e I D Q := by
  show Run 19 15 [vR (some (A + 146)), vR (some A), vJ, vJ, vJ, vJ, vJ] [] (mk e I D) (pV e Q)
  refine R_sipush (pc' := 18) rfl rfl ?_
  refine R_istore_n (ls' := [vR (some (A + 146)), vR (some A), vJ, vI 3060, vJ, vJ, vJ]) (pc' := 19) rfl rfl rfl ?_
  refine R_iconst (pc' := 20) rfl rfl ?_
  refine R_istore (ls' := [vR (some (A + 146)), vR (some A), vJ, vI 3060, vI 0, vJ, vJ]) (pc' := 22) rfl rfl rfl ?_
  exact h
theorem S19_22 {e : En} {I : HI} {D : HD} {Q : HI → HD → Prop} {A : Nat} {x3 : Int} {x4 : Int} (he : HS e) (hA : isA A)
    (h : ((x3 ≤ x4 → Q I D) ∧ (¬ (x3 ≤ x4) → (((I (A + 146) 5) ≤ 0 → Q I D) ∧ (¬ ((I (A + 146) 5) ≤ 0) → (((61 : Int) < (I (A + 146) 5) → Q I D) ∧ (¬ ((61 : Int) < (I (A + 146) 5)) → (-2147483648 ≤ ((I (A + 146) 5) - 1) ∧ ((I (A + 146) 5) - 1) < 2147483648) ∧ (0 ≤ ((I (A + 146) 5) - 1) ∧ ((I (A + 146) 5) - 1) < 61) ∧ (0 ≤ ((I (A + 146) 5) - 1) ∧ ((I (A + 146) 5) - 1) < 61) ∧ (((I (A + 150) ((((I (A + 146) 5) - 1) : Int).toNat)) ≤ (I (A + 149) ((((I (A + 146) 5) - 1) : Int).toNat)) → (-2147483648 ≤ ((I (A + 146) 5) - 1) ∧ ((I (A + 146) 5) - 1) < 2147483648) ∧ RV 19 119 [vR (some (A + 146)), vR (some A), vJ, vI x3, vI x4, vJ, vJ] [] e (uI I (A + 146) 5 ((I (A + 146) 5) - 1)) D Q) ∧ (¬ ((I (A + 150) ((((I (A + 146) 5) - 1) : Int).toNat)) ≤ (I (A + 149) ((((I (A + 146) 5) - 1) : Int).toNat))) → (0 ≤ ((I (A + 146) 5) - 1) ∧ ((I (A + 146) 5) - 1) < 61) ∧ CI 13 [vR (some (A + 2)), vI (I (A + 149) ((((I (A + 146) 5) - 1) : Int).toNat))] e I D (fun z6 I7 D8 => (0 ≤ ((I (A + 146) 5) - 1) ∧ ((I (A + 146) 5) - 1) < 61) ∧ (-2147483648 ≤ ((I7 (A + 149) ((((I (A + 146) 5) - 1) : Int).toNat)) + 1) ∧ ((I7 (A + 149) ((((I (A + 146) 5) - 1) : Int).toNat)) + 1) < 2147483648) ∧ (0 ≤ ((I (A + 146) 5) - 1) ∧ ((I (A + 146) 5) - 1) < 61) ∧ CV 20 [vR (some (A + 146)), vR (some A), vI z6] e (uI I7 (A + 149) ((((I (A + 146) 5) - 1) : Int).toNat) ((I7 (A + 149) ((((I (A + 146) 5) - 1) : Int).toNat)) + 1)) D8 (fun I13 D14 => RV 19 119 [vR (some (A + 146)), vR (some A), vJ, vI x3, vI x4, vJ, vJ] [] e I13 D14 Q))))))))))) :
    RV 19 22 [vR (some (A + 146)), vR (some A), vJ, vI x3, vI x4, vJ, vJ] [] e I D Q := by
  show Run 19 22 [vR (some (A + 146)), vR (some A), vJ, vI x3, vI x4, vJ, vJ] [] (mk e I D) (pV e Q)
  refine R_iload (pc' := 24) rfl rfl rfl ?_
  refine R_iload_n (pc' := 25) rfl rfl rfl ?_
  refine R_icge (pc' := 28) rfl rfl (fun hc => ?_) (fun hc => ?_)
  · replace h := h.1 hc
    exact R_vret rfl rfl ⟨_, _, rfl, rfl, h⟩
  · replace h := h.2 hc
    refine R_aload_n (pc' := 29) rfl rfl rfl ?_
    refine K_getI (pc' := 32) rfl rfl (by decide) (kA hA 146 5 ⟨rfl, rfl⟩) rfl ?_
    refine R_ifle (pc' := 35) rfl rfl (fun hc => ?_) (fun hc => ?_)
    · replace h := h.1 hc
      exact R_vret rfl rfl ⟨_, _, rfl, rfl, h⟩
    · replace h := h.2 hc
      refine R_aload_n (pc' := 36) rfl rfl rfl ?_
      refine K_getI (pc' := 39) rfl rfl (by decide) (kA hA 146 5 ⟨rfl, rfl⟩) rfl ?_
      refine R_aload_n (pc' := 40) rfl rfl rfl ?_
      refine K_getR (pc' := 43) rfl rfl rfl (kA hA 146 5 ⟨rfl, rfl⟩) (gA he hA 146 3 149 ⟨⟨rfl, rfl⟩, rfl, rfl⟩) ?_
      refine K_alen (pc' := 44) rfl rfl 0 (kA hA 149 21 ⟨rfl, rfl⟩) (by decide) (lA hA 149 61 ⟨rfl, rfl⟩) ?_
      refine R_icgt (pc' := 47) rfl rfl (fun hc => ?_) (fun hc => ?_)
      · replace h := h.1 hc
        exact R_vret rfl rfl ⟨_, _, rfl, rfl, h⟩
      · replace h := h.2 hc
        refine R_aload_n (pc' := 48) rfl rfl rfl ?_
        refine K_getI (pc' := 51) rfl rfl (by decide) (kA hA 146 5 ⟨rfl, rfl⟩) rfl ?_
        refine R_iconst (pc' := 52) rfl rfl ?_
        have g1 := h.1
        replace h := h.2
        refine R_isub (pc' := 53) rfl rfl g1 ?_
        refine R_istore (ls' := [vR (some (A + 146)), vR (some A), vJ, vI x3, vI x4, vI ((I (A + 146) 5) - 1), vJ]) (pc' := 55) rfl rfl rfl ?_
        refine R_aload_n (pc' := 56) rfl rfl rfl ?_
        refine K_getR (pc' := 59) rfl rfl rfl (kA hA 146 5 ⟨rfl, rfl⟩) (gA he hA 146 3 149 ⟨⟨rfl, rfl⟩, rfl, rfl⟩) ?_
        refine R_iload (pc' := 61) rfl rfl rfl ?_
        have g2 := h.1
        replace h := h.2
        refine K_iald (pc' := 62) rfl rfl (kA hA 149 21 ⟨rfl, rfl⟩) g2.1 (by rw [(lA hA 149 61 ⟨rfl, rfl⟩)]; exact g2.2) rfl ?_
        refine R_aload_n (pc' := 63) rfl rfl rfl ?_
        refine K_getR (pc' := 66) rfl rfl rfl (kA hA 146 5 ⟨rfl, rfl⟩) (gA he hA 146 4 150 ⟨⟨rfl, rfl⟩, rfl, rfl⟩) ?_
        refine R_iload (pc' := 68) rfl rfl rfl ?_
        have g3 := h.1
        replace h := h.2
        refine K_iald (pc' := 69) rfl rfl (kA hA 150 21 ⟨rfl, rfl⟩) g3.1 (by rw [(lA hA 150 61 ⟨rfl, rfl⟩)]; exact g3.2) rfl ?_
        refine R_icge (pc' := 72) rfl rfl (fun hc => ?_) (fun hc => ?_)
        · replace h := h.1 hc
          refine R_aload_n (pc' := 110) rfl rfl rfl ?_
          refine R_dup (pc' := 111) rfl rfl rfl ?_
          refine K_getI (pc' := 114) rfl rfl (by decide) (kA hA 146 5 ⟨rfl, rfl⟩) rfl ?_
          refine R_iconst (pc' := 115) rfl rfl ?_
          have g4 := h.1
          replace h := h.2
          refine R_isub (pc' := 116) rfl rfl g4 ?_
          refine K_putI (pc' := 119) rfl rfl (by decide) (fun h => absurd h (by decide)) (kA hA 146 5 ⟨rfl, rfl⟩) ?_
          exact R_forget (ls' := [vR (some (A + 146)), vR (some A), vJ, vI x3, vI x4, vJ, vJ]) ⟨Or.inl rfl, Or.inl rfl, Or.inl rfl, Or.inl rfl, Or.inl rfl, Or.inr rfl, Or.inl rfl, trivial⟩ h
        · replace h := h.2 hc
          refine R_aload_n (pc' := 73) rfl rfl rfl ?_
          refine K_getRN (pc' := 76) rfl rfl rfl (kA hA 0 6 ⟨rfl, rfl⟩) (gA he hA 0 3 2 ⟨⟨rfl, rfl⟩, rfl, rfl⟩) ?_
          refine R_aload_n (pc' := 77) rfl rfl rfl ?_
          refine K_getR (pc' := 80) rfl rfl rfl (kA hA 146 5 ⟨rfl, rfl⟩) (gA he hA 146 3 149 ⟨⟨rfl, rfl⟩, rfl, rfl⟩) ?_
          refine R_iload (pc' := 82) rfl rfl rfl ?_
          have g5 := h.1
          replace h := h.2
          refine K_iald (pc' := 83) rfl rfl (kA hA 149 21 ⟨rfl, rfl⟩) g5.1 (by rw [(lA hA 149 61 ⟨rfl, rfl⟩)]; exact g5.2) rfl ?_
          refine KI_iv (as := [vI (I (A + 149) ((((I (A + 146) 5) - 1) : Int).toNat))]) (rest := []) (pc' := 86) rfl rfl rfl (kA hA 2 4 ⟨rfl, rfl⟩) rfl (Nat.le_of_ble_eq_true rfl) rfl (CI_mono h ?_)
          intro z6 I7 D8 h
          refine R_istore (ls' := [vR (some (A + 146)), vR (some A), vJ, vI x3, vI x4, vI ((I (A + 146) 5) - 1), vI z6]) (pc' := 88) rfl rfl rfl ?_
          refine R_aload_n (pc' := 89) rfl rfl rfl ?_
          refine K_getR (pc' := 92) rfl rfl rfl (kA hA 146 5 ⟨rfl, rfl⟩) (gA he hA 146 3 149 ⟨⟨rfl, rfl⟩, rfl, rfl⟩) ?_
          refine R_iload (pc' := 94) rfl rfl rfl ?_
          refine R_dup2 (pc' := 95) rfl rfl rfl rfl ?_
          have g9 := h.1
          replace h := h.2
          refine K_iald (pc' := 96) rfl rfl (kA hA 149 21 ⟨rfl, rfl⟩) g9.1 (by rw [(lA hA 149 61 ⟨rfl, rfl⟩)]; exact g9.2) rfl ?_
          refine R_iconst (pc' := 97) rfl rfl ?_
          have g10 := h.1
          replace h := h.2
          refine R_iadd (pc' := 98) rfl rfl g10 ?_
          have g11 := h.1
          replace h := h.2
          refine K_iast (pc' := 99) rfl rfl (kA hA 149 21 ⟨rfl, rfl⟩) g11.1 (by rw [(lA hA 149 61 ⟨rfl, rfl⟩)]; exact g11.2) ?_
          refine R_aload_n (pc' := 100) rfl rfl rfl ?_
          refine R_aload_n (pc' := 101) rfl rfl rfl ?_
          refine R_iload (pc' := 103) rfl rfl rfl ?_
          refine KV_iv (as := [vR (some A), vI z6]) (rest := []) (pc' := 106) rfl rfl rfl (kA hA 146 5 ⟨rfl, rfl⟩) rfl (Nat.le_of_ble_eq_true rfl) rfl (CV_mono h ?_)
          intro I13 D14 h
          refine R_goto rfl ?_
          exact R_forget (ls' := [vR (some (A + 146)), vR (some A), vJ, vI x3, vI x4, vJ, vJ]) ⟨Or.inl rfl, Or.inl rfl, Or.inl rfl, Or.inl rfl, Or.inl rfl, Or.inr rfl, Or.inr rfl, trivial⟩ h
theorem S19_119 {e : En} {I : HI} {D : HD} {Q : HI → HD → Prop} {A : Nat} {x3 : Int} {x4 : Int} (he : HS e) (hA : isA A)
    (h : (-2147483648 ≤ (x4 + 1) ∧ (x4 + 1) < 2147483648) ∧ RV 19 22 [vR (some (A + 146)), vR (some A), vJ, vI x3, vI (x4 + 1), vJ, vJ] [] e I D Q) :
    RV 19 119 [vR (some (A + 146)), vR (some A), vJ, vI x3, vI x4, vJ, vJ] [] e I D Q := by
  show Run 19 119 [vR (some (A + 146)), vR (some A), vJ, vI x3, vI x4, vJ, vJ] [] (mk e I D) (pV e Q)
  have g1 := h.1
  replace h := h.2
  refine R_iinc (ls' := [vR (some (A + 146)), vR (some A), vJ, vI x3, vI (x4 + 1), vJ, vJ]) (pc' := 122) rfl rfl rfl g1 rfl ?_
  refine R_goto rfl ?_
  exact h
/-! 20 X4_visit -/
theorem S20 {e : En} {I : HI} {D : HD} {Q : HI → HD → Prop} {A : Nat} {x2 : Int} (he : HS e) (hA : isA A)
    (h : CR 35 [vR (some A), vI x2] e I D (fun z1 I2 D3 => ((z1 = none → Q I2 D3) ∧ (∀ u4, z1 = some u4 → K0 u4 = 3 ∧ ((x2 < 0 → Q I2 D3) ∧ (¬ (x2 < 0) → (((61 : Int) ≤ x2 → Q I2 D3) ∧ (¬ ((61 : Int) ≤ x2) → (0 ≤ x2 ∧ x2 < 61) ∧ (((I2 (A + 148) (x2.toNat)) = 0 → (0 ≤ x2 ∧ x2 < 61) ∧ ((¬ ((uI I2 (A + 148) (x2.toNat) 1) (u4 + 1) 3) = 3 → ((¬ ((uI I2 (A + 148) (x2.toNat) 1) (u4 + 1) 3) = 2 → Q (uI I2 (A + 148) (x2.toNat) 1) D3) ∧ (¬ (¬ ((uI I2 (A + 148) (x2.toNat) 1) (u4 + 1) 3) = 2) → ((((uI I2 (A + 148) (x2.toNat) 1) (A + 146) 5) < 0 → Q (uI I2 (A + 148) (x2.toNat) 1) D3) ∧ (¬ (((uI I2 (A + 148) (x2.toNat) 1) (A + 146) 5) < 0) → (((61 : Int) ≤ ((uI I2 (A + 148) (x2.toNat) 1) (A + 146) 5) → Q (uI I2 (A + 148) (x2.toNat) 1) D3) ∧ (¬ ((61 : Int) ≤ ((uI I2 (A + 148) (x2.toNat) 1) (A + 146) 5)) → (0 ≤ ((uI I2 (A + 148) (x2.toNat) 1) (A + 146) 5) ∧ ((uI I2 (A + 148) (x2.toNat) 1) (A + 146) 5) < 61) ∧ (0 ≤ ((uI (uI I2 (A + 148) (x2.toNat) 1) (A + 149) ((((uI I2 (A + 148) (x2.toNat) 1) (A + 146) 5) : Int).toNat) ((uI I2 (A + 148) (x2.toNat) 1) (u4 + 1) 8)) (A + 146) 5) ∧ ((uI (uI I2 (A + 148) (x2.toNat) 1) (A + 149) ((((uI I2 (A + 148) (x2.toNat) 1) (A + 146) 5) : Int).toNat) ((uI I2 (A + 148) (x2.toNat) 1) (u4 + 1) 8)) (A + 146) 5) < 61) ∧ (-2147483648 ≤ (((uI (uI (uI I2 (A + 148) (x2.toNat) 1) (A + 149) ((((uI I2 (A + 148) (x2.toNat) 1) (A + 146) 5) : Int).toNat) ((uI I2 (A + 148) (x2.toNat) 1) (u4 + 1) 8)) (A + 150) ((((uI (uI I2 (A + 148) (x2.toNat) 1) (A + 149) ((((uI I2 (A + 148) (x2.toNat) 1) (A + 146) 5) : Int).toNat) ((uI I2 (A + 148) (x2.toNat) 1) (u4 + 1) 8)) (A + 146) 5) : Int).toNat) ((uI (uI I2 (A + 148) (x2.toNat) 1) (A + 149) ((((uI I2 (A + 148) (x2.toNat) 1) (A + 146) 5) : Int).toNat) ((uI I2 (A + 148) (x2.toNat) 1) (u4 + 1) 8)) (u4 + 1) 9)) (A + 146) 5) + 1) ∧ (((uI (uI (uI I2 (A + 148) (x2.toNat) 1) (A + 149) ((((uI I2 (A + 148) (x2.toNat) 1) (A + 146) 5) : Int).toNat) ((uI I2 (A + 148) (x2.toNat) 1) (u4 + 1) 8)) (A + 150) ((((uI (uI I2 (A + 148) (x2.toNat) 1) (A + 149) ((((uI I2 (A + 148) (x2.toNat) 1) (A + 146) 5) : Int).toNat) ((uI I2 (A + 148) (x2.toNat) 1) (u4 + 1) 8)) (A + 146) 5) : Int).toNat) ((uI (uI I2 (A + 148) (x2.toNat) 1) (A + 149) ((((uI I2 (A + 148) (x2.toNat) 1) (A + 146) 5) : Int).toNat) ((uI I2 (A + 148) (x2.toNat) 1) (u4 + 1) 8)) (u4 + 1) 9)) (A + 146) 5) + 1) < 2147483648) ∧ Q (uI (uI (uI (uI I2 (A + 148) (x2.toNat) 1) (A + 149) ((((uI I2 (A + 148) (x2.toNat) 1) (A + 146) 5) : Int).toNat) ((uI I2 (A + 148) (x2.toNat) 1) (u4 + 1) 8)) (A + 150) ((((uI (uI I2 (A + 148) (x2.toNat) 1) (A + 149) ((((uI I2 (A + 148) (x2.toNat) 1) (A + 146) 5) : Int).toNat) ((uI I2 (A + 148) (x2.toNat) 1) (u4 + 1) 8)) (A + 146) 5) : Int).toNat) ((uI (uI I2 (A + 148) (x2.toNat) 1) (A + 149) ((((uI I2 (A + 148) (x2.toNat) 1) (A + 146) 5) : Int).toNat) ((uI I2 (A + 148) (x2.toNat) 1) (u4 + 1) 8)) (u4 + 1) 9)) (A + 146) 5 (((uI (uI (uI I2 (A + 148) (x2.toNat) 1) (A + 149) ((((uI I2 (A + 148) (x2.toNat) 1) (A + 146) 5) : Int).toNat) ((uI I2 (A + 148) (x2.toNat) 1) (u4 + 1) 8)) (A + 150) ((((uI (uI I2 (A + 148) (x2.toNat) 1) (A + 149) ((((uI I2 (A + 148) (x2.toNat) 1) (A + 146) 5) : Int).toNat) ((uI I2 (A + 148) (x2.toNat) 1) (u4 + 1) 8)) (A + 146) 5) : Int).toNat) ((uI (uI I2 (A + 148) (x2.toNat) 1) (A + 149) ((((uI I2 (A + 148) (x2.toNat) 1) (A + 146) 5) : Int).toNat) ((uI I2 (A + 148) (x2.toNat) 1) (u4 + 1) 8)) (u4 + 1) 9)) (A + 146) 5) + 1)) D3))))))) ∧ (¬ (¬ ((uI I2 (A + 148) (x2.toNat) 1) (u4 + 1) 3) = 3) → CV 22 [vR (some (A + 146)), vI x2] e (uI I2 (A + 148) (x2.toNat) 1) D3 (fun I12 D13 => Q I12 D13)))) ∧ (¬ ((I2 (A + 148) (x2.toNat)) = 0) → Q I2 D3)))))))))) :
    CV 20 [vR (some (A + 146)), vR (some A), vI x2] e I D Q := by
  refine Call_run (ls := [vR (some (A + 146)), vR (some A), vI x2, vJ]) rfl rfl ?_
  refine R_aload_n (pc' := 1) rfl rfl rfl ?_
  refine R_iload_n (pc' := 2) rfl rfl rfl ?_
  refine KR_iv (as := [vI x2]) (rest := []) (pc' := 5) rfl rfl rfl (kA hA 0 6 ⟨rfl, rfl⟩) rfl (Nat.le_of_ble_eq_true rfl) rfl (CR_mono h ?_)
  intro z1 I2 D3 h
  refine R_astore_n (ls' := [vR (some (A + 146)), vR (some A), vI x2, vR z1]) (pc' := 6) rfl rfl rfl ?_
  refine R_aload_n (pc' := 7) rfl rfl rfl ?_
  refine R_ifnull (pc' := 10) rfl rfl (fun hn => ?_) (fun u4 hn => ?_)
  · replace h := h.1 hn
    subst hn
    exact R_vret rfl rfl ⟨_, _, rfl, rfl, h⟩
  · replace h := h.2 u4 hn
    subst hn
    have hu5 := h.1
    replace h := h.2
    refine R_iload_n (pc' := 11) rfl rfl rfl ?_
    refine R_iflt (pc' := 14) rfl rfl (fun hc => ?_) (fun hc => ?_)
    · replace h := h.1 hc
      exact R_vret rfl rfl ⟨_, _, rfl, rfl, h⟩
    · replace h := h.2 hc
      refine R_iload_n (pc' := 15) rfl rfl rfl ?_
      refine R_aload_n (pc' := 16) rfl rfl rfl ?_
      refine K_getR (pc' := 19) rfl rfl rfl (kA hA 146 5 ⟨rfl, rfl⟩) (gA he hA 146 2 148 ⟨⟨rfl, rfl⟩, rfl, rfl⟩) ?_
      refine K_alen (pc' := 20) rfl rfl 2 (kA hA 148 23 ⟨rfl, rfl⟩) (by decide) (lA hA 148 61 ⟨rfl, rfl⟩) ?_
      refine R_icge (pc' := 23) rfl rfl (fun hc => ?_) (fun hc => ?_)
      · replace h := h.1 hc
        exact R_vret rfl rfl ⟨_, _, rfl, rfl, h⟩
      · replace h := h.2 hc
        refine R_aload_n (pc' := 24) rfl rfl rfl ?_
        refine K_getR (pc' := 27) rfl rfl rfl (kA hA 146 5 ⟨rfl, rfl⟩) (gA he hA 146 2 148 ⟨⟨rfl, rfl⟩, rfl, rfl⟩) ?_
        refine R_iload_n (pc' := 28) rfl rfl rfl ?_
        have g6 := h.1
        replace h := h.2
        refine K_zald (pc' := 29) rfl rfl (kA hA 148 23 ⟨rfl, rfl⟩) g6.1 (by rw [(lA hA 148 61 ⟨rfl, rfl⟩)]; exact g6.2) rfl ?_
        refine R_ifeq (pc' := 32) rfl rfl (fun hc => ?_) (fun hc => ?_)
        · replace h := h.1 hc
          refine R_aload_n (pc' := 34) rfl rfl rfl ?_
          refine K_getR (pc' := 37) rfl rfl rfl (kA hA 146 5 ⟨rfl, rfl⟩) (gA he hA 146 2 148 ⟨⟨rfl, rfl⟩, rfl, rfl⟩) ?_
          refine R_iload_n (pc' := 38) rfl rfl rfl ?_
          refine R_iconst (pc' := 39) rfl rfl ?_
          have g7 := h.1
          replace h := h.2
          refine K_zast (pc' := 40) rfl rfl (kA hA 148 23 ⟨rfl, rfl⟩) g7.1 (by rw [(lA hA 148 61 ⟨rfl, rfl⟩)]; exact g7.2) (Or.inr rfl) ?_
          refine R_aload_n (pc' := 41) rfl rfl rfl ?_
          refine K_getRN (pc' := 44) rfl rfl rfl hu5 (gF0 he hu5) ?_
          refine K_getIN (pc' := 47) rfl rfl (by decide) (kF hu5).1 rfl ?_
          refine R_iconst (pc' := 48) rfl rfl ?_
          refine R_icne (pc' := 51) rfl rfl (fun hc => ?_) (fun hc => ?_)
          · replace h := h.1 hc
            refine R_aload_n (pc' := 60) rfl rfl rfl ?_
            refine K_getRN (pc' := 63) rfl rfl rfl hu5 (gF0 he hu5) ?_
            refine K_getIN (pc' := 66) rfl rfl (by decide) (kF hu5).1 rfl ?_
            refine R_iconst (pc' := 67) rfl rfl ?_
            refine R_icne (pc' := 70) rfl rfl (fun hc => ?_) (fun hc => ?_)
            · replace h := h.1 hc
              exact R_vret rfl rfl ⟨_, _, rfl, rfl, h⟩
            · replace h := h.2 hc
              refine R_aload_n (pc' := 71) rfl rfl rfl ?_
              refine K_getI (pc' := 74) rfl rfl (by decide) (kA hA 146 5 ⟨rfl, rfl⟩) rfl ?_
              refine R_iflt (pc' := 77) rfl rfl (fun hc => ?_) (fun hc => ?_)
              · replace h := h.1 hc
                exact R_vret rfl rfl ⟨_, _, rfl, rfl, h⟩
              · replace h := h.2 hc
                refine R_aload_n (pc' := 78) rfl rfl rfl ?_
                refine K_getI (pc' := 81) rfl rfl (by decide) (kA hA 146 5 ⟨rfl, rfl⟩) rfl ?_
                refine R_aload_n (pc' := 82) rfl rfl rfl ?_
                refine K_getR (pc' := 85) rfl rfl rfl (kA hA 146 5 ⟨rfl, rfl⟩) (gA he hA 146 3 149 ⟨⟨rfl, rfl⟩, rfl, rfl⟩) ?_
                refine K_alen (pc' := 86) rfl rfl 0 (kA hA 149 21 ⟨rfl, rfl⟩) (by decide) (lA hA 149 61 ⟨rfl, rfl⟩) ?_
                refine R_icge (pc' := 89) rfl rfl (fun hc => ?_) (fun hc => ?_)
                · replace h := h.1 hc
                  exact R_vret rfl rfl ⟨_, _, rfl, rfl, h⟩
                · replace h := h.2 hc
                  refine R_aload_n (pc' := 90) rfl rfl rfl ?_
                  refine K_getR (pc' := 93) rfl rfl rfl (kA hA 146 5 ⟨rfl, rfl⟩) (gA he hA 146 3 149 ⟨⟨rfl, rfl⟩, rfl, rfl⟩) ?_
                  refine R_aload_n (pc' := 94) rfl rfl rfl ?_
                  refine K_getI (pc' := 97) rfl rfl (by decide) (kA hA 146 5 ⟨rfl, rfl⟩) rfl ?_
                  refine R_aload_n (pc' := 98) rfl rfl rfl ?_
                  refine K_getRN (pc' := 101) rfl rfl rfl hu5 (gF0 he hu5) ?_
                  refine K_getIN (pc' := 104) rfl rfl (by decide) (kF hu5).1 rfl ?_
                  have g8 := h.1
                  replace h := h.2
                  refine K_iast (pc' := 105) rfl rfl (kA hA 149 21 ⟨rfl, rfl⟩) g8.1 (by rw [(lA hA 149 61 ⟨rfl, rfl⟩)]; exact g8.2) ?_
                  refine R_aload_n (pc' := 106) rfl rfl rfl ?_
                  refine K_getR (pc' := 109) rfl rfl rfl (kA hA 146 5 ⟨rfl, rfl⟩) (gA he hA 146 4 150 ⟨⟨rfl, rfl⟩, rfl, rfl⟩) ?_
                  refine R_aload_n (pc' := 110) rfl rfl rfl ?_
                  refine K_getI (pc' := 113) rfl rfl (by decide) (kA hA 146 5 ⟨rfl, rfl⟩) rfl ?_
                  refine R_aload_n (pc' := 114) rfl rfl rfl ?_
                  refine K_getRN (pc' := 117) rfl rfl rfl hu5 (gF0 he hu5) ?_
                  refine K_getIN (pc' := 120) rfl rfl (by decide) (kF hu5).1 rfl ?_
                  have g9 := h.1
                  replace h := h.2
                  refine K_iast (pc' := 121) rfl rfl (kA hA 150 21 ⟨rfl, rfl⟩) g9.1 (by rw [(lA hA 150 61 ⟨rfl, rfl⟩)]; exact g9.2) ?_
                  refine R_aload_n (pc' := 122) rfl rfl rfl ?_
                  refine R_dup (pc' := 123) rfl rfl rfl ?_
                  refine K_getI (pc' := 126) rfl rfl (by decide) (kA hA 146 5 ⟨rfl, rfl⟩) rfl ?_
                  refine R_iconst (pc' := 127) rfl rfl ?_
                  have g10 := h.1
                  replace h := h.2
                  refine R_iadd (pc' := 128) rfl rfl g10 ?_
                  refine K_putI (pc' := 131) rfl rfl (by decide) (fun h => absurd h (by decide)) (kA hA 146 5 ⟨rfl, rfl⟩) ?_
                  exact R_vret rfl rfl ⟨_, _, rfl, rfl, h⟩
          · replace h := h.2 hc
            refine R_aload_n (pc' := 52) rfl rfl rfl ?_
            refine R_iload_n (pc' := 53) rfl rfl rfl ?_
            refine KV_iv (as := [vI x2]) (rest := []) (pc' := 56) rfl rfl rfl (kA hA 146 5 ⟨rfl, rfl⟩) rfl (Nat.le_of_ble_eq_true rfl) rfl (CV_mono h ?_)
            intro I12 D13 h
            refine R_goto rfl ?_
            exact R_vret rfl rfl ⟨_, _, rfl, rfl, h⟩
        · replace h := h.2 hc
          exact R_vret rfl rfl ⟨_, _, rfl, rfl, h⟩
/-! 21 X4_takeAll -/
theorem S21 {e : En} {I : HI} {D : HD} {Q : HI → HD → Prop} {A : Nat} (he : HS e) (hA : isA A)
    (h : RV 21 7 [vR (some (A + 146)), vR (some A), vI 1] [] e (uI I (A + 146) 1 0) D Q) :
    CV 21 [vR (some (A + 146)), vR (some A)] e I D Q := by
  refine Call_run (ls := [vR (some (A + 146)), vR (some A), vJ]) rfl rfl ?_
  refine R_aload_n (pc' := 1) rfl rfl rfl ?_
  refine R_iconst (pc' := 2) rfl rfl ?_
  refine K_putI (pc' := 5) rfl rfl (by decide) (fun h => absurd h (by decide)) (kA hA 146 5 ⟨rfl, rfl⟩) ?_
  refine R_iconst (pc' := 6) rfl rfl ?_
  refine R_istore_n (ls' := [vR (some (A + 146)), vR (some A), vI 1]) (pc' := 7) rfl rfl rfl ?_
  exact h
theorem S21_7 {e : En} {I : HI} {D : HD} {Q : HI → HD → Prop} {A : Nat} {x2 : Int} (he : HS e) (hA : isA A)
    (h : (((60 : Int) < x2 → Q I D) ∧ (¬ ((60 : Int) < x2) → CI 36 [vR (some A), vI x2] e I D (fun z1 I2 D3 => ((¬ z1 = 3 → RV 21 27 [vR (some (A + 146)), vR (some A), vI x2] [] e I2 D3 Q) ∧ (¬ (¬ z1 = 3) → CV 22 [vR (some (A + 146)), vI x2] e I2 D3 (fun I5 D6 => RV 21 27 [vR (some (A + 146)), vR (some A), vI x2] [] e I5 D6 Q))))))) :
    RV 21 7 [vR (some (A + 146)), vR (some A), vI x2] [] e I D Q := by
  show Run 21 7 [vR (some (A + 146)), vR (some A), vI x2] [] (mk e I D) (pV e Q)
  refine R_iload_n (pc' := 8) rfl rfl rfl ?_
  refine R_bipush (pc' := 10) rfl rfl ?_
  refine R_icgt (pc' := 13) rfl rfl (fun hc => ?_) (fun hc => ?_)
  · replace h := h.1 hc
    exact R_vret rfl rfl ⟨_, _, rfl, rfl, h⟩
  · replace h := h.2 hc
    refine R_aload_n (pc' := 14) rfl rfl rfl ?_
    refine R_iload_n (pc' := 15) rfl rfl rfl ?_
    refine KI_iv (as := [vI x2]) (rest := []) (pc' := 18) rfl rfl rfl (kA hA 0 6 ⟨rfl, rfl⟩) rfl (Nat.le_of_ble_eq_true rfl) rfl (CI_mono h ?_)
    intro z1 I2 D3 h
    refine R_iconst (pc' := 19) rfl rfl ?_
    refine R_icne (pc' := 22) rfl rfl (fun hc => ?_) (fun hc => ?_)
    · replace h := h.1 hc
      exact h
    · replace h := h.2 hc
      refine R_aload_n (pc' := 23) rfl rfl rfl ?_
      refine R_iload_n (pc' := 24) rfl rfl rfl ?_
      refine KV_iv (as := [vI x2]) (rest := []) (pc' := 27) rfl rfl rfl (kA hA 146 5 ⟨rfl, rfl⟩) rfl (Nat.le_of_ble_eq_true rfl) rfl (CV_mono h ?_)
      intro I5 D6 h
      exact h
theorem S21_27 {e : En} {I : HI} {D : HD} {Q : HI → HD → Prop} {A : Nat} {x2 : Int} (he : HS e) (hA : isA A)
    (h : (-2147483648 ≤ (x2 + 1) ∧ (x2 + 1) < 2147483648) ∧ RV 21 7 [vR (some (A + 146)), vR (some A), vI (x2 + 1)] [] e I D Q) :
    RV 21 27 [vR (some (A + 146)), vR (some A), vI x2] [] e I D Q := by
  show Run 21 27 [vR (some (A + 146)), vR (some A), vI x2] [] (mk e I D) (pV e Q)
  have g1 := h.1
  replace h := h.2
  refine R_iinc (ls' := [vR (some (A + 146)), vR (some A), vI (x2 + 1)]) (pc' := 30) rfl rfl rfl g1 rfl ?_
  refine R_goto rfl ?_
  exact h
/-! 22 X4_append -/
theorem S22 {e : En} {I : HI} {D : HD} {Q : HI → HD → Prop} {A : Nat} {x1 : Int} (he : HS e) (hA : isA A)
    (h : (((I (A + 146) 1) < 0 → Q I D) ∧ (¬ ((I (A + 146) 1) < 0) → (((61 : Int) ≤ (I (A + 146) 1) → Q I D) ∧ (¬ ((61 : Int) ≤ (I (A + 146) 1)) → (0 ≤ (I (A + 146) 1) ∧ (I (A + 146) 1) < 61) ∧ (-2147483648 ≤ (((uI I (A + 147) (((I (A + 146) 1) : Int).toNat) x1) (A + 146) 1) + 1) ∧ (((uI I (A + 147) (((I (A + 146) 1) : Int).toNat) x1) (A + 146) 1) + 1) < 2147483648) ∧ Q (uI (uI I (A + 147) (((I (A + 146) 1) : Int).toNat) x1) (A + 146) 1 (((uI I (A + 147) (((I (A + 146) 1) : Int).toNat) x1) (A + 146) 1) + 1)) D))))) :
    CV 22 [vR (some (A + 146)), vI x1] e I D Q := by
  refine Call_run (ls := [vR (some (A + 146)), vI x1]) rfl rfl ?_
  refine R_aload_n (pc' := 1) rfl rfl rfl ?_
  refine K_getI (pc' := 4) rfl rfl (by decide) (kA hA 146 5 ⟨rfl, rfl⟩) rfl ?_
  refine R_iflt (pc' := 7) rfl rfl (fun hc => ?_) (fun hc => ?_)
  · replace h := h.1 hc
    exact R_vret rfl rfl ⟨_, _, rfl, rfl, h⟩
  · replace h := h.2 hc
    refine R_aload_n (pc' := 8) rfl rfl rfl ?_
    refine K_getI (pc' := 11) rfl rfl (by decide) (kA hA 146 5 ⟨rfl, rfl⟩) rfl ?_
    refine R_aload_n (pc' := 12) rfl rfl rfl ?_
    refine K_getR (pc' := 15) rfl rfl rfl (kA hA 146 5 ⟨rfl, rfl⟩) (gA he hA 146 0 147 ⟨⟨rfl, rfl⟩, rfl, rfl⟩) ?_
    refine K_alen (pc' := 16) rfl rfl 0 (kA hA 147 21 ⟨rfl, rfl⟩) (by decide) (lA hA 147 61 ⟨rfl, rfl⟩) ?_
    refine R_icge (pc' := 19) rfl rfl (fun hc => ?_) (fun hc => ?_)
    · replace h := h.1 hc
      exact R_vret rfl rfl ⟨_, _, rfl, rfl, h⟩
    · replace h := h.2 hc
      refine R_aload_n (pc' := 20) rfl rfl rfl ?_
      refine K_getR (pc' := 23) rfl rfl rfl (kA hA 146 5 ⟨rfl, rfl⟩) (gA he hA 146 0 147 ⟨⟨rfl, rfl⟩, rfl, rfl⟩) ?_
      refine R_aload_n (pc' := 24) rfl rfl rfl ?_
      refine K_getI (pc' := 27) rfl rfl (by decide) (kA hA 146 5 ⟨rfl, rfl⟩) rfl ?_
      refine R_iload_n (pc' := 28) rfl rfl rfl ?_
      have g1 := h.1
      replace h := h.2
      refine K_iast (pc' := 29) rfl rfl (kA hA 147 21 ⟨rfl, rfl⟩) g1.1 (by rw [(lA hA 147 61 ⟨rfl, rfl⟩)]; exact g1.2) ?_
      refine R_aload_n (pc' := 30) rfl rfl rfl ?_
      refine R_dup (pc' := 31) rfl rfl rfl ?_
      refine K_getI (pc' := 34) rfl rfl (by decide) (kA hA 146 5 ⟨rfl, rfl⟩) rfl ?_
      refine R_iconst (pc' := 35) rfl rfl ?_
      have g2 := h.1
      replace h := h.2
      refine R_iadd (pc' := 36) rfl rfl g2 ?_
      refine K_putI (pc' := 39) rfl rfl (by decide) (fun h => absurd h (by decide)) (kA hA 146 5 ⟨rfl, rfl⟩) ?_
      exact R_vret rfl rfl ⟨_, _, rfl, rfl, h⟩
/-! 24 X5_run -/
theorem S24 {e : En} {I : HI} {D : HD} {Q : HI → HD → Prop} {A : Nat} {q1 : Nat} {x2 : Int} (he : HS e) (hA : isA A) (hq1 : K0 q1 = 22)
    (h : CV 25 [vR (some A), vR (some q1), vI x2] e I D (fun I2 D3 => CI 51 [vR (some 1), vI 0] e I2 D3 (fun z4 I5 D6 => RV 24 18 [vR (some A), vJ, vJ, vI z4, vI 0, vJ] [] e I5 D6 Q))) :
    CV 24 [vR (some A), vR (some q1), vI x2] e I D Q := by
  refine Call_run (ls := [vR (some A), vR (some q1), vI x2, vJ, vJ, vJ]) rfl rfl ?_
  refine R_aload_n (pc' := 1) rfl rfl rfl ?_
  refine R_aload_n (pc' := 2) rfl rfl rfl ?_
  refine R_iload_n (pc' := 3) rfl rfl rfl ?_
  refine KV_iv (as := [vR (some q1), vI x2]) (rest := []) (pc' := 6) rfl rfl rfl (kA hA 0 6 ⟨rfl, rfl⟩) rfl (Nat.le_of_ble_eq_true rfl) rfl (CV_mono h ?_)
  intro I2 D3 h
  refine R_aload_n (pc' := 7) rfl rfl rfl ?_
  refine K_getR (pc' := 10) rfl rfl rfl (kA hA 0 6 ⟨rfl, rfl⟩) (gA1 he hA 0 ⟨⟨rfl, rfl⟩, rfl, rfl⟩) ?_
  refine R_iconst (pc' := 11) rfl rfl ?_
  refine KI_iv (as := [vI 0]) (rest := []) (pc' := 14) rfl rfl rfl rfl rfl (Nat.le_of_ble_eq_true rfl) rfl (CI_mono h ?_)
  intro z4 I5 D6 h
  refine R_istore_n (ls' := [vR (some A), vR (some q1), vI x2, vI z4, vJ, vJ]) (pc' := 15) rfl rfl rfl ?_
  refine R_iconst (pc' := 16) rfl rfl ?_
  refine R_istore (ls' := [vR (some A), vR (some q1), vI x2, vI z4, vI 0, vJ]) (pc' := 18) rfl rfl rfl ?_
  exact R_forget (ls' := [vR (some A), vJ, vJ, vI z4, vI 0, vJ]) ⟨Or.inl rfl, Or.inr rfl, Or.inr rfl, Or.inl rfl, Or.inl rfl, Or.inl rfl, trivial⟩ h
theorem S24_18 {e : En} {I : HI} {D : HD} {Q : HI → HD → Prop} {A : Nat} {x3 : Int} {x4 : Int} (he : HS e) (hA : isA A)
    (h : (((3000 : Int) < x4 → RV 24 89 [vR (some A), vJ, vJ, vJ, vJ, vJ] [] e I D Q) ∧ (¬ ((3000 : Int) < x4) → CI 53 [vR (some 1), vI x3] e I D (fun z1 I2 D3 => ((z1 = 0 → RV 24 89 [vR (some A), vJ, vJ, vJ, vJ, vJ] [] e I2 D3 Q) ∧ (¬ (z1 = 0) → CI 53 [vR (some 1), vI x3] e I2 D3 (fun z4 I5 D6 => ((¬ z4 = 5 → ((¬ z4 = 7 → RV 24 74 [vR (some A), vJ, vJ, vI x3, vI x4, vJ] [] e I5 D6 Q) ∧ (¬ (¬ z4 = 7) → CV 34 [vR (some A), vI x3] e I5 D6 (fun I8 D9 => RV 24 74 [vR (some A), vJ, vJ, vI x3, vI x4, vJ] [] e I8 D9 Q)))) ∧ (¬ (¬ z4 = 5) → CI 27 [vR (some A), vI x3] e I5 D6 (fun z10 I11 D12 => RV 24 83 [vR (some A), vJ, vJ, vI z10, vI x4, vJ] [] e I11 D12 Q)))))))))) :
    RV 24 18 [vR (some A), vJ, vJ, vI x3, vI x4, vJ] [] e I D Q := by
  show Run 24 18 [vR (some A), vJ, vJ, vI x3, vI x4, vJ] [] (mk e I D) (pV e Q)
  refine R_iload (pc' := 20) rfl rfl rfl ?_
  refine R_sipush (pc' := 23) rfl rfl ?_
  refine R_icgt (pc' := 26) rfl rfl (fun hc => ?_) (fun hc => ?_)
  · replace h := h.1 hc
    exact R_forget (ls' := [vR (some A), vJ, vJ, vJ, vJ, vJ]) ⟨Or.inl rfl, Or.inl rfl, Or.inl rfl, Or.inr rfl, Or.inr rfl, Or.inl rfl, trivial⟩ h
  · replace h := h.2 hc
    refine R_aload_n (pc' := 27) rfl rfl rfl ?_
    refine K_getR (pc' := 30) rfl rfl rfl (kA hA 0 6 ⟨rfl, rfl⟩) (gA1 he hA 0 ⟨⟨rfl, rfl⟩, rfl, rfl⟩) ?_
    refine R_iload_n (pc' := 31) rfl rfl rfl ?_
    refine KI_iv (as := [vI x3]) (rest := []) (pc' := 34) rfl rfl rfl rfl rfl (Nat.le_of_ble_eq_true rfl) rfl (CI_mono h ?_)
    intro z1 I2 D3 h
    refine R_ifeq (pc' := 37) rfl rfl (fun hc => ?_) (fun hc => ?_)
    · replace h := h.1 hc
      exact R_forget (ls' := [vR (some A), vJ, vJ, vJ, vJ, vJ]) ⟨Or.inl rfl, Or.inl rfl, Or.inl rfl, Or.inr rfl, Or.inr rfl, Or.inl rfl, trivial⟩ h
    · replace h := h.2 hc
      refine R_aload_n (pc' := 38) rfl rfl rfl ?_
      refine K_getR (pc' := 41) rfl rfl rfl (kA hA 0 6 ⟨rfl, rfl⟩) (gA1 he hA 0 ⟨⟨rfl, rfl⟩, rfl, rfl⟩) ?_
      refine R_iload_n (pc' := 42) rfl rfl rfl ?_
      refine KI_iv (as := [vI x3]) (rest := []) (pc' := 45) rfl rfl rfl rfl rfl (Nat.le_of_ble_eq_true rfl) rfl (CI_mono h ?_)
      intro z4 I5 D6 h
      refine R_istore (ls' := [vR (some A), vJ, vJ, vI x3, vI x4, vI z4]) (pc' := 47) rfl rfl rfl ?_
      refine R_iload (pc' := 49) rfl rfl rfl ?_
      refine R_iconst (pc' := 50) rfl rfl ?_
      refine R_icne (pc' := 53) rfl rfl (fun hc => ?_) (fun hc => ?_)
      · replace h := h.1 hc
        refine R_iload (pc' := 64) rfl rfl rfl ?_
        refine R_bipush (pc' := 66) rfl rfl ?_
        refine R_icne (pc' := 69) rfl rfl (fun hc => ?_) (fun hc => ?_)
        · replace h := h.1 hc
          exact R_forget (ls' := [vR (some A), vJ, vJ, vI x3, vI x4, vJ]) ⟨Or.inl rfl, Or.inl rfl, Or.inl rfl, Or.inl rfl, Or.inl rfl, Or.inr rfl, trivial⟩ h
        · replace h := h.2 hc
          refine R_aload_n (pc' := 70) rfl rfl rfl ?_
          refine R_iload_n (pc' := 71) rfl rfl rfl ?_
          refine KV_iv (as := [vI x3]) (rest := []) (pc' := 74) rfl rfl rfl (kA hA 0 6 ⟨rfl, rfl⟩) rfl (Nat.le_of_ble_eq_true rfl) rfl (CV_mono h ?_)
          intro I8 D9 h
          exact R_forget (ls' := [vR (some A), vJ, vJ, vI x3, vI x4, vJ]) ⟨Or.inl rfl, Or.inl rfl, Or.inl rfl, Or.inl rfl, Or.inl rfl, Or.inr rfl, trivial⟩ h
      · replace h := h.2 hc
        refine R_aload_n (pc' := 54) rfl rfl rfl ?_
        refine R_iload_n (pc' := 55) rfl rfl rfl ?_
        refine KI_iv (as := [vI x3]) (rest := []) (pc' := 58) rfl rfl rfl (kA hA 0 6 ⟨rfl, rfl⟩) rfl (Nat.le_of_ble_eq_true rfl) rfl (CI_mono h ?_)
        intro z10 I11 D12 h
        refine R_istore_n (ls' := [vR (some A), vJ, vJ, vI z10, vI x4, vI z4]) (pc' := 59) rfl rfl rfl ?_
        refine R_goto rfl ?_
        exact R_forget (ls' := [vR (some A), vJ, vJ, vI z10, vI x4, vJ]) ⟨Or.inl rfl, Or.inl rfl, Or.inl rfl, Or.inl rfl, Or.inl rfl, Or.inr rfl, trivial⟩ h
theorem S24_74 {e : En} {I : HI} {D : HD} {Q : HI → HD → Prop} {A : Nat} {x3 : Int} {x4 : Int} (he : HS e) (hA : isA A)
    (h : CI 55 [vR (some 1), vI x3] e I D (fun z1 I2 D3 => RV 24 83 [vR (some A), vJ, vJ, vI z1, vI x4, vJ] [] e I2 D3 Q)) :
    RV 24 74 [vR (some A), vJ, vJ, vI x3, vI x4, vJ] [] e I D Q := by
  show Run 24 74 [vR (some A), vJ, vJ, vI x3, vI x4, vJ] [] (mk e I D) (pV e Q)
  refine R_aload_n (pc' := 75) rfl rfl rfl ?_
  refine K_getR (pc' := 78) rfl rfl rfl (kA hA 0 6 ⟨rfl, rfl⟩) (gA1 he hA 0 ⟨⟨rfl, rfl⟩, rfl, rfl⟩) ?_
  refine R_iload_n (pc' := 79) rfl rfl rfl ?_
  refine KI_iv (as := [vI x3]) (rest := []) (pc' := 82) rfl rfl rfl rfl rfl (Nat.le_of_ble_eq_true rfl) rfl (CI_mono h ?_)
  intro z1 I2 D3 h
  refine R_istore_n (ls' := [vR (some A), vJ, vJ, vI z1, vI x4, vJ]) (pc' := 83) rfl rfl rfl ?_
  exact h
theorem S24_83 {e : En} {I : HI} {D : HD} {Q : HI → HD → Prop} {A : Nat} {x3 : Int} {x4 : Int} (he : HS e) (hA : isA A)
    (h : (-2147483648 ≤ (x4 + 1) ∧ (x4 + 1) < 2147483648) ∧ RV 24 18 [vR (some A), vJ, vJ, vI x3, vI (x4 + 1), vJ] [] e I D Q) :
    RV 24 83 [vR (some A), vJ, vJ, vI x3, vI x4, vJ] [] e I D Q := by
  show Run 24 83 [vR (some A), vJ, vJ, vI x3, vI x4, vJ] [] (mk e I D) (pV e Q)
  have g1 := h.1
  replace h := h.2
  refine R_iinc (ls' := [vR (some A), vJ, vJ, vI x3, vI (x4 + 1), vJ]) (pc' := 86) rfl rfl rfl g1 rfl ?_
  refine R_goto rfl ?_
  exact h
theorem S24_89 {e : En} {I : HI} {D : HD} {Q : HI → HD → Prop} {A : Nat} (he : HS e) (hA : isA A)
    (h : CV 38 [vR (some A)] e I D (fun I2 D3 => CV 39 [vR (some A)] e I2 D3 (fun I5 D6 => CV 41 [vR (some A)] e I5 D6 (fun I8 D9 => Q I8 D9)))) :
    RV 24 89 [vR (some A), vJ, vJ, vJ, vJ, vJ] [] e I D Q := by
  show Run 24 89 [vR (some A), vJ, vJ, vJ, vJ, vJ] [] (mk e I D) (pV e Q)
  refine R_aload_n (pc' := 90) rfl rfl rfl ?_
  refine KV_iv (as := []) (rest := []) (pc' := 93) rfl rfl rfl (kA hA 0 6 ⟨rfl, rfl⟩) rfl (Nat.le_of_ble_eq_true rfl) rfl (CV_mono h ?_)
  intro I2 D3 h
  refine R_aload_n (pc' := 94) rfl rfl rfl ?_
  refine KV_iv (as := []) (rest := []) (pc' := 97) rfl rfl rfl (kA hA 0 6 ⟨rfl, rfl⟩) rfl (Nat.le_of_ble_eq_true rfl) rfl (CV_mono h ?_)
  intro I5 D6 h
  refine R_aload_n (pc' := 98) rfl rfl rfl ?_
  refine KV_iv (as := []) (rest := []) (pc' := 101) rfl rfl rfl (kA hA 0 6 ⟨rfl, rfl⟩) rfl (Nat.le_of_ble_eq_true rfl) rfl (CV_mono h ?_)
  intro I8 D9 h
  exact R_vret rfl rfl ⟨_, _, rfl, rfl, h⟩
/-! 25 X5_takeBytes -/
theorem S25 {e : En} {I : HI} {D : HD} {Q : HI → HD → Prop} {A : Nat} {q1 : Nat} {x2 : Int} (he : HS e) (hA : isA A) (hq1 : K0 q1 = 22)
    (h : (0 ≤ ((uI I A 2 (max 0 (min x2 (min ((L0 q1) : Int) ((L0 (A + 1)) : Int))))) A 2) ∧ ((uI I A 2 (max 0 (min x2 (min ((L0 q1) : Int) ((L0 (A + 1)) : Int))))) A 2) ≤ (L0 q1 : Int) ∧ ((uI I A 2 (max 0 (min x2 (min ((L0 q1) : Int) ((L0 (A + 1)) : Int))))) A 2) ≤ (L0 (A + 1) : Int)) ∧ CV 43 [vR (some 1), vR (some (A + 1)), vI ((cI (uI I A 2 (max 0 (min x2 (min ((L0 q1) : Int) ((L0 (A + 1)) : Int))))) q1 0 (A + 1) 0 (((uI I A 2 (max 0 (min x2 (min ((L0 q1) : Int) ((L0 (A + 1)) : Int))))) A 2) : Int).toNat) A 2)] e (cI (uI I A 2 (max 0 (min x2 (min ((L0 q1) : Int) ((L0 (A + 1)) : Int))))) q1 0 (A + 1) 0 (((uI I A 2 (max 0 (min x2 (min ((L0 q1) : Int) ((L0 (A + 1)) : Int))))) A 2) : Int).toNat) D (fun I3 D4 => CV 12 [vR (some (A + 2)), vI 0] e I3 D4 (fun I6 D7 => CV 12 [vR (some (A + 6)), vI 0] e I6 D7 (fun I9 D10 => CV 12 [vR (some (A + 10)), vI 0] e I9 D10 (fun I12 D13 => CV 12 [vR (some (A + 14)), vI 0] e I12 D13 (fun I15 D16 => RV 25 85 [vR (some A), vJ, vJ, vI 0] [] e I15 D16 Q)))))) :
    CV 25 [vR (some A), vR (some q1), vI x2] e I D Q := by
  refine Call_run (ls := [vR (some A), vR (some q1), vI x2, vJ]) rfl rfl ?_
  refine R_aload_n (pc' := 1) rfl rfl rfl ?_
  refine R_iconst (pc' := 2) rfl rfl ?_
  refine R_iload_n (pc' := 3) rfl rfl rfl ?_
  refine R_aload_n (pc' := 4) rfl rfl rfl ?_
  refine K_alen (pc' := 5) rfl rfl 1 hq1 (by decide) rfl ?_
  refine R_aload_n (pc' := 6) rfl rfl rfl ?_
  refine K_getR (pc' := 9) rfl rfl rfl (kA hA 0 6 ⟨rfl, rfl⟩) (gA he hA 0 1 1 ⟨⟨rfl, rfl⟩, rfl, rfl⟩) ?_
  refine K_alen (pc' := 10) rfl rfl 1 (kA hA 1 22 ⟨rfl, rfl⟩) (by decide) rfl ?_
  refine R_min (pc' := 13) rfl rfl (Nat.le_of_ble_eq_true rfl) ?_
  refine R_min (pc' := 16) rfl rfl (Nat.le_of_ble_eq_true rfl) ?_
  refine R_max (pc' := 19) rfl rfl (Nat.le_of_ble_eq_true rfl) ?_
  refine K_putI (pc' := 22) rfl rfl (by decide) (fun h => absurd h (by decide)) (kA hA 0 6 ⟨rfl, rfl⟩) ?_
  refine R_aload_n (pc' := 23) rfl rfl rfl ?_
  refine R_iconst (pc' := 24) rfl rfl ?_
  refine R_aload_n (pc' := 25) rfl rfl rfl ?_
  refine K_getR (pc' := 28) rfl rfl rfl (kA hA 0 6 ⟨rfl, rfl⟩) (gA he hA 0 1 1 ⟨⟨rfl, rfl⟩, rfl, rfl⟩) ?_
  refine R_iconst (pc' := 29) rfl rfl ?_
  refine R_aload_n (pc' := 30) rfl rfl rfl ?_
  refine K_getI (pc' := 33) rfl rfl (by decide) (kA hA 0 6 ⟨rfl, rfl⟩) rfl ?_
  have g1 := h.1
  replace h := h.2
  refine K_copy (pc' := 36) rfl rfl hq1 (kA hA 1 22 ⟨rfl, rfl⟩) (by decide) (by decide) g1.1 (by have := g1.2.1; omega) (by have := g1.2.2; omega) (by decide) (Nat.le_of_ble_eq_true rfl) ?_
  refine R_aload_n (pc' := 37) rfl rfl rfl ?_
  refine K_getR (pc' := 40) rfl rfl rfl (kA hA 0 6 ⟨rfl, rfl⟩) (gA1 he hA 0 ⟨⟨rfl, rfl⟩, rfl, rfl⟩) ?_
  refine R_aload_n (pc' := 41) rfl rfl rfl ?_
  refine K_getR (pc' := 44) rfl rfl rfl (kA hA 0 6 ⟨rfl, rfl⟩) (gA he hA 0 1 1 ⟨⟨rfl, rfl⟩, rfl, rfl⟩) ?_
  refine R_aload_n (pc' := 45) rfl rfl rfl ?_
  refine K_getI (pc' := 48) rfl rfl (by decide) (kA hA 0 6 ⟨rfl, rfl⟩) rfl ?_
  refine KV_iv (as := [vR (some (A + 1)), vI ((cI (uI I A 2 (max 0 (min x2 (min ((L0 q1) : Int) ((L0 (A + 1)) : Int))))) q1 0 (A + 1) 0 (((uI I A 2 (max 0 (min x2 (min ((L0 q1) : Int) ((L0 (A + 1)) : Int))))) A 2) : Int).toNat) A 2)]) (rest := []) (pc' := 51) rfl rfl rfl rfl rfl (Nat.le_of_ble_eq_true rfl) rfl (CV_mono h ?_)
  intro I3 D4 h
  refine R_aload_n (pc' := 52) rfl rfl rfl ?_
  refine K_getR (pc' := 55) rfl rfl rfl (kA hA 0 6 ⟨rfl, rfl⟩) (gA he hA 0 3 2 ⟨⟨rfl, rfl⟩, rfl, rfl⟩) ?_
  refine R_iconst (pc' := 56) rfl rfl ?_
  refine KV_iv (as := [vI 0]) (rest := []) (pc' := 59) rfl rfl rfl (kA hA 2 4 ⟨rfl, rfl⟩) rfl (Nat.le_of_ble_eq_true rfl) rfl (CV_mono h ?_)
  intro I6 D7 h
  refine R_aload_n (pc' := 60) rfl rfl rfl ?_
  refine K_getR (pc' := 63) rfl rfl rfl (kA hA 0 6 ⟨rfl, rfl⟩) (gA he hA 0 4 6 ⟨⟨rfl, rfl⟩, rfl, rfl⟩) ?_
  refine R_iconst (pc' := 64) rfl rfl ?_
  refine KV_iv (as := [vI 0]) (rest := []) (pc' := 67) rfl rfl rfl (kA hA 6 4 ⟨rfl, rfl⟩) rfl (Nat.le_of_ble_eq_true rfl) rfl (CV_mono h ?_)
  intro I9 D10 h
  refine R_aload_n (pc' := 68) rfl rfl rfl ?_
  refine K_getR (pc' := 71) rfl rfl rfl (kA hA 0 6 ⟨rfl, rfl⟩) (gA he hA 0 5 10 ⟨⟨rfl, rfl⟩, rfl, rfl⟩) ?_
  refine R_iconst (pc' := 72) rfl rfl ?_
  refine KV_iv (as := [vI 0]) (rest := []) (pc' := 75) rfl rfl rfl (kA hA 10 4 ⟨rfl, rfl⟩) rfl (Nat.le_of_ble_eq_true rfl) rfl (CV_mono h ?_)
  intro I12 D13 h
  refine R_aload_n (pc' := 76) rfl rfl rfl ?_
  refine K_getR (pc' := 79) rfl rfl rfl (kA hA 0 6 ⟨rfl, rfl⟩) (gA he hA 0 6 14 ⟨⟨rfl, rfl⟩, rfl, rfl⟩) ?_
  refine R_iconst (pc' := 80) rfl rfl ?_
  refine KV_iv (as := [vI 0]) (rest := []) (pc' := 83) rfl rfl rfl (kA hA 14 4 ⟨rfl, rfl⟩) rfl (Nat.le_of_ble_eq_true rfl) rfl (CV_mono h ?_)
  intro I15 D16 h
  refine R_iconst (pc' := 84) rfl rfl ?_
  refine R_istore_n (ls' := [vR (some A), vR (some q1), vI x2, vI 0]) (pc' := 85) rfl rfl rfl ?_
  exact R_forget (ls' := [vR (some A), vJ, vJ, vI 0]) ⟨Or.inl rfl, Or.inr rfl, Or.inr rfl, Or.inl rfl, trivial⟩ h
theorem S25_85 {e : En} {I : HI} {D : HD} {Q : HI → HD → Prop} {A : Nat} {x3 : Int} (he : HS e) (hA : isA A)
    (h : (((61 : Int) ≤ x3 → CI 58 [vR (some 1), vI 0, vS 14] e (uI (uI (uI (uI (uI I A 11 0) A 12 0) A 13 0) A 14 0) A 15 0) D (fun z1 I2 D3 => ((¬ z1 = 0 → Q I2 D3) ∧ (¬ (¬ z1 = 0) → CV 26 [vR (some A), vI 9, vI 0] e I2 D3 (fun I5 D6 => Q I5 D6))))) ∧ (¬ ((61 : Int) ≤ x3) → (0 ≤ x3 ∧ x3 < 61) ∧ (K0 (D (A + 21) (x3.toNat)) = 3) ∧ (-2147483648 ≤ (x3 + 1) ∧ (x3 + 1) < 2147483648) ∧ RV 25 85 [vR (some A), vJ, vJ, vI (x3 + 1)] [] e (uI I (D (A + 21) (x3.toNat)) 1 0) D Q))) :
    RV 25 85 [vR (some A), vJ, vJ, vI x3] [] e I D Q := by
  show Run 25 85 [vR (some A), vJ, vJ, vI x3] [] (mk e I D) (pV e Q)
  refine R_iload_n (pc' := 86) rfl rfl rfl ?_
  refine R_aload_n (pc' := 87) rfl rfl rfl ?_
  refine K_getR (pc' := 90) rfl rfl rfl (kA hA 0 6 ⟨rfl, rfl⟩) (gA he hA 0 9 21 ⟨⟨rfl, rfl⟩, rfl, rfl⟩) ?_
  refine K_alen (pc' := 91) rfl rfl 4 (kA hA 21 25 ⟨rfl, rfl⟩) (by decide) (lA hA 21 61 ⟨rfl, rfl⟩) ?_
  refine R_icge (pc' := 94) rfl rfl (fun hc => ?_) (fun hc => ?_)
  · replace h := h.1 hc
    refine R_aload_n (pc' := 111) rfl rfl rfl ?_
    refine R_iconst (pc' := 112) rfl rfl ?_
    refine K_putI (pc' := 115) rfl rfl (by decide) (fun h => absurd h (by decide)) (kA hA 0 6 ⟨rfl, rfl⟩) ?_
    refine R_aload_n (pc' := 116) rfl rfl rfl ?_
    refine R_iconst (pc' := 117) rfl rfl ?_
    refine K_putI (pc' := 120) rfl rfl (by decide) (fun h => absurd h (by decide)) (kA hA 0 6 ⟨rfl, rfl⟩) ?_
    refine R_aload_n (pc' := 121) rfl rfl rfl ?_
    refine R_iconst (pc' := 122) rfl rfl ?_
    refine K_putI (pc' := 125) rfl rfl (by decide) (fun h => absurd h (by decide)) (kA hA 0 6 ⟨rfl, rfl⟩) ?_
    refine R_aload_n (pc' := 126) rfl rfl rfl ?_
    refine R_iconst (pc' := 127) rfl rfl ?_
    refine K_putI (pc' := 130) rfl rfl (by decide) (fun h => absurd h (by decide)) (kA hA 0 6 ⟨rfl, rfl⟩) ?_
    refine R_aload_n (pc' := 131) rfl rfl rfl ?_
    refine R_iconst (pc' := 132) rfl rfl ?_
    refine K_putI (pc' := 135) rfl rfl (by decide) (fun h => absurd h (by decide)) (kA hA 0 6 ⟨rfl, rfl⟩) ?_
    refine R_aload_n (pc' := 136) rfl rfl rfl ?_
    refine K_getR (pc' := 139) rfl rfl rfl (kA hA 0 6 ⟨rfl, rfl⟩) (gA1 he hA 0 ⟨⟨rfl, rfl⟩, rfl, rfl⟩) ?_
    refine R_iconst (pc' := 140) rfl rfl ?_
    refine R_ldcS (pc' := 142) rfl rfl ?_
    refine KI_iv (as := [vI 0, vS 14]) (rest := []) (pc' := 145) rfl rfl rfl rfl rfl (Nat.le_of_ble_eq_true rfl) rfl (CI_mono h ?_)
    intro z1 I2 D3 h
    refine R_ifne (pc' := 148) rfl rfl (fun hc => ?_) (fun hc => ?_)
    · replace h := h.1 hc
      exact R_vret rfl rfl ⟨_, _, rfl, rfl, h⟩
    · replace h := h.2 hc
      refine R_aload_n (pc' := 149) rfl rfl rfl ?_
      refine R_bipush (pc' := 151) rfl rfl ?_
      refine R_iconst (pc' := 152) rfl rfl ?_
      refine KV_iv (as := [vI 9, vI 0]) (rest := []) (pc' := 155) rfl rfl rfl (kA hA 0 6 ⟨rfl, rfl⟩) rfl (Nat.le_of_ble_eq_true rfl) rfl (CV_mono h ?_)
      intro I5 D6 h
      exact R_vret rfl rfl ⟨_, _, rfl, rfl, h⟩
  · replace h := h.2 hc
    refine R_aload_n (pc' := 95) rfl rfl rfl ?_
    refine K_getR (pc' := 98) rfl rfl rfl (kA hA 0 6 ⟨rfl, rfl⟩) (gA he hA 0 9 21 ⟨⟨rfl, rfl⟩, rfl, rfl⟩) ?_
    refine R_iload_n (pc' := 99) rfl rfl rfl ?_
    have g7 := h.1
    replace h := h.2
    refine K_aald (pc' := 100) rfl rfl (kA hA 21 25 ⟨rfl, rfl⟩) g7.1 (by rw [(lA hA 21 61 ⟨rfl, rfl⟩)]; exact g7.2) (dO hA (by have := g7.1; have := g7.2; omega)) ?_
    refine R_iconst (pc' := 101) rfl rfl ?_
    have g8 := h.1
    replace h := h.2
    refine K_putIN (pc' := 104) rfl rfl (by decide) (fun _ => Or.inl rfl) g8 ?_
    have g9 := h.1
    replace h := h.2
    refine R_iinc (ls' := [vR (some A), vJ, vJ, vI (x3 + 1)]) (pc' := 107) rfl rfl rfl g9 rfl ?_
    refine R_goto rfl ?_
    exact h
/-! 26 X5_mend -/
theorem S26 {e : En} {I : HI} {D : HD} {Q : HI → HD → Prop} {A : Nat} {x1 : Int} {x2 : Int} (he : HS e) (hA : isA A)
    (h : CV 11 [vR (some (A + 10)), vI x1, vI x2, vI x2] e I D (fun I2 D3 => Q I2 D3)) :
    CV 26 [vR (some A), vI x1, vI x2] e I D Q := by
  refine Call_run (ls := [vR (some A), vI x1, vI x2]) rfl rfl ?_
  refine R_aload_n (pc' := 1) rfl rfl rfl ?_
  refine K_getR (pc' := 4) rfl rfl rfl (kA hA 0 6 ⟨rfl, rfl⟩) (gA he hA 0 5 10 ⟨⟨rfl, rfl⟩, rfl, rfl⟩) ?_
  refine R_iload_n (pc' := 5) rfl rfl rfl ?_
  refine R_iload_n (pc' := 6) rfl rfl rfl ?_
  refine R_iload_n (pc' := 7) rfl rfl rfl ?_
  refine KV_iv (as := [vI x1, vI x2, vI x2]) (rest := []) (pc' := 10) rfl rfl rfl (kA hA 10 4 ⟨rfl, rfl⟩) rfl (Nat.le_of_ble_eq_true rfl) rfl (CV_mono h ?_)
  intro I2 D3 h
  exact R_vret rfl rfl ⟨_, _, rfl, rfl, h⟩
/-! 27 X5_takeObject -/
theorem S27 {e : En} {I : HI} {D : HD} {Q : Int → HI → HD → Prop} {A : Nat} {x1 : Int} (he : HS e) (hA : isA A)
    (h : CI 56 [vR (some 1), vI x1] e I D (fun z1 I2 D3 => CI 51 [vR (some 1), vI z1] e I2 D3 (fun z4 I5 D6 => (K0 (D6 A 10) = 3) ∧ CV 9 [vR (some (D6 A 10)), vI x1, vI z1, vI (I5 (A + 2) 3), vI (I5 (A + 6) 3)] e I5 D6 (fun I9 D10 => CI 53 [vR (some 1), vI z4] e I9 D10 (fun z11 I12 D13 => ((¬ z11 = 9 → RI 27 158 [vR (some A), vI x1, vJ, vI z4, vJ] [] e I12 D13 Q) ∧ (¬ (¬ z11 = 9) → (K0 (D13 A 10) = 3) ∧ CI 4 [vR (some (A + 18)), vR (some ((D13 A 10) + 1)), vI z4, vI 1] e I12 D13 (fun z15 I16 D17 => CI 51 [vR (some 1), vI z15] e I16 D17 (fun z18 I19 D20 => (K0 (D20 A 10) = 3) ∧ (((I19 ((D20 A 10) + 1) 2) = 0 → RI 27 108 [vR (some A), vI x1, vJ, vI z18, vJ] [] e I19 D20 Q) ∧ (¬ ((I19 ((D20 A 10) + 1) 2) = 0) → CI 57 [vR (some 1), vI z18, vS 23] e I19 D20 (fun z22 I23 D24 => ((z22 = 0 → RI 27 108 [vR (some A), vI x1, vJ, vI z18, vJ] [] e I23 D24 Q) ∧ (¬ (z22 = 0) → RI 27 109 [vR (some A), vI x1, vJ, vI z18, vJ] [vI 1] e I23 D24 Q)))))))))))))) :
    CI 27 [vR (some A), vI x1] e I D Q := by
  refine Call_run (ls := [vR (some A), vI x1, vJ, vJ, vJ]) rfl rfl ?_
  refine R_aload_n (pc' := 1) rfl rfl rfl ?_
  refine K_getR (pc' := 4) rfl rfl rfl (kA hA 0 6 ⟨rfl, rfl⟩) (gA1 he hA 0 ⟨⟨rfl, rfl⟩, rfl, rfl⟩) ?_
  refine R_iload_n (pc' := 5) rfl rfl rfl ?_
  refine KI_iv (as := [vI x1]) (rest := []) (pc' := 8) rfl rfl rfl rfl rfl (Nat.le_of_ble_eq_true rfl) rfl (CI_mono h ?_)
  intro z1 I2 D3 h
  refine R_istore_n (ls' := [vR (some A), vI x1, vI z1, vJ, vJ]) (pc' := 9) rfl rfl rfl ?_
  refine R_aload_n (pc' := 10) rfl rfl rfl ?_
  refine K_getR (pc' := 13) rfl rfl rfl (kA hA 0 6 ⟨rfl, rfl⟩) (gA1 he hA 0 ⟨⟨rfl, rfl⟩, rfl, rfl⟩) ?_
  refine R_iload_n (pc' := 14) rfl rfl rfl ?_
  refine KI_iv (as := [vI z1]) (rest := []) (pc' := 17) rfl rfl rfl rfl rfl (Nat.le_of_ble_eq_true rfl) rfl (CI_mono h ?_)
  intro z4 I5 D6 h
  refine R_istore_n (ls' := [vR (some A), vI x1, vI z1, vI z4, vJ]) (pc' := 18) rfl rfl rfl ?_
  refine R_aload_n (pc' := 19) rfl rfl rfl ?_
  refine K_getR (pc' := 22) rfl rfl rfl (kA hA 0 6 ⟨rfl, rfl⟩) (dy_at (dA hA 0 10 ⟨rfl, rfl⟩)) ?_
  refine R_iload_n (pc' := 23) rfl rfl rfl ?_
  refine R_iload_n (pc' := 24) rfl rfl rfl ?_
  refine R_aload_n (pc' := 25) rfl rfl rfl ?_
  refine K_getR (pc' := 28) rfl rfl rfl (kA hA 0 6 ⟨rfl, rfl⟩) (gA he hA 0 3 2 ⟨⟨rfl, rfl⟩, rfl, rfl⟩) ?_
  refine K_getIN (pc' := 31) rfl rfl (by decide) (kA hA 2 4 ⟨rfl, rfl⟩) rfl ?_
  refine R_aload_n (pc' := 32) rfl rfl rfl ?_
  refine K_getR (pc' := 35) rfl rfl rfl (kA hA 0 6 ⟨rfl, rfl⟩) (gA he hA 0 4 6 ⟨⟨rfl, rfl⟩, rfl, rfl⟩) ?_
  refine K_getIN (pc' := 38) rfl rfl (by decide) (kA hA 6 4 ⟨rfl, rfl⟩) rfl ?_
  have g7 := h.1
  replace h := h.2
  refine KV_iv (as := [vI x1, vI z1, vI (I5 (A + 2) 3), vI (I5 (A + 6) 3)]) (rest := []) (pc' := 41) rfl rfl rfl g7 rfl (Nat.le_of_ble_eq_true rfl) rfl (CV_mono h ?_)
  intro I9 D10 h
  refine R_aload_n (pc' := 42) rfl rfl rfl ?_
  refine K_getR (pc' := 45) rfl rfl rfl (kA hA 0 6 ⟨rfl, rfl⟩) (gA1 he hA 0 ⟨⟨rfl, rfl⟩, rfl, rfl⟩) ?_
  refine R_iload_n (pc' := 46) rfl rfl rfl ?_
  refine KI_iv (as := [vI z4]) (rest := []) (pc' := 49) rfl rfl rfl rfl rfl (Nat.le_of_ble_eq_true rfl) rfl (CI_mono h ?_)
  intro z11 I12 D13 h
  refine R_bipush (pc' := 51) rfl rfl ?_
  refine R_icne (pc' := 54) rfl rfl (fun hc => ?_) (fun hc => ?_)
  · replace h := h.1 hc
    exact R_forget (ls' := [vR (some A), vI x1, vJ, vI z4, vJ]) ⟨Or.inl rfl, Or.inl rfl, Or.inr rfl, Or.inl rfl, Or.inl rfl, trivial⟩ h
  · replace h := h.2 hc
    refine R_aload_n (pc' := 55) rfl rfl rfl ?_
    refine K_getR (pc' := 58) rfl rfl rfl (kA hA 0 6 ⟨rfl, rfl⟩) (gA1 he hA 0 ⟨⟨rfl, rfl⟩, rfl, rfl⟩) ?_
    refine R_aload_n (pc' := 59) rfl rfl rfl ?_
    refine K_getR (pc' := 62) rfl rfl rfl (kA hA 0 6 ⟨rfl, rfl⟩) (gA he hA 0 7 18 ⟨⟨rfl, rfl⟩, rfl, rfl⟩) ?_
    refine R_aload_n (pc' := 63) rfl rfl rfl ?_
    refine K_getR (pc' := 66) rfl rfl rfl (kA hA 0 6 ⟨rfl, rfl⟩) (dy_at (dA hA 0 10 ⟨rfl, rfl⟩)) ?_
    have g14 := h.1
    replace h := h.2
    refine K_getRN (pc' := 69) rfl rfl rfl g14 (gF0 he g14) ?_
    refine R_iload_n (pc' := 70) rfl rfl rfl ?_
    refine R_iconst (pc' := 71) rfl rfl ?_
    refine KI_iv (as := [vR (some ((D13 A 10) + 1)), vI z4, vI 1]) (rest := [vR (some 1)]) (pc' := 74) rfl rfl rfl (kA hA 18 2 ⟨rfl, rfl⟩) rfl (Nat.le_of_ble_eq_true rfl) rfl (CI_mono h ?_)
    intro z15 I16 D17 h
    refine KI_iv (as := [vI z15]) (rest := []) (pc' := 77) rfl rfl rfl rfl rfl (Nat.le_of_ble_eq_true rfl) rfl (CI_mono h ?_)
    intro z18 I19 D20 h
    refine R_istore_n (ls' := [vR (some A), vI x1, vI z1, vI z18, vJ]) (pc' := 78) rfl rfl rfl ?_
    refine R_aload_n (pc' := 79) rfl rfl rfl ?_
    refine K_getR (pc' := 82) rfl rfl rfl (kA hA 0 6 ⟨rfl, rfl⟩) (dy_at (dA hA 0 10 ⟨rfl, rfl⟩)) ?_
    have g21 := h.1
    replace h := h.2
    refine K_getRN (pc' := 85) rfl rfl rfl g21 (gF0 he g21) ?_
    refine K_getIN (pc' := 88) rfl rfl (by decide) (kF g21).1 rfl ?_
    refine R_ifeq (pc' := 91) rfl rfl (fun hc => ?_) (fun hc => ?_)
    · replace h := h.1 hc
      exact R_forget (ls' := [vR (some A), vI x1, vJ, vI z18, vJ]) ⟨Or.inl rfl, Or.inl rfl, Or.inr rfl, Or.inl rfl, Or.inl rfl, trivial⟩ h
    · replace h := h.2 hc
      refine R_aload_n (pc' := 92) rfl rfl rfl ?_
      refine K_getR (pc' := 95) rfl rfl rfl (kA hA 0 6 ⟨rfl, rfl⟩) (gA1 he hA 0 ⟨⟨rfl, rfl⟩, rfl, rfl⟩) ?_
      refine R_iload_n (pc' := 96) rfl rfl rfl ?_
      refine R_ldcS (pc' := 98) rfl rfl ?_
      refine KI_iv (as := [vI z18, vS 23]) (rest := []) (pc' := 101) rfl rfl rfl rfl rfl (Nat.le_of_ble_eq_true rfl) rfl (CI_mono h ?_)
      intro z22 I23 D24 h
      refine R_ifeq (pc' := 104) rfl rfl (fun hc => ?_) (fun hc => ?_)
      · replace h := h.1 hc
        exact R_forget (ls' := [vR (some A), vI x1, vJ, vI z18, vJ]) ⟨Or.inl rfl, Or.inl rfl, Or.inr rfl, Or.inl rfl, Or.inl rfl, trivial⟩ h
      · replace h := h.2 hc
        refine R_iconst (pc' := 105) rfl rfl ?_
        refine R_goto rfl ?_
        exact R_forget (ls' := [vR (some A), vI x1, vJ, vI z18, vJ]) ⟨Or.inl rfl, Or.inl rfl, Or.inr rfl, Or.inl rfl, Or.inl rfl, trivial⟩ h
theorem S27_108 {e : En} {I : HI} {D : HD} {Q : Int → HI → HD → Prop} {A : Nat} {x1 : Int} {x3 : Int} (he : HS e) (hA : isA A)
    (h : RI 27 109 [vR (some A), vI x1, vJ, vI x3, vJ] [vI 0] e I D Q) :
    RI 27 108 [vR (some A), vI x1, vJ, vI x3, vJ] [] e I D Q := by
  show Run 27 108 [vR (some A), vI x1, vJ, vI x3, vJ] [] (mk e I D) (pI e Q)
  refine R_iconst (pc' := 109) rfl rfl ?_
  exact h
theorem S27_109 {e : En} {I : HI} {D : HD} {Q : Int → HI → HD → Prop} {A : Nat} {x1 : Int} {x3 : Int} {y0 : Int} (he : HS e) (hA : isA A)
    (h : ((y0 = 0 → RI 27 158 [vR (some A), vI x1, vJ, vI x3, vJ] [] e I D Q) ∧ (¬ (y0 = 0) → CI 52 [vR (some 1), vI x3] e I D (fun z1 I2 D3 => CI 50 [vR (some 1), vI z1] e I2 D3 (fun z4 I5 D6 => ((¬ z4 = 10 → RI 27 158 [vR (some A), vI x1, vJ, vI x3, vJ] [] e I5 D6 Q) ∧ (¬ (¬ z4 = 10) → CI 52 [vR (some 1), vI x3] e I5 D6 (fun z7 I8 D9 => (-2147483648 ≤ (z7 + 1) ∧ (z7 + 1) < 2147483648) ∧ CI 29 [vR (some A), vI (z7 + 1)] e I8 D9 (fun z11 I12 D13 => CI 51 [vR (some 1), vI z11] e I12 D13 (fun z14 I15 D16 => RI 27 158 [vR (some A), vI x1, vJ, vI z14, vJ] [] e I15 D16 Q)))))))))) :
    RI 27 109 [vR (some A), vI x1, vJ, vI x3, vJ] [vI y0] e I D Q := by
  show Run 27 109 [vR (some A), vI x1, vJ, vI x3, vJ] [vI y0] (mk e I D) (pI e Q)
  refine R_istore (ls' := [vR (some A), vI x1, vJ, vI x3, vI y0]) (pc' := 111) rfl rfl rfl ?_
  refine R_iload (pc' := 113) rfl rfl rfl ?_
  refine R_ifeq (pc' := 116) rfl rfl (fun hc => ?_) (fun hc => ?_)
  · replace h := h.1 hc
    exact R_forget (ls' := [vR (some A), vI x1, vJ, vI x3, vJ]) ⟨Or.inl rfl, Or.inl rfl, Or.inl rfl, Or.inl rfl, Or.inr rfl, trivial⟩ h
  · replace h := h.2 hc
    refine R_aload_n (pc' := 117) rfl rfl rfl ?_
    refine K_getR (pc' := 120) rfl rfl rfl (kA hA 0 6 ⟨rfl, rfl⟩) (gA1 he hA 0 ⟨⟨rfl, rfl⟩, rfl, rfl⟩) ?_
    refine R_aload_n (pc' := 121) rfl rfl rfl ?_
    refine K_getR (pc' := 124) rfl rfl rfl (kA hA 0 6 ⟨rfl, rfl⟩) (gA1 he hA 0 ⟨⟨rfl, rfl⟩, rfl, rfl⟩) ?_
    refine R_iload_n (pc' := 125) rfl rfl rfl ?_
    refine KI_iv (as := [vI x3]) (rest := [vR (some 1)]) (pc' := 128) rfl rfl rfl rfl rfl (Nat.le_of_ble_eq_true rfl) rfl (CI_mono h ?_)
    intro z1 I2 D3 h
    refine KI_iv (as := [vI z1]) (rest := []) (pc' := 131) rfl rfl rfl rfl rfl (Nat.le_of_ble_eq_true rfl) rfl (CI_mono h ?_)
    intro z4 I5 D6 h
    refine R_bipush (pc' := 133) rfl rfl ?_
    refine R_icne (pc' := 136) rfl rfl (fun hc => ?_) (fun hc => ?_)
    · replace h := h.1 hc
      exact R_forget (ls' := [vR (some A), vI x1, vJ, vI x3, vJ]) ⟨Or.inl rfl, Or.inl rfl, Or.inl rfl, Or.inl rfl, Or.inr rfl, trivial⟩ h
    · replace h := h.2 hc
      refine R_aload_n (pc' := 137) rfl rfl rfl ?_
      refine K_getR (pc' := 140) rfl rfl rfl (kA hA 0 6 ⟨rfl, rfl⟩) (gA1 he hA 0 ⟨⟨rfl, rfl⟩, rfl, rfl⟩) ?_
      refine R_aload_n (pc' := 141) rfl rfl rfl ?_
      refine R_aload_n (pc' := 142) rfl rfl rfl ?_
      refine K_getR (pc' := 145) rfl rfl rfl (kA hA 0 6 ⟨rfl, rfl⟩) (gA1 he hA 0 ⟨⟨rfl, rfl⟩, rfl, rfl⟩) ?_
      refine R_iload_n (pc' := 146) rfl rfl rfl ?_
      refine KI_iv (as := [vI x3]) (rest := [vR (some A), vR (some 1)]) (pc' := 149) rfl rfl rfl rfl rfl (Nat.le_of_ble_eq_true rfl) rfl (CI_mono h ?_)
      intro z7 I8 D9 h
      refine R_iconst (pc' := 150) rfl rfl ?_
      have g10 := h.1
      replace h := h.2
      refine R_iadd (pc' := 151) rfl rfl g10 ?_
      refine KI_iv (as := [vI (z7 + 1)]) (rest := [vR (some 1)]) (pc' := 154) rfl rfl rfl (kA hA 0 6 ⟨rfl, rfl⟩) rfl (Nat.le_of_ble_eq_true rfl) rfl (CI_mono h ?_)
      intro z11 I12 D13 h
      refine KI_iv (as := [vI z11]) (rest := []) (pc' := 157) rfl rfl rfl rfl rfl (Nat.le_of_ble_eq_true rfl) rfl (CI_mono h ?_)
      intro z14 I15 D16 h
      refine R_istore_n (ls' := [vR (some A), vI x1, vJ, vI z14, vI y0]) (pc' := 158) rfl rfl rfl ?_
      exact R_forget (ls' := [vR (some A), vI x1, vJ, vI z14, vJ]) ⟨Or.inl rfl, Or.inl rfl, Or.inl rfl, Or.inl rfl, Or.inr rfl, trivial⟩ h
theorem S27_158 {e : En} {I : HI} {D : HD} {Q : Int → HI → HD → Prop} {A : Nat} {x1 : Int} {x3 : Int} (he : HS e) (hA : isA A)
    (h : RI 27 161 [vR (some A), vI x1, vJ, vI x3, vI 0] [] e I D Q) :
    RI 27 158 [vR (some A), vI x1, vJ, vI x3, vJ] [] e I D Q := by
  show Run 27 158 [vR (some A), vI x1, vJ, vI x3, vJ] [] (mk e I D) (pI e Q)
  refine R_iconst (pc' := 159) rfl rfl ?_
  refine R_istore (ls' := [vR (some A), vI x1, vJ, vI x3, vI 0]) (pc' := 161) rfl rfl rfl ?_
  exact h
theorem S27_161 {e : En} {I : HI} {D : HD} {Q : Int → HI → HD → Prop} {A : Nat} {x1 : Int} {x3 : Int} {x4 : Int} (he : HS e) (hA : isA A)
    (h : (((3000 : Int) < x4 → RI 27 198 [vR (some A), vI x1, vJ, vI x3, vJ] [] e I D Q) ∧ (¬ ((3000 : Int) < x4) → CI 53 [vR (some 1), vI x3] e I D (fun z1 I2 D3 => CI 28 [vI z1] e I2 D3 (fun z4 I5 D6 => ((¬ z4 = 0 → RI 27 198 [vR (some A), vI x1, vJ, vI x3, vJ] [] e I5 D6 Q) ∧ (¬ (¬ z4 = 0) → CI 55 [vR (some 1), vI x3] e I5 D6 (fun z7 I8 D9 => (-2147483648 ≤ (x4 + 1) ∧ (x4 + 1) < 2147483648) ∧ RI 27 161 [vR (some A), vI x1, vJ, vI z7, vI (x4 + 1)] [] e I8 D9 Q)))))))) :
    RI 27 161 [vR (some A), vI x1, vJ, vI x3, vI x4] [] e I D Q := by
  show Run 27 161 [vR (some A), vI x1, vJ, vI x3, vI x4] [] (mk e I D) (pI e Q)
  refine R_iload (pc' := 163) rfl rfl rfl ?_
  refine R_sipush (pc' := 166) rfl rfl ?_
  refine R_icgt (pc' := 169) rfl rfl (fun hc => ?_) (fun hc => ?_)
  · replace h := h.1 hc
    exact R_forget (ls' := [vR (some A), vI x1, vJ, vI x3, vJ]) ⟨Or.inl rfl, Or.inl rfl, Or.inl rfl, Or.inl rfl, Or.inr rfl, trivial⟩ h
  · replace h := h.2 hc
    refine R_aload_n (pc' := 170) rfl rfl rfl ?_
    refine K_getR (pc' := 173) rfl rfl rfl (kA hA 0 6 ⟨rfl, rfl⟩) (gA1 he hA 0 ⟨⟨rfl, rfl⟩, rfl, rfl⟩) ?_
    refine R_iload_n (pc' := 174) rfl rfl rfl ?_
    refine KI_iv (as := [vI x3]) (rest := []) (pc' := 177) rfl rfl rfl rfl rfl (Nat.le_of_ble_eq_true rfl) rfl (CI_mono h ?_)
    intro z1 I2 D3 h
    refine KI_st (as := [vI z1]) (rest := []) (pc' := 180) rfl rfl rfl (Nat.le_of_ble_eq_true rfl) rfl (CI_mono h ?_)
    intro z4 I5 D6 h
    refine R_ifne (pc' := 183) rfl rfl (fun hc => ?_) (fun hc => ?_)
    · replace h := h.1 hc
      exact R_forget (ls' := [vR (some A), vI x1, vJ, vI x3, vJ]) ⟨Or.inl rfl, Or.inl rfl, Or.inl rfl, Or.inl rfl, Or.inr rfl, trivial⟩ h
    · replace h := h.2 hc
      refine R_aload_n (pc' := 184) rfl rfl rfl ?_
      refine K_getR (pc' := 187) rfl rfl rfl (kA hA 0 6 ⟨rfl, rfl⟩) (gA1 he hA 0 ⟨⟨rfl, rfl⟩, rfl, rfl⟩) ?_
      refine R_iload_n (pc' := 188) rfl rfl rfl ?_
      refine KI_iv (as := [vI x3]) (rest := []) (pc' := 191) rfl rfl rfl rfl rfl (Nat.le_of_ble_eq_true rfl) rfl (CI_mono h ?_)
      intro z7 I8 D9 h
      refine R_istore_n (ls' := [vR (some A), vI x1, vJ, vI z7, vI x4]) (pc' := 192) rfl rfl rfl ?_
      have g10 := h.1
      replace h := h.2
      refine R_iinc (ls' := [vR (some A), vI x1, vJ, vI z7, vI (x4 + 1)]) (pc' := 195) rfl rfl rfl g10 rfl ?_
      refine R_goto rfl ?_
      exact h
theorem S27_198 {e : En} {I : HI} {D : HD} {Q : Int → HI → HD → Prop} {A : Nat} {x1 : Int} {x3 : Int} (he : HS e) (hA : isA A)
    (h : CI 54 [vR (some 1), vI x1] e I D (fun z1 I2 D3 => CV 32 [vR (some A), vI z1, vI x3] e I2 D3 (fun I5 D6 => CI 53 [vR (some 1), vI x3] e I5 D6 (fun z7 I8 D9 => ((¬ z7 = 6 → Q x3 I8 D9) ∧ (¬ (¬ z7 = 6) → CI 55 [vR (some 1), vI x3] e I8 D9 (fun z10 I11 D12 => Q z10 I11 D12))))))) :
    RI 27 198 [vR (some A), vI x1, vJ, vI x3, vJ] [] e I D Q := by
  show Run 27 198 [vR (some A), vI x1, vJ, vI x3, vJ] [] (mk e I D) (pI e Q)
  refine R_aload_n (pc' := 199) rfl rfl rfl ?_
  refine R_aload_n (pc' := 200) rfl rfl rfl ?_
  refine K_getR (pc' := 203) rfl rfl rfl (kA hA 0 6 ⟨rfl, rfl⟩) (gA1 he hA 0 ⟨⟨rfl, rfl⟩, rfl, rfl⟩) ?_
  refine R_iload_n (pc' := 204) rfl rfl rfl ?_
  refine KI_iv (as := [vI x1]) (rest := [vR (some A)]) (pc' := 207) rfl rfl rfl rfl rfl (Nat.le_of_ble_eq_true rfl) rfl (CI_mono h ?_)
  intro z1 I2 D3 h
  refine R_iload_n (pc' := 208) rfl rfl rfl ?_
  refine KV_iv (as := [vI z1, vI x3]) (rest := []) (pc' := 211) rfl rfl rfl (kA hA 0 6 ⟨rfl, rfl⟩) rfl (Nat.le_of_ble_eq_true rfl) rfl (CV_mono h ?_)
  intro I5 D6 h
  refine R_aload_n (pc' := 212) rfl rfl rfl ?_
  refine K_getR (pc' := 215) rfl rfl rfl (kA hA 0 6 ⟨rfl, rfl⟩) (gA1 he hA 0 ⟨⟨rfl, rfl⟩, rfl, rfl⟩) ?_
  refine R_iload_n (pc' := 216) rfl rfl rfl ?_
  refine KI_iv (as := [vI x3]) (rest := []) (pc' := 219) rfl rfl rfl rfl rfl (Nat.le_of_ble_eq_true rfl) rfl (CI_mono h ?_)
  intro z7 I8 D9 h
  refine R_bipush (pc' := 221) rfl rfl ?_
  refine R_icne (pc' := 224) rfl rfl (fun hc => ?_) (fun hc => ?_)
  · replace h := h.1 hc
    refine R_iload_n (pc' := 236) rfl rfl rfl ?_
    exact R_iret rfl rfl ⟨_, _, _, rfl, rfl, h⟩
  · replace h := h.2 hc
    refine R_aload_n (pc' := 225) rfl rfl rfl ?_
    refine K_getR (pc' := 228) rfl rfl rfl (kA hA 0 6 ⟨rfl, rfl⟩) (gA1 he hA 0 ⟨⟨rfl, rfl⟩, rfl, rfl⟩) ?_
    refine R_iload_n (pc' := 229) rfl rfl rfl ?_
    refine KI_iv (as := [vI x3]) (rest := []) (pc' := 232) rfl rfl rfl rfl rfl (Nat.le_of_ble_eq_true rfl) rfl (CI_mono h ?_)
    intro z10 I11 D12 h
    refine R_goto rfl ?_
    exact R_iret rfl rfl ⟨_, _, _, rfl, rfl, h⟩
/-! 28 X5_isEnd -/
theorem S28 {e : En} {I : HI} {D : HD} {Q : Int → HI → HD → Prop} {x0 : Int} (he : HS e)
    (h : ((x0 = 0 → RI 28 11 [vJ] [] e I D Q) ∧ (¬ (x0 = 0) → CI 84 [vI x0] e I D (fun z1 I2 D3 => ((z1 = 0 → Q 0 I2 D3) ∧ (¬ (z1 = 0) → RI 28 11 [vJ] [] e I2 D3 Q)))))) :
    CI 28 [vI x0] e I D Q := by
  refine Call_run (ls := [vI x0]) rfl rfl ?_
  refine R_iload_n (pc' := 1) rfl rfl rfl ?_
  refine R_ifeq (pc' := 4) rfl rfl (fun hc => ?_) (fun hc => ?_)
  · replace h := h.1 hc
    exact R_forget (ls' := [vJ]) ⟨Or.inr rfl, trivial⟩ h
  · replace h := h.2 hc
    refine R_iload_n (pc' := 5) rfl rfl rfl ?_
    refine KI_stN (as := [vI x0]) (rest := []) (pc' := 8) rfl rfl rfl rfl (Nat.le_of_ble_eq_true rfl) rfl (CI_mono h ?_)
    intro z1 I2 D3 h
    refine R_ifeq (pc' := 11) rfl rfl (fun hc => ?_) (fun hc => ?_)
    · replace h := h.1 hc
      refine R_iconst (pc' := 16) rfl rfl ?_
      exact R_zret rfl rfl (Or.inl rfl) ⟨_, _, _, rfl, rfl, h⟩
    · replace h := h.2 hc
      exact R_forget (ls' := [vJ]) ⟨Or.inr rfl, trivial⟩ h
theorem S28_11 {e : En} {I : HI} {D : HD} {Q : Int → HI → HD → Prop} (he : HS e)
    (h : Q 1 I D) :
    RI 28 11 [vJ] [] e I D Q := by
  show Run 28 11 [vJ] [] (mk e I D) (pI e Q)
  refine R_iconst (pc' := 12) rfl rfl ?_
  refine R_goto rfl ?_
  exact R_zret rfl rfl (Or.inr rfl) ⟨_, _, _, rfl, rfl, h⟩
/-! 29 X5_takeStream -/
theorem S29 {e : En} {I : HI} {D : HD} {Q : Int → HI → HD → Prop} {A : Nat} {x1 : Int} (he : HS e) (hA : isA A)
    (h : (K0 (D A 10) = 3) ∧ CI 30 [vR (some A), vI x1] e (uI (uI I (D A 10) 6 1) (D A 10) 9 x1) D (fun z2 I3 D4 => ((z2 < 0 → RI 29 35 [vR (some A), vI x1, vI z2, vJ] [vI 0, vR (some (D4 A 10))] e I3 D4 Q) ∧ (¬ (z2 < 0) → RI 29 35 [vR (some A), vI x1, vI z2, vJ] [vI 1, vR (some (D4 A 10))] e I3 D4 Q)))) :
    CI 29 [vR (some A), vI x1] e I D Q := by
  refine Call_run (ls := [vR (some A), vI x1, vJ, vJ]) rfl rfl ?_
  refine R_aload_n (pc' := 1) rfl rfl rfl ?_
  refine K_getR (pc' := 4) rfl rfl rfl (kA hA 0 6 ⟨rfl, rfl⟩) (dy_at (dA hA 0 10 ⟨rfl, rfl⟩)) ?_
  refine R_iconst (pc' := 5) rfl rfl ?_
  have g1 := h.1
  replace h := h.2
  refine K_putIN (pc' := 8) rfl rfl (by decide) (fun _ => Or.inr rfl) g1 ?_
  refine R_aload_n (pc' := 9) rfl rfl rfl ?_
  refine K_getR (pc' := 12) rfl rfl rfl (kA hA 0 6 ⟨rfl, rfl⟩) (dy_at (dA hA 0 10 ⟨rfl, rfl⟩)) ?_
  refine R_iload_n (pc' := 13) rfl rfl rfl ?_
  refine K_putIN (pc' := 16) rfl rfl (by decide) (fun h => absurd h (by decide)) g1 ?_
  refine R_aload_n (pc' := 17) rfl rfl rfl ?_
  refine R_iload_n (pc' := 18) rfl rfl rfl ?_
  refine KI_iv (as := [vI x1]) (rest := []) (pc' := 21) rfl rfl rfl (kA hA 0 6 ⟨rfl, rfl⟩) rfl (Nat.le_of_ble_eq_true rfl) rfl (CI_mono h ?_)
  intro z2 I3 D4 h
  refine R_istore_n (ls' := [vR (some A), vI x1, vI z2, vJ]) (pc' := 22) rfl rfl rfl ?_
  refine R_aload_n (pc' := 23) rfl rfl rfl ?_
  refine K_getR (pc' := 26) rfl rfl rfl (kA hA 0 6 ⟨rfl, rfl⟩) (dy_at (dA hA 0 10 ⟨rfl, rfl⟩)) ?_
  refine R_iload_n (pc' := 27) rfl rfl rfl ?_
  refine R_iflt (pc' := 30) rfl rfl (fun hc => ?_) (fun hc => ?_)
  · replace h := h.1 hc
    refine R_iconst (pc' := 35) rfl rfl ?_
    exact h
  · replace h := h.2 hc
    refine R_iconst (pc' := 31) rfl rfl ?_
    refine R_goto rfl ?_
    exact h
theorem S29_35 {e : En} {I : HI} {D : HD} {Q : Int → HI → HD → Prop} {A : Nat} {x1 : Int} {x2 : Int} {p0 : Nat} {y1 : Int} (he : HS e) (hA : isA A) (hp0 : K0 p0 = 3)
    (h : (y1 = 0 ∨ y1 = 1) ∧ (K0 (D A 10) = 3) ∧ ((((uI I p0 7 y1) (D A 10) 7) = 0 → CV 26 [vR (some A), vI 3, vI x1] e (uI I p0 7 y1) D (fun I4 D5 => CI 31 [vR (some A), vI x1] e I4 D5 (fun z6 I7 D8 => ((z6 ≤ x1 → RI 29 106 [vR (some A), vI x1, vI z6, vJ] [] e I7 D8 Q) ∧ (¬ (z6 ≤ x1) → (-2147483648 ≤ (z6 - 1) ∧ (z6 - 1) < 2147483648) ∧ CI 50 [vR (some 1), vI (z6 - 1)] e I7 D8 (fun z10 I11 D12 => ((¬ z10 = 10 → RI 29 106 [vR (some A), vI x1, vI z6, vJ] [] e I11 D12 Q) ∧ (¬ (¬ z10 = 10) → RI 29 107 [vR (some A), vI x1, vI z6, vJ] [vI 1] e I11 D12 Q)))))))) ∧ (¬ (((uI I p0 7 y1) (D A 10) 7) = 0) → (-2147483648 ≤ (x1 + ((uI I p0 7 y1) ((D A 10) + 1) 5)) ∧ (x1 + ((uI I p0 7 y1) ((D A 10) + 1) 5)) < 2147483648) ∧ RI 29 126 [vR (some A), vI x1, vI x2, vJ] [] e (uI (uI I p0 7 y1) (D A 10) 10 (x1 + ((uI I p0 7 y1) ((D A 10) + 1) 5))) D Q))) :
    RI 29 35 [vR (some A), vI x1, vI x2, vJ] [vI y1, vR (some p0)] e I D Q := by
  show Run 29 35 [vR (some A), vI x1, vI x2, vJ] [vI y1, vR (some p0)] (mk e I D) (pI e Q)
  have g1 := h.1
  replace h := h.2
  refine K_putIN (pc' := 38) rfl rfl (by decide) (fun _ => g1) hp0 ?_
  refine R_aload_n (pc' := 39) rfl rfl rfl ?_
  refine K_getR (pc' := 42) rfl rfl rfl (kA hA 0 6 ⟨rfl, rfl⟩) (dy_at (dA hA 0 10 ⟨rfl, rfl⟩)) ?_
  have g2 := h.1
  replace h := h.2
  refine K_getIN (pc' := 45) rfl rfl (by decide) g2 rfl ?_
  refine R_ifeq (pc' := 48) rfl rfl (fun hc => ?_) (fun hc => ?_)
  · replace h := h.1 hc
    refine R_aload_n (pc' := 71) rfl rfl rfl ?_
    refine R_iconst (pc' := 72) rfl rfl ?_
    refine R_iload_n (pc' := 73) rfl rfl rfl ?_
    refine KV_iv (as := [vI 3, vI x1]) (rest := []) (pc' := 76) rfl rfl rfl (kA hA 0 6 ⟨rfl, rfl⟩) rfl (Nat.le_of_ble_eq_true rfl) rfl (CV_mono h ?_)
    intro I4 D5 h
    refine R_aload_n (pc' := 77) rfl rfl rfl ?_
    refine R_iload_n (pc' := 78) rfl rfl rfl ?_
    refine KI_iv (as := [vI x1]) (rest := []) (pc' := 81) rfl rfl rfl (kA hA 0 6 ⟨rfl, rfl⟩) rfl (Nat.le_of_ble_eq_true rfl) rfl (CI_mono h ?_)
    intro z6 I7 D8 h
    refine R_istore_n (ls' := [vR (some A), vI x1, vI z6, vJ]) (pc' := 82) rfl rfl rfl ?_
    refine R_iload_n (pc' := 83) rfl rfl rfl ?_
    refine R_iload_n (pc' := 84) rfl rfl rfl ?_
    refine R_icle (pc' := 87) rfl rfl (fun hc => ?_) (fun hc => ?_)
    · replace h := h.1 hc
      exact h
    · replace h := h.2 hc
      refine R_aload_n (pc' := 88) rfl rfl rfl ?_
      refine K_getR (pc' := 91) rfl rfl rfl (kA hA 0 6 ⟨rfl, rfl⟩) (gA1 he hA 0 ⟨⟨rfl, rfl⟩, rfl, rfl⟩) ?_
      refine R_iload_n (pc' := 92) rfl rfl rfl ?_
      refine R_iconst (pc' := 93) rfl rfl ?_
      have g9 := h.1
      replace h := h.2
      refine R_isub (pc' := 94) rfl rfl g9 ?_
      refine KI_iv (as := [vI (z6 - 1)]) (rest := []) (pc' := 97) rfl rfl rfl rfl rfl (Nat.le_of_ble_eq_true rfl) rfl (CI_mono h ?_)
      intro z10 I11 D12 h
      refine R_bipush (pc' := 99) rfl rfl ?_
      refine R_icne (pc' := 102) rfl rfl (fun hc => ?_) (fun hc => ?_)
      · replace h := h.1 hc
        exact h
      · replace h := h.2 hc
        refine R_iconst (pc' := 103) rfl rfl ?_
        refine R_goto rfl ?_
        exact h
  · replace h := h.2 hc
    refine R_aload_n (pc' := 49) rfl rfl rfl ?_
    refine K_getR (pc' := 52) rfl rfl rfl (kA hA 0 6 ⟨rfl, rfl⟩) (dy_at (dA hA 0 10 ⟨rfl, rfl⟩)) ?_
    refine R_iload_n (pc' := 53) rfl rfl rfl ?_
    refine R_aload_n (pc' := 54) rfl rfl rfl ?_
    refine K_getR (pc' := 57) rfl rfl rfl (kA hA 0 6 ⟨rfl, rfl⟩) (dy_at (dA hA 0 10 ⟨rfl, rfl⟩)) ?_
    refine K_getRN (pc' := 60) rfl rfl rfl g2 (gF0 he g2) ?_
    refine K_getIN (pc' := 63) rfl rfl (by decide) (kF g2).1 rfl ?_
    have g13 := h.1
    replace h := h.2
    refine R_iadd (pc' := 64) rfl rfl g13 ?_
    refine K_putIN (pc' := 67) rfl rfl (by decide) (fun h => absurd h (by decide)) g2 ?_
    refine R_goto rfl ?_
    exact h
theorem S29_106 {e : En} {I : HI} {D : HD} {Q : Int → HI → HD → Prop} {A : Nat} {x1 : Int} {x2 : Int} (he : HS e) (hA : isA A)
    (h : RI 29 107 [vR (some A), vI x1, vI x2, vJ] [vI 0] e I D Q) :
    RI 29 106 [vR (some A), vI x1, vI x2, vJ] [] e I D Q := by
  show Run 29 106 [vR (some A), vI x1, vI x2, vJ] [] (mk e I D) (pI e Q)
  refine R_iconst (pc' := 107) rfl rfl ?_
  exact h
theorem S29_107 {e : En} {I : HI} {D : HD} {Q : Int → HI → HD → Prop} {A : Nat} {x1 : Int} {x2 : Int} {y0 : Int} (he : HS e) (hA : isA A)
    (h : ((y0 = 0 → RI 29 123 [vR (some A), vI x1, vI x2, vJ] [vI x2, vR (some (D A 10))] e I D Q) ∧ (¬ (y0 = 0) → (-2147483648 ≤ (x2 - 1) ∧ (x2 - 1) < 2147483648) ∧ RI 29 123 [vR (some A), vI x1, vI x2, vJ] [vI (x2 - 1), vR (some (D A 10))] e I D Q))) :
    RI 29 107 [vR (some A), vI x1, vI x2, vJ] [vI y0] e I D Q := by
  show Run 29 107 [vR (some A), vI x1, vI x2, vJ] [vI y0] (mk e I D) (pI e Q)
  refine R_istore_n (ls' := [vR (some A), vI x1, vI x2, vI y0]) (pc' := 108) rfl rfl rfl ?_
  refine R_aload_n (pc' := 109) rfl rfl rfl ?_
  refine K_getR (pc' := 112) rfl rfl rfl (kA hA 0 6 ⟨rfl, rfl⟩) (dy_at (dA hA 0 10 ⟨rfl, rfl⟩)) ?_
  refine R_iload_n (pc' := 113) rfl rfl rfl ?_
  refine R_ifeq (pc' := 116) rfl rfl (fun hc => ?_) (fun hc => ?_)
  · replace h := h.1 hc
    refine R_iload_n (pc' := 123) rfl rfl rfl ?_
    exact R_forget (ls' := [vR (some A), vI x1, vI x2, vJ]) ⟨Or.inl rfl, Or.inl rfl, Or.inl rfl, Or.inr rfl, trivial⟩ h
  · replace h := h.2 hc
    refine R_iload_n (pc' := 117) rfl rfl rfl ?_
    refine R_iconst (pc' := 118) rfl rfl ?_
    have g1 := h.1
    replace h := h.2
    refine R_isub (pc' := 119) rfl rfl g1 ?_
    refine R_goto rfl ?_
    exact R_forget (ls' := [vR (some A), vI x1, vI x2, vJ]) ⟨Or.inl rfl, Or.inl rfl, Or.inl rfl, Or.inr rfl, trivial⟩ h
theorem S29_123 {e : En} {I : HI} {D : HD} {Q : Int → HI → HD → Prop} {A : Nat} {x1 : Int} {x2 : Int} {p0 : Nat} {y1 : Int} (he : HS e) (hA : isA A) (hp0 : K0 p0 = 3)
    (h : RI 29 126 [vR (some A), vI x1, vI x2, vJ] [] e (uI I p0 10 y1) D Q) :
    RI 29 123 [vR (some A), vI x1, vI x2, vJ] [vI y1, vR (some p0)] e I D Q := by
  show Run 29 123 [vR (some A), vI x1, vI x2, vJ] [vI y1, vR (some p0)] (mk e I D) (pI e Q)
  refine K_putIN (pc' := 126) rfl rfl (by decide) (fun h => absurd h (by decide)) hp0 ?_
  exact h
theorem S29_126 {e : En} {I : HI} {D : HD} {Q : Int → HI → HD → Prop} {A : Nat} {x1 : Int} {x2 : Int} (he : HS e) (hA : isA A)
    (h : ((x2 < 0 → RI 29 139 [vR (some A), vI x1, vI x2, vJ] [vI 0, vR (some (D A 10))] e I D Q) ∧ (¬ (x2 < 0) → RI 29 139 [vR (some A), vI x1, vI x2, vJ] [vI 1, vR (some (D A 10))] e I D Q))) :
    RI 29 126 [vR (some A), vI x1, vI x2, vJ] [] e I D Q := by
  show Run 29 126 [vR (some A), vI x1, vI x2, vJ] [] (mk e I D) (pI e Q)
  refine R_aload_n (pc' := 127) rfl rfl rfl ?_
  refine K_getR (pc' := 130) rfl rfl rfl (kA hA 0 6 ⟨rfl, rfl⟩) (dy_at (dA hA 0 10 ⟨rfl, rfl⟩)) ?_
  refine R_iload_n (pc' := 131) rfl rfl rfl ?_
  refine R_iflt (pc' := 134) rfl rfl (fun hc => ?_) (fun hc => ?_)
  · replace h := h.1 hc
    refine R_iconst (pc' := 139) rfl rfl ?_
    exact h
  · replace h := h.2 hc
    refine R_iconst (pc' := 135) rfl rfl ?_
    refine R_goto rfl ?_
    exact h
theorem S29_139 {e : En} {I : HI} {D : HD} {Q : Int → HI → HD → Prop} {A : Nat} {x1 : Int} {x2 : Int} {p0 : Nat} {y1 : Int} (he : HS e) (hA : isA A) (hp0 : K0 p0 = 3)
    (h : (y1 = 0 ∨ y1 = 1) ∧ (K0 (D A 10) = 3) ∧ ((¬ ((uI I p0 8 y1) (D A 10) 8) = 0 → (-2147483648 ≤ (x2 + ((zstr 24).length : Int)) ∧ (x2 + ((zstr 24).length : Int)) < 2147483648) ∧ Q (x2 + ((zstr 24).length : Int)) (uI I p0 8 y1) D) ∧ (¬ (¬ ((uI I p0 8 y1) (D A 10) 8) = 0) → CV 26 [vR (some A), vI 2, vI x1] e (uI I p0 8 y1) D (fun I5 D6 => (K0 (D6 A 10) = 3) ∧ Q ((uI I5 (D6 A 10) 10 (I5 A 2)) A 2) (uI I5 (D6 A 10) 10 (I5 A 2)) D6)))) :
    RI 29 139 [vR (some A), vI x1, vI x2, vJ] [vI y1, vR (some p0)] e I D Q := by
  show Run 29 139 [vR (some A), vI x1, vI x2, vJ] [vI y1, vR (some p0)] (mk e I D) (pI e Q)
  have g1 := h.1
  replace h := h.2
  refine K_putIN (pc' := 142) rfl rfl (by decide) (fun _ => g1) hp0 ?_
  refine R_aload_n (pc' := 143) rfl rfl rfl ?_
  refine K_getR (pc' := 146) rfl rfl rfl (kA hA 0 6 ⟨rfl, rfl⟩) (dy_at (dA hA 0 10 ⟨rfl, rfl⟩)) ?_
  have g2 := h.1
  replace h := h.2
  refine K_getIN (pc' := 149) rfl rfl (by decide) g2 rfl ?_
  refine R_ifne (pc' := 152) rfl rfl (fun hc => ?_) (fun hc => ?_)
  · replace h := h.1 hc
    refine R_iload_n (pc' := 175) rfl rfl rfl ?_
    refine R_ldcS (pc' := 177) rfl rfl ?_
    refine R_strlen (pc' := 180) rfl rfl (by decide) (Nat.le_of_ble_eq_true rfl) ?_
    have g3 := h.1
    replace h := h.2
    refine R_iadd (pc' := 181) rfl rfl g3 ?_
    exact R_iret rfl rfl ⟨_, _, _, rfl, rfl, h⟩
  · replace h := h.2 hc
    refine R_aload_n (pc' := 153) rfl rfl rfl ?_
    refine R_iconst (pc' := 154) rfl rfl ?_
    refine R_iload_n (pc' := 155) rfl rfl rfl ?_
    refine KV_iv (as := [vI 2, vI x1]) (rest := []) (pc' := 158) rfl rfl rfl (kA hA 0 6 ⟨rfl, rfl⟩) rfl (Nat.le_of_ble_eq_true rfl) rfl (CV_mono h ?_)
    intro I5 D6 h
    refine R_aload_n (pc' := 159) rfl rfl rfl ?_
    refine K_getR (pc' := 162) rfl rfl rfl (kA hA 0 6 ⟨rfl, rfl⟩) (dy_at (dA hA 0 10 ⟨rfl, rfl⟩)) ?_
    refine R_aload_n (pc' := 163) rfl rfl rfl ?_
    refine K_getI (pc' := 166) rfl rfl (by decide) (kA hA 0 6 ⟨rfl, rfl⟩) rfl ?_
    have g7 := h.1
    replace h := h.2
    refine K_putIN (pc' := 169) rfl rfl (by decide) (fun h => absurd h (by decide)) g7 ?_
    refine R_aload_n (pc' := 170) rfl rfl rfl ?_
    refine K_getI (pc' := 173) rfl rfl (by decide) (kA hA 0 6 ⟨rfl, rfl⟩) rfl ?_
    exact R_iret rfl rfl ⟨_, _, _, rfl, rfl, h⟩
/-! 30 X5_endingByLength -/
theorem S30 {e : En} {I : HI} {D : HD} {Q : Int → HI → HD → Prop} {A : Nat} {x1 : Int} (he : HS e) (hA : isA A)
    (h : (K0 (D A 10) = 3) ∧ (((I ((D A 10) + 1) 5) < 0 → Q (-1) I D) ∧ (¬ ((I ((D A 10) + 1) 5) < 0) → (-2147483648 ≤ ((I A 2) - x1) ∧ ((I A 2) - x1) < 2147483648) ∧ (((I ((D A 10) + 1) 5) ≤ ((I A 2) - x1) → (-2147483648 ≤ (x1 + (I ((D A 10) + 1) 5)) ∧ (x1 + (I ((D A 10) + 1) 5)) < 2147483648) ∧ CI 58 [vR (some 1), vI (x1 + (I ((D A 10) + 1) 5)), vS 24] e I D (fun z4 I5 D6 => ((z4 = 0 → CI 50 [vR (some 1), vI (x1 + (I ((D A 10) + 1) 5))] e I5 D6 (fun z7 I8 D9 => ((¬ z7 = 10 → RI 30 78 [vJ, vJ, vJ, vI (x1 + (I ((D A 10) + 1) 5)), vJ] [] e I8 D9 Q) ∧ (¬ (¬ z7 = 10) → (-2147483648 ≤ ((x1 + (I ((D A 10) + 1) 5)) + 1) ∧ ((x1 + (I ((D A 10) + 1) 5)) + 1) < 2147483648) ∧ CI 58 [vR (some 1), vI ((x1 + (I ((D A 10) + 1) 5)) + 1), vS 24] e I8 D9 (fun z11 I12 D13 => ((z11 = 0 → RI 30 78 [vJ, vJ, vJ, vI (x1 + (I ((D A 10) + 1) 5)), vJ] [] e I12 D13 Q) ∧ (¬ (z11 = 0) → RI 30 79 [vJ, vJ, vJ, vI (x1 + (I ((D A 10) + 1) 5)), vJ] [vI 1] e I12 D13 Q))))))) ∧ (¬ (z4 = 0) → Q (x1 + (I ((D A 10) + 1) 5)) I5 D6)))) ∧ (¬ ((I ((D A 10) + 1) 5) ≤ ((I A 2) - x1)) → Q (-1) I D))))) :
    CI 30 [vR (some A), vI x1] e I D Q := by
  refine Call_run (ls := [vR (some A), vI x1, vJ, vJ, vJ]) rfl rfl ?_
  refine R_aload_n (pc' := 1) rfl rfl rfl ?_
  refine K_getR (pc' := 4) rfl rfl rfl (kA hA 0 6 ⟨rfl, rfl⟩) (dy_at (dA hA 0 10 ⟨rfl, rfl⟩)) ?_
  have g1 := h.1
  replace h := h.2
  refine K_getRN (pc' := 7) rfl rfl rfl g1 (gF0 he g1) ?_
  refine K_getIN (pc' := 10) rfl rfl (by decide) (kF g1).1 rfl ?_
  refine R_istore_n (ls' := [vR (some A), vI x1, vI (I ((D A 10) + 1) 5), vJ, vJ]) (pc' := 11) rfl rfl rfl ?_
  refine R_iload_n (pc' := 12) rfl rfl rfl ?_
  refine R_iflt (pc' := 15) rfl rfl (fun hc => ?_) (fun hc => ?_)
  · replace h := h.1 hc
    refine R_iconst (pc' := 26) rfl rfl ?_
    exact R_iret rfl rfl ⟨_, _, _, rfl, rfl, h⟩
  · replace h := h.2 hc
    refine R_iload_n (pc' := 16) rfl rfl rfl ?_
    refine R_aload_n (pc' := 17) rfl rfl rfl ?_
    refine K_getI (pc' := 20) rfl rfl (by decide) (kA hA 0 6 ⟨rfl, rfl⟩) rfl ?_
    refine R_iload_n (pc' := 21) rfl rfl rfl ?_
    have g2 := h.1
    replace h := h.2
    refine R_isub (pc' := 22) rfl rfl g2 ?_
    refine R_icle (pc' := 25) rfl rfl (fun hc => ?_) (fun hc => ?_)
    · replace h := h.1 hc
      refine R_iload_n (pc' := 28) rfl rfl rfl ?_
      refine R_iload_n (pc' := 29) rfl rfl rfl ?_
      have g3 := h.1
      replace h := h.2
      refine R_iadd (pc' := 30) rfl rfl g3 ?_
      refine R_istore_n (ls' := [vR (some A), vI x1, vI (I ((D A 10) + 1) 5), vI (x1 + (I ((D A 10) + 1) 5)), vJ]) (pc' := 31) rfl rfl rfl ?_
      refine R_aload_n (pc' := 32) rfl rfl rfl ?_
      refine K_getR (pc' := 35) rfl rfl rfl (kA hA 0 6 ⟨rfl, rfl⟩) (gA1 he hA 0 ⟨⟨rfl, rfl⟩, rfl, rfl⟩) ?_
      refine R_iload_n (pc' := 36) rfl rfl rfl ?_
      refine R_ldcS (pc' := 38) rfl rfl ?_
      refine KI_iv (as := [vI (x1 + (I ((D A 10) + 1) 5)), vS 24]) (rest := []) (pc' := 41) rfl rfl rfl rfl rfl (Nat.le_of_ble_eq_true rfl) rfl (CI_mono h ?_)
      intro z4 I5 D6 h
      refine R_ifeq (pc' := 44) rfl rfl (fun hc => ?_) (fun hc => ?_)
      · replace h := h.1 hc
        refine R_aload_n (pc' := 47) rfl rfl rfl ?_
        refine K_getR (pc' := 50) rfl rfl rfl (kA hA 0 6 ⟨rfl, rfl⟩) (gA1 he hA 0 ⟨⟨rfl, rfl⟩, rfl, rfl⟩) ?_
        refine R_iload_n (pc' := 51) rfl rfl rfl ?_
        refine KI_iv (as := [vI (x1 + (I ((D A 10) + 1) 5))]) (rest := []) (pc' := 54) rfl rfl rfl rfl rfl (Nat.le_of_ble_eq_true rfl) rfl (CI_mono h ?_)
        intro z7 I8 D9 h
        refine R_bipush (pc' := 56) rfl rfl ?_
        refine R_icne (pc' := 59) rfl rfl (fun hc => ?_) (fun hc => ?_)
        · replace h := h.1 hc
          exact R_forget (ls' := [vJ, vJ, vJ, vI (x1 + (I ((D A 10) + 1) 5)), vJ]) ⟨Or.inr rfl, Or.inr rfl, Or.inr rfl, Or.inl rfl, Or.inl rfl, trivial⟩ h
        · replace h := h.2 hc
          refine R_aload_n (pc' := 60) rfl rfl rfl ?_
          refine K_getR (pc' := 63) rfl rfl rfl (kA hA 0 6 ⟨rfl, rfl⟩) (gA1 he hA 0 ⟨⟨rfl, rfl⟩, rfl, rfl⟩) ?_
          refine R_iload_n (pc' := 64) rfl rfl rfl ?_
          refine R_iconst (pc' := 65) rfl rfl ?_
          have g10 := h.1
          replace h := h.2
          refine R_iadd (pc' := 66) rfl rfl g10 ?_
          refine R_ldcS (pc' := 68) rfl rfl ?_
          refine KI_iv (as := [vI ((x1 + (I ((D A 10) + 1) 5)) + 1), vS 24]) (rest := []) (pc' := 71) rfl rfl rfl rfl rfl (Nat.le_of_ble_eq_true rfl) rfl (CI_mono h ?_)
          intro z11 I12 D13 h
          refine R_ifeq (pc' := 74) rfl rfl (fun hc => ?_) (fun hc => ?_)
          · replace h := h.1 hc
            exact R_forget (ls' := [vJ, vJ, vJ, vI (x1 + (I ((D A 10) + 1) 5)), vJ]) ⟨Or.inr rfl, Or.inr rfl, Or.inr rfl, Or.inl rfl, Or.inl rfl, trivial⟩ h
          · replace h := h.2 hc
            refine R_iconst (pc' := 75) rfl rfl ?_
            refine R_goto rfl ?_
            exact R_forget (ls' := [vJ, vJ, vJ, vI (x1 + (I ((D A 10) + 1) 5)), vJ]) ⟨Or.inr rfl, Or.inr rfl, Or.inr rfl, Or.inl rfl, Or.inl rfl, trivial⟩ h
      · replace h := h.2 hc
        refine R_iload_n (pc' := 45) rfl rfl rfl ?_
        exact R_iret rfl rfl ⟨_, _, _, rfl, rfl, h⟩
    · replace h := h.2 hc
      refine R_iconst (pc' := 26) rfl rfl ?_
      exact R_iret rfl rfl ⟨_, _, _, rfl, rfl, h⟩
theorem S30_78 {e : En} {I : HI} {D : HD} {Q : Int → HI → HD → Prop} {x3 : Int} (he : HS e)
    (h : RI 30 79 [vJ, vJ, vJ, vI x3, vJ] [vI 0] e I D Q) :
    RI 30 78 [vJ, vJ, vJ, vI x3, vJ] [] e I D Q := by
  show Run 30 78 [vJ, vJ, vJ, vI x3, vJ] [] (mk e I D) (pI e Q)
  refine R_iconst (pc' := 79) rfl rfl ?_
  exact h
theorem S30_79 {e : En} {I : HI} {D : HD} {Q : Int → HI → HD → Prop} {x3 : Int} {y0 : Int} (he : HS e)
    (h : ((y0 = 0 → Q (-1) I D) ∧ (¬ (y0 = 0) → (-2147483648 ≤ (x3 + 1) ∧ (x3 + 1) < 2147483648) ∧ Q (x3 + 1) I D))) :
    RI 30 79 [vJ, vJ, vJ, vI x3, vJ] [vI y0] e I D Q := by
  show Run 30 79 [vJ, vJ, vJ, vI x3, vJ] [vI y0] (mk e I D) (pI e Q)
  refine R_istore (ls' := [vJ, vJ, vJ, vI x3, vI y0]) (pc' := 81) rfl rfl rfl ?_
  refine R_iload (pc' := 83) rfl rfl rfl ?_
  refine R_ifeq (pc' := 86) rfl rfl (fun hc => ?_) (fun hc => ?_)
  · replace h := h.1 hc
    refine R_iconst (pc' := 93) rfl rfl ?_
    exact R_iret rfl rfl ⟨_, _, _, rfl, rfl, h⟩
  · replace h := h.2 hc
    refine R_iload_n (pc' := 87) rfl rfl rfl ?_
    refine R_iconst (pc' := 88) rfl rfl ?_
    have g1 := h.1
    replace h := h.2
    refine R_iadd (pc' := 89) rfl rfl g1 ?_
    refine R_goto rfl ?_
    exact R_iret rfl rfl ⟨_, _, _, rfl, rfl, h⟩
/-! 31 X5_endingByWord -/
theorem S31 {e : En} {I : HI} {D : HD} {Q : Int → HI → HD → Prop} {A : Nat} {x1 : Int} (he : HS e) (hA : isA A)
    (h : RI 31 2 [vR (some A), vJ, vI x1] [] e I D Q) :
    CI 31 [vR (some A), vI x1] e I D Q := by
  refine Call_run (ls := [vR (some A), vI x1, vJ]) rfl rfl ?_
  refine R_iload_n (pc' := 1) rfl rfl rfl ?_
  refine R_istore_n (ls' := [vR (some A), vI x1, vI x1]) (pc' := 2) rfl rfl rfl ?_
  exact R_forget (ls' := [vR (some A), vJ, vI x1]) ⟨Or.inl rfl, Or.inr rfl, Or.inl rfl, trivial⟩ h
theorem S31_2 {e : En} {I : HI} {D : HD} {Q : Int → HI → HD → Prop} {A : Nat} {x2 : Int} (he : HS e) (hA : isA A)
    (h : (-2147483648 ≤ ((I A 2) - ((zstr 24).length : Int)) ∧ ((I A 2) - ((zstr 24).length : Int)) < 2147483648) ∧ ((((I A 2) - ((zstr 24).length : Int)) < x2 → Q (-1) I D) ∧ (¬ (((I A 2) - ((zstr 24).length : Int)) < x2) → CI 58 [vR (some 1), vI x2, vS 24] e I D (fun z2 I3 D4 => ((z2 = 0 → (-2147483648 ≤ (x2 + 1) ∧ (x2 + 1) < 2147483648) ∧ RI 31 2 [vR (some A), vJ, vI (x2 + 1)] [] e I3 D4 Q) ∧ (¬ (z2 = 0) → Q x2 I3 D4)))))) :
    RI 31 2 [vR (some A), vJ, vI x2] [] e I D Q := by
  show Run 31 2 [vR (some A), vJ, vI x2] [] (mk e I D) (pI e Q)
  refine R_iload_n (pc' := 3) rfl rfl rfl ?_
  refine R_aload_n (pc' := 4) rfl rfl rfl ?_
  refine K_getI (pc' := 7) rfl rfl (by decide) (kA hA 0 6 ⟨rfl, rfl⟩) rfl ?_
  refine R_ldcS (pc' := 9) rfl rfl ?_
  refine R_strlen (pc' := 12) rfl rfl (by decide) (Nat.le_of_ble_eq_true rfl) ?_
  have g1 := h.1
  replace h := h.2
  refine R_isub (pc' := 13) rfl rfl g1 ?_
  refine R_icgt (pc' := 16) rfl rfl (fun hc => ?_) (fun hc => ?_)
  · replace h := h.1 hc
    refine R_iconst (pc' := 38) rfl rfl ?_
    exact R_iret rfl rfl ⟨_, _, _, rfl, rfl, h⟩
  · replace h := h.2 hc
    refine R_aload_n (pc' := 17) rfl rfl rfl ?_
    refine K_getR (pc' := 20) rfl rfl rfl (kA hA 0 6 ⟨rfl, rfl⟩) (gA1 he hA 0 ⟨⟨rfl, rfl⟩, rfl, rfl⟩) ?_
    refine R_iload_n (pc' := 21) rfl rfl rfl ?_
    refine R_ldcS (pc' := 23) rfl rfl ?_
    refine KI_iv (as := [vI x2, vS 24]) (rest := []) (pc' := 26) rfl rfl rfl rfl rfl (Nat.le_of_ble_eq_true rfl) rfl (CI_mono h ?_)
    intro z2 I3 D4 h
    refine R_ifeq (pc' := 29) rfl rfl (fun hc => ?_) (fun hc => ?_)
    · replace h := h.1 hc
      have g5 := h.1
      replace h := h.2
      refine R_iinc (ls' := [vR (some A), vJ, vI (x2 + 1)]) (pc' := 34) rfl rfl rfl g5 rfl ?_
      refine R_goto rfl ?_
      exact h
    · replace h := h.2 hc
      refine R_iload_n (pc' := 30) rfl rfl rfl ?_
      exact R_iret rfl rfl ⟨_, _, _, rfl, rfl, h⟩
/-! 32 X5_endObject -/
theorem S32 {e : En} {I : HI} {D : HD} {Q : HI → HD → Prop} {A : Nat} {x1 : Int} {x2 : Int} (he : HS e) (hA : isA A)
    (h : CI 53 [vR (some 1), vI x2] e I D (fun z1 I2 D3 => (K0 (D3 A 10) = 3) ∧ ((¬ z1 = 6 → RV 32 32 [vR (some A), vI x1, vI x2, vI z1] [vI 0, vR (some (D3 A 10))] e (uI I2 (D3 A 10) 4 x2) D3 Q) ∧ (¬ (¬ z1 = 6) → RV 32 32 [vR (some A), vI x1, vI x2, vI z1] [vI 1, vR (some (D3 A 10))] e (uI I2 (D3 A 10) 4 x2) D3 Q)))) :
    CV 32 [vR (some A), vI x1, vI x2] e I D Q := by
  refine Call_run (ls := [vR (some A), vI x1, vI x2, vJ]) rfl rfl ?_
  refine R_aload_n (pc' := 1) rfl rfl rfl ?_
  refine K_getR (pc' := 4) rfl rfl rfl (kA hA 0 6 ⟨rfl, rfl⟩) (gA1 he hA 0 ⟨⟨rfl, rfl⟩, rfl, rfl⟩) ?_
  refine R_iload_n (pc' := 5) rfl rfl rfl ?_
  refine KI_iv (as := [vI x2]) (rest := []) (pc' := 8) rfl rfl rfl rfl rfl (Nat.le_of_ble_eq_true rfl) rfl (CI_mono h ?_)
  intro z1 I2 D3 h
  refine R_istore_n (ls' := [vR (some A), vI x1, vI x2, vI z1]) (pc' := 9) rfl rfl rfl ?_
  refine R_aload_n (pc' := 10) rfl rfl rfl ?_
  refine K_getR (pc' := 13) rfl rfl rfl (kA hA 0 6 ⟨rfl, rfl⟩) (dy_at (dA hA 0 10 ⟨rfl, rfl⟩)) ?_
  refine R_iload_n (pc' := 14) rfl rfl rfl ?_
  have g4 := h.1
  replace h := h.2
  refine K_putIN (pc' := 17) rfl rfl (by decide) (fun h => absurd h (by decide)) g4 ?_
  refine R_aload_n (pc' := 18) rfl rfl rfl ?_
  refine K_getR (pc' := 21) rfl rfl rfl (kA hA 0 6 ⟨rfl, rfl⟩) (dy_at (dA hA 0 10 ⟨rfl, rfl⟩)) ?_
  refine R_iload_n (pc' := 22) rfl rfl rfl ?_
  refine R_bipush (pc' := 24) rfl rfl ?_
  refine R_icne (pc' := 27) rfl rfl (fun hc => ?_) (fun hc => ?_)
  · replace h := h.1 hc
    refine R_iconst (pc' := 32) rfl rfl ?_
    exact h
  · replace h := h.2 hc
    refine R_iconst (pc' := 28) rfl rfl ?_
    refine R_goto rfl ?_
    exact h
theorem S32_32 {e : En} {I : HI} {D : HD} {Q : HI → HD → Prop} {A : Nat} {x1 : Int} {x2 : Int} {x3 : Int} {p0 : Nat} {y1 : Int} (he : HS e) (hA : isA A) (hp0 : K0 p0 = 3)
    (h : (y1 = 0 ∨ y1 = 1) ∧ ((¬ x3 = 0 → RV 32 68 [vR (some A), vI x1, vI x2, vI x3] [] e (uI I p0 5 y1) D Q) ∧ (¬ (¬ x3 = 0) → (K0 (D A 10) = 3) ∧ ((¬ ((uI I p0 5 y1) (D A 10) 6) = 0 → RV 32 68 [vR (some A), vI x1, vI x2, vI x3] [] e (uI I p0 5 y1) D Q) ∧ (¬ (¬ ((uI I p0 5 y1) (D A 10) 6) = 0) → CV 26 [vR (some A), vI 10, vI ((uI (uI I p0 5 y1) A 12 x1) (D A 10) 2)] e (uI (uI I p0 5 y1) A 12 x1) D (fun I4 D5 => Q I4 D5)))))) :
    RV 32 32 [vR (some A), vI x1, vI x2, vI x3] [vI y1, vR (some p0)] e I D Q := by
  show Run 32 32 [vR (some A), vI x1, vI x2, vI x3] [vI y1, vR (some p0)] (mk e I D) (pV e Q)
  have g1 := h.1
  replace h := h.2
  refine K_putIN (pc' := 35) rfl rfl (by decide) (fun _ => g1) hp0 ?_
  refine R_iload_n (pc' := 36) rfl rfl rfl ?_
  refine R_ifne (pc' := 39) rfl rfl (fun hc => ?_) (fun hc => ?_)
  · replace h := h.1 hc
    exact h
  · replace h := h.2 hc
    refine R_aload_n (pc' := 40) rfl rfl rfl ?_
    refine K_getR (pc' := 43) rfl rfl rfl (kA hA 0 6 ⟨rfl, rfl⟩) (dy_at (dA hA 0 10 ⟨rfl, rfl⟩)) ?_
    have g2 := h.1
    replace h := h.2
    refine K_getIN (pc' := 46) rfl rfl (by decide) g2 rfl ?_
    refine R_ifne (pc' := 49) rfl rfl (fun hc => ?_) (fun hc => ?_)
    · replace h := h.1 hc
      exact h
    · replace h := h.2 hc
      refine R_aload_n (pc' := 50) rfl rfl rfl ?_
      refine R_iload_n (pc' := 51) rfl rfl rfl ?_
      refine K_putI (pc' := 54) rfl rfl (by decide) (fun h => absurd h (by decide)) (kA hA 0 6 ⟨rfl, rfl⟩) ?_
      refine R_aload_n (pc' := 55) rfl rfl rfl ?_
      refine R_bipush (pc' := 57) rfl rfl ?_
      refine R_aload_n (pc' := 58) rfl rfl rfl ?_
      refine K_getR (pc' := 61) rfl rfl rfl (kA hA 0 6 ⟨rfl, rfl⟩) (dy_at (dA hA 0 10 ⟨rfl, rfl⟩)) ?_
      refine K_getIN (pc' := 64) rfl rfl (by decide) g2 rfl ?_
      refine KV_iv (as := [vI 10, vI ((uI (uI I p0 5 y1) A 12 x1) (D A 10) 2)]) (rest := []) (pc' := 67) rfl rfl rfl (kA hA 0 6 ⟨rfl, rfl⟩) rfl (Nat.le_of_ble_eq_true rfl) rfl (CV_mono h ?_)
      intro I4 D5 h
      exact R_vret rfl rfl ⟨_, _, rfl, rfl, h⟩
theorem S32_68 {e : En} {I : HI} {D : HD} {Q : HI → HD → Prop} {A : Nat} {x1 : Int} {x2 : Int} {x3 : Int} (he : HS e) (hA : isA A)
    (h : ((x3 = 6 → RV 32 100 [vR (some A), vI x1, vJ, vJ] [] e I D Q) ∧ (¬ (x3 = 6) → (K0 (D A 10) = 3) ∧ (((I (D A 10) 6) = 0 → RV 32 94 [vR (some A), vI x1, vI x2, vJ] [] e I D Q) ∧ (¬ ((I (D A 10) 6) = 0) → (((I (D A 10) 8) = 0 → RV 32 100 [vR (some A), vI x1, vJ, vJ] [] e I D Q) ∧ (¬ ((I (D A 10) 8) = 0) → RV 32 94 [vR (some A), vI x1, vI x2, vJ] [] e I D Q))))))) :
    RV 32 68 [vR (some A), vI x1, vI x2, vI x3] [] e I D Q := by
  show Run 32 68 [vR (some A), vI x1, vI x2, vI x3] [] (mk e I D) (pV e Q)
  refine R_iload_n (pc' := 69) rfl rfl rfl ?_
  refine R_bipush (pc' := 71) rfl rfl ?_
  refine R_iceq (pc' := 74) rfl rfl (fun hc => ?_) (fun hc => ?_)
  · replace h := h.1 hc
    exact R_forget (ls' := [vR (some A), vI x1, vJ, vJ]) ⟨Or.inl rfl, Or.inl rfl, Or.inr rfl, Or.inr rfl, trivial⟩ h
  · replace h := h.2 hc
    refine R_aload_n (pc' := 75) rfl rfl rfl ?_
    refine K_getR (pc' := 78) rfl rfl rfl (kA hA 0 6 ⟨rfl, rfl⟩) (dy_at (dA hA 0 10 ⟨rfl, rfl⟩)) ?_
    have g1 := h.1
    replace h := h.2
    refine K_getIN (pc' := 81) rfl rfl (by decide) g1 rfl ?_
    refine R_ifeq (pc' := 84) rfl rfl (fun hc => ?_) (fun hc => ?_)
    · replace h := h.1 hc
      exact R_forget (ls' := [vR (some A), vI x1, vI x2, vJ]) ⟨Or.inl rfl, Or.inl rfl, Or.inl rfl, Or.inr rfl, trivial⟩ h
    · replace h := h.2 hc
      refine R_aload_n (pc' := 85) rfl rfl rfl ?_
      refine K_getR (pc' := 88) rfl rfl rfl (kA hA 0 6 ⟨rfl, rfl⟩) (dy_at (dA hA 0 10 ⟨rfl, rfl⟩)) ?_
      refine K_getIN (pc' := 91) rfl rfl (by decide) g1 rfl ?_
      refine R_ifeq (pc' := 94) rfl rfl (fun hc => ?_) (fun hc => ?_)
      · replace h := h.1 hc
        exact R_forget (ls' := [vR (some A), vI x1, vJ, vJ]) ⟨Or.inl rfl, Or.inl rfl, Or.inr rfl, Or.inr rfl, trivial⟩ h
      · replace h := h.2 hc
        exact R_forget (ls' := [vR (some A), vI x1, vI x2, vJ]) ⟨Or.inl rfl, Or.inl rfl, Or.inl rfl, Or.inr rfl, trivial⟩ h
theorem S32_94 {e : En} {I : HI} {D : HD} {Q : HI → HD → Prop} {A : Nat} {x1 : Int} {x2 : Int} (he : HS e) (hA : isA A)
    (h : CV 26 [vR (some A), vI 1, vI x2] e I D (fun I2 D3 => RV 32 100 [vR (some A), vI x1, vJ, vJ] [] e I2 D3 Q)) :
    RV 32 94 [vR (some A), vI x1, vI x2, vJ] [] e I D Q := by
  show Run 32 94 [vR (some A), vI x1, vI x2, vJ] [] (mk e I D) (pV e Q)
  refine R_aload_n (pc' := 95) rfl rfl rfl ?_
  refine R_iconst (pc' := 96) rfl rfl ?_
  refine R_iload_n (pc' := 97) rfl rfl rfl ?_
  refine KV_iv (as := [vI 1, vI x2]) (rest := []) (pc' := 100) rfl rfl rfl (kA hA 0 6 ⟨rfl, rfl⟩) rfl (Nat.le_of_ble_eq_true rfl) rfl (CV_mono h ?_)
  intro I2 D3 h
  exact R_forget (ls' := [vR (some A), vI x1, vJ, vJ]) ⟨Or.inl rfl, Or.inl rfl, Or.inr rfl, Or.inl rfl, trivial⟩ h
theorem S32_100 {e : En} {I : HI} {D : HD} {Q : HI → HD → Prop} {A : Nat} {x1 : Int} (he : HS e) (hA : isA A)
    (h : CV 33 [vR (some A), vI x1] e I D (fun I2 D3 => Q I2 D3)) :
    RV 32 100 [vR (some A), vI x1, vJ, vJ] [] e I D Q := by
  show Run 32 100 [vR (some A), vI x1, vJ, vJ] [] (mk e I D) (pV e Q)
  refine R_aload_n (pc' := 101) rfl rfl rfl ?_
  refine R_iload_n (pc' := 102) rfl rfl rfl ?_
  refine KV_iv (as := [vI x1]) (rest := []) (pc' := 105) rfl rfl rfl (kA hA 0 6 ⟨rfl, rfl⟩) rfl (Nat.le_of_ble_eq_true rfl) rfl (CV_mono h ?_)
  intro I2 D3 h
  exact R_vret rfl rfl ⟨_, _, rfl, rfl, h⟩
/-! 33 X5_keepCurrent -/
theorem S33 {e : En} {I : HI} {D : HD} {Q : HI → HD → Prop} {A : Nat} {x1 : Int} (he : HS e) (hA : isA A)
    (h : ((x1 < 1 → Q I D) ∧ (¬ (x1 < 1) → ((x1 < 61 → (0 ≤ x1 ∧ x1 < 61) ∧ (K0 (D (A + 21) (x1.toNat)) = 3) ∧ (((I (D (A + 21) (x1.toNat)) 1) = 0 → (-2147483648 ≤ ((I A 11) + 1) ∧ ((I A 11) + 1) < 2147483648) ∧ RV 33 73 [vR (some A), vI x1, vR (some (D (A + 21) (x1.toNat)))] [] e (uI I A 11 ((I A 11) + 1)) D Q) ∧ (¬ ((I (D (A + 21) (x1.toNat)) 1) = 0) → CV 26 [vR (some A), vI 4, vI (I (D (A + 21) (x1.toNat)) 2)] e I D (fun I5 D6 => (K0 (D6 A 10) = 3) ∧ CV 11 [vR (some (A + 14)), vI x1, vI (I5 (D6 A 10) 2), vI (I5 (D6 A 10) 4)] e I5 D6 (fun I9 D10 => RV 33 73 [vR (some A), vI x1, vR (some (D (A + 21) (x1.toNat)))] [] e I9 D10 Q))))) ∧ (¬ (x1 < 61) → Q I D))))) :
    CV 33 [vR (some A), vI x1] e I D Q := by
  refine Call_run (ls := [vR (some A), vI x1, vJ]) rfl rfl ?_
  refine R_iload_n (pc' := 1) rfl rfl rfl ?_
  refine R_iconst (pc' := 2) rfl rfl ?_
  refine R_iclt (pc' := 5) rfl rfl (fun hc => ?_) (fun hc => ?_)
  · replace h := h.1 hc
    exact R_vret rfl rfl ⟨_, _, rfl, rfl, h⟩
  · replace h := h.2 hc
    refine R_iload_n (pc' := 6) rfl rfl rfl ?_
    refine R_aload_n (pc' := 7) rfl rfl rfl ?_
    refine K_getR (pc' := 10) rfl rfl rfl (kA hA 0 6 ⟨rfl, rfl⟩) (gA he hA 0 9 21 ⟨⟨rfl, rfl⟩, rfl, rfl⟩) ?_
    refine K_alen (pc' := 11) rfl rfl 4 (kA hA 21 25 ⟨rfl, rfl⟩) (by decide) (lA hA 21 61 ⟨rfl, rfl⟩) ?_
    refine R_iclt (pc' := 14) rfl rfl (fun hc => ?_) (fun hc => ?_)
    · replace h := h.1 hc
      refine R_aload_n (pc' := 16) rfl rfl rfl ?_
      refine K_getR (pc' := 19) rfl rfl rfl (kA hA 0 6 ⟨rfl, rfl⟩) (gA he hA 0 9 21 ⟨⟨rfl, rfl⟩, rfl, rfl⟩) ?_
      refine R_iload_n (pc' := 20) rfl rfl rfl ?_
      have g1 := h.1
      replace h := h.2
      refine K_aald (pc' := 21) rfl rfl (kA hA 21 25 ⟨rfl, rfl⟩) g1.1 (by rw [(lA hA 21 61 ⟨rfl, rfl⟩)]; exact g1.2) (dO hA (by have := g1.1; have := g1.2; omega)) ?_
      refine R_astore_n (ls' := [vR (some A), vI x1, vR (some (D (A + 21) (x1.toNat)))]) (pc' := 22) rfl rfl rfl ?_
      refine R_aload_n (pc' := 23) rfl rfl rfl ?_
      have g2 := h.1
      replace h := h.2
      refine K_getIN (pc' := 26) rfl rfl (by decide) g2 rfl ?_
      refine R_ifeq (pc' := 29) rfl rfl (fun hc => ?_) (fun hc => ?_)
      · replace h := h.1 hc
        refine R_aload_n (pc' := 64) rfl rfl rfl ?_
        refine R_dup (pc' := 65) rfl rfl rfl ?_
        refine K_getI (pc' := 68) rfl rfl (by decide) (kA hA 0 6 ⟨rfl, rfl⟩) rfl ?_
        refine R_iconst (pc' := 69) rfl rfl ?_
        have g3 := h.1
        replace h := h.2
        refine R_iadd (pc' := 70) rfl rfl g3 ?_
        refine K_putI (pc' := 73) rfl rfl (by decide) (fun h => absurd h (by decide)) (kA hA 0 6 ⟨rfl, rfl⟩) ?_
        exact h
      · replace h := h.2 hc
        refine R_aload_n (pc' := 30) rfl rfl rfl ?_
        refine R_iconst (pc' := 31) rfl rfl ?_
        refine R_aload_n (pc' := 32) rfl rfl rfl ?_
        refine K_getIN (pc' := 35) rfl rfl (by decide) g2 rfl ?_
        refine KV_iv (as := [vI 4, vI (I (D (A + 21) (x1.toNat)) 2)]) (rest := []) (pc' := 38) rfl rfl rfl (kA hA 0 6 ⟨rfl, rfl⟩) rfl (Nat.le_of_ble_eq_true rfl) rfl (CV_mono h ?_)
        intro I5 D6 h
        refine R_aload_n (pc' := 39) rfl rfl rfl ?_
        refine K_getR (pc' := 42) rfl rfl rfl (kA hA 0 6 ⟨rfl, rfl⟩) (gA he hA 0 6 14 ⟨⟨rfl, rfl⟩, rfl, rfl⟩) ?_
        refine R_iload_n (pc' := 43) rfl rfl rfl ?_
        refine R_aload_n (pc' := 44) rfl rfl rfl ?_
        refine K_getR (pc' := 47) rfl rfl rfl (kA hA 0 6 ⟨rfl, rfl⟩) (dy_at (dA hA 0 10 ⟨rfl, rfl⟩)) ?_
        have g7 := h.1
        replace h := h.2
        refine K_getIN (pc' := 50) rfl rfl (by decide) g7 rfl ?_
        refine R_aload_n (pc' := 51) rfl rfl rfl ?_
        refine K_getR (pc' := 54) rfl rfl rfl (kA hA 0 6 ⟨rfl, rfl⟩) (dy_at (dA hA 0 10 ⟨rfl, rfl⟩)) ?_
        refine K_getIN (pc' := 57) rfl rfl (by decide) g7 rfl ?_
        refine KV_iv (as := [vI x1, vI (I5 (D6 A 10) 2), vI (I5 (D6 A 10) 4)]) (rest := []) (pc' := 60) rfl rfl rfl (kA hA 14 4 ⟨rfl, rfl⟩) rfl (Nat.le_of_ble_eq_true rfl) rfl (CV_mono h ?_)
        intro I9 D10 h
        refine R_goto rfl ?_
        exact h
    · replace h := h.2 hc
      exact R_vret rfl rfl ⟨_, _, rfl, rfl, h⟩
theorem S33_73 {e : En} {I : HI} {D : HD} {Q : HI → HD → Prop} {A : Nat} {x1 : Int} {q2 : Nat} (he : HS e) (hA : isA A) (hq2 : K0 q2 = 3)
    (h : (K0 (D A 10) = 3) ∧ (0 ≤ x1 ∧ x1 < 61) ∧ Q (uI I (D A 10) 1 1) (uD (uD D (A + 21) (x1.toNat) (D A 10)) A 10 q2)) :
    RV 33 73 [vR (some A), vI x1, vR (some q2)] [] e I D Q := by
  show Run 33 73 [vR (some A), vI x1, vR (some q2)] [] (mk e I D) (pV e Q)
  refine R_aload_n (pc' := 74) rfl rfl rfl ?_
  refine K_getR (pc' := 77) rfl rfl rfl (kA hA 0 6 ⟨rfl, rfl⟩) (dy_at (dA hA 0 10 ⟨rfl, rfl⟩)) ?_
  refine R_iconst (pc' := 78) rfl rfl ?_
  have g1 := h.1
  replace h := h.2
  refine K_putIN (pc' := 81) rfl rfl (by decide) (fun _ => Or.inr rfl) g1 ?_
  refine R_aload_n (pc' := 82) rfl rfl rfl ?_
  refine K_getR (pc' := 85) rfl rfl rfl (kA hA 0 6 ⟨rfl, rfl⟩) (gA he hA 0 9 21 ⟨⟨rfl, rfl⟩, rfl, rfl⟩) ?_
  refine R_iload_n (pc' := 86) rfl rfl rfl ?_
  refine R_aload_n (pc' := 87) rfl rfl rfl ?_
  refine K_getR (pc' := 90) rfl rfl rfl (kA hA 0 6 ⟨rfl, rfl⟩) (dy_at (dA hA 0 10 ⟨rfl, rfl⟩)) ?_
  have g2 := h.1
  replace h := h.2
  refine K_aast (pc' := 91) rfl rfl (kA hA 21 25 ⟨rfl, rfl⟩) g2.1 (by rw [(lA hA 21 61 ⟨rfl, rfl⟩)]; exact g2.2) (dO hA (by have := g2.1; have := g2.2; omega)) g1 ?_
  refine R_aload_n (pc' := 92) rfl rfl rfl ?_
  refine R_aload_n (pc' := 93) rfl rfl rfl ?_
  refine K_putR (pc' := 96) rfl rfl rfl (kA hA 0 6 ⟨rfl, rfl⟩) (dA hA 0 10 ⟨rfl, rfl⟩) ?_
  exact R_vret rfl rfl ⟨_, _, rfl, rfl, h⟩
/-! 34 X5_takeTrailer -/
theorem S34 {e : En} {I : HI} {D : HD} {Q : HI → HD → Prop} {A : Nat} {x1 : Int} (he : HS e) (hA : isA A)
    (h : CI 55 [vR (some 1), vI x1] e I D (fun z1 I2 D3 => CI 53 [vR (some 1), vI z1] e I2 D3 (fun z4 I5 D6 => ((z4 = 9 → CI 4 [vR (some (A + 18)), vR (some (A + 20)), vI z1, vI 0] e I5 D6 (fun z7 I8 D9 => CV 12 [vR (some (A + 2)), vI (I5 (A + 2) 3)] e I8 D9 (fun I11 D12 => CV 12 [vR (some (A + 6)), vI (I5 (A + 6) 3)] e I11 D12 (fun I14 D15 => (((I14 (A + 20) 6) ≤ 0 → RV 34 92 [vR (some A), vJ, vJ, vJ, vJ] [] e I14 D15 Q) ∧ (¬ ((I14 (A + 20) 6) ≤ 0) → RV 34 92 [vR (some A), vJ, vJ, vJ, vJ] [] e (uI I14 A 13 (I14 (A + 20) 6)) D15 Q)))))) ∧ (¬ (z4 = 9) → Q I5 D6))))) :
    CV 34 [vR (some A), vI x1] e I D Q := by
  refine Call_run (ls := [vR (some A), vI x1, vJ, vJ, vJ]) rfl rfl ?_
  refine R_aload_n (pc' := 1) rfl rfl rfl ?_
  refine K_getR (pc' := 4) rfl rfl rfl (kA hA 0 6 ⟨rfl, rfl⟩) (gA1 he hA 0 ⟨⟨rfl, rfl⟩, rfl, rfl⟩) ?_
  refine R_iload_n (pc' := 5) rfl rfl rfl ?_
  refine KI_iv (as := [vI x1]) (rest := []) (pc' := 8) rfl rfl rfl rfl rfl (Nat.le_of_ble_eq_true rfl) rfl (CI_mono h ?_)
  intro z1 I2 D3 h
  refine R_istore_n (ls' := [vR (some A), vI x1, vI z1, vJ, vJ]) (pc' := 9) rfl rfl rfl ?_
  refine R_aload_n (pc' := 10) rfl rfl rfl ?_
  refine K_getR (pc' := 13) rfl rfl rfl (kA hA 0 6 ⟨rfl, rfl⟩) (gA1 he hA 0 ⟨⟨rfl, rfl⟩, rfl, rfl⟩) ?_
  refine R_iload_n (pc' := 14) rfl rfl rfl ?_
  refine KI_iv (as := [vI z1]) (rest := []) (pc' := 17) rfl rfl rfl rfl rfl (Nat.le_of_ble_eq_true rfl) rfl (CI_mono h ?_)
  intro z4 I5 D6 h
  refine R_bipush (pc' := 19) rfl rfl ?_
  refine R_iceq (pc' := 22) rfl rfl (fun hc => ?_) (fun hc => ?_)
  · replace h := h.1 hc
    refine R_aload_n (pc' := 24) rfl rfl rfl ?_
    refine K_getR (pc' := 27) rfl rfl rfl (kA hA 0 6 ⟨rfl, rfl⟩) (gA he hA 0 3 2 ⟨⟨rfl, rfl⟩, rfl, rfl⟩) ?_
    refine K_getIN (pc' := 30) rfl rfl (by decide) (kA hA 2 4 ⟨rfl, rfl⟩) rfl ?_
    refine R_istore_n (ls' := [vR (some A), vI x1, vI z1, vI (I5 (A + 2) 3), vJ]) (pc' := 31) rfl rfl rfl ?_
    refine R_aload_n (pc' := 32) rfl rfl rfl ?_
    refine K_getR (pc' := 35) rfl rfl rfl (kA hA 0 6 ⟨rfl, rfl⟩) (gA he hA 0 4 6 ⟨⟨rfl, rfl⟩, rfl, rfl⟩) ?_
    refine K_getIN (pc' := 38) rfl rfl (by decide) (kA hA 6 4 ⟨rfl, rfl⟩) rfl ?_
    refine R_istore (ls' := [vR (some A), vI x1, vI z1, vI (I5 (A + 2) 3), vI (I5 (A + 6) 3)]) (pc' := 40) rfl rfl rfl ?_
    refine R_aload_n (pc' := 41) rfl rfl rfl ?_
    refine K_getR (pc' := 44) rfl rfl rfl (kA hA 0 6 ⟨rfl, rfl⟩) (gA he hA 0 7 18 ⟨⟨rfl, rfl⟩, rfl, rfl⟩) ?_
    refine R_aload_n (pc' := 45) rfl rfl rfl ?_
    refine K_getR (pc' := 48) rfl rfl rfl (kA hA 0 6 ⟨rfl, rfl⟩) (gA he hA 0 8 20 ⟨⟨rfl, rfl⟩, rfl, rfl⟩) ?_
    refine R_iload_n (pc' := 49) rfl rfl rfl ?_
    refine R_iconst (pc' := 50) rfl rfl ?_
    refine KI_iv (as := [vR (some (A + 20)), vI z1, vI 0]) (rest := []) (pc' := 53) rfl rfl rfl (kA hA 18 2 ⟨rfl, rfl⟩) rfl (Nat.le_of_ble_eq_true rfl) rfl (CI_mono h ?_)
    intro z7 I8 D9 h
    refine R_pop (pc' := 54) rfl rfl rfl ?_
    refine R_aload_n (pc' := 55) rfl rfl rfl ?_
    refine K_getR (pc' := 58) rfl rfl rfl (kA hA 0 6 ⟨rfl, rfl⟩) (gA he hA 0 3 2 ⟨⟨rfl, rfl⟩, rfl, rfl⟩) ?_
    refine R_iload_n (pc' := 59) rfl rfl rfl ?_
    refine KV_iv (as := [vI (I5 (A + 2) 3)]) (rest := []) (pc' := 62) rfl rfl rfl (kA hA 2 4 ⟨rfl, rfl⟩) rfl (Nat.le_of_ble_eq_true rfl) rfl (CV_mono h ?_)
    intro I11 D12 h
    refine R_aload_n (pc' := 63) rfl rfl rfl ?_
    refine K_getR (pc' := 66) rfl rfl rfl (kA hA 0 6 ⟨rfl, rfl⟩) (gA he hA 0 4 6 ⟨⟨rfl, rfl⟩, rfl, rfl⟩) ?_
    refine R_iload (pc' := 68) rfl rfl rfl ?_
    refine KV_iv (as := [vI (I5 (A + 6) 3)]) (rest := []) (pc' := 71) rfl rfl rfl (kA hA 6 4 ⟨rfl, rfl⟩) rfl (Nat.le_of_ble_eq_true rfl) rfl (CV_mono h ?_)
    intro I14 D15 h
    refine R_aload_n (pc' := 72) rfl rfl rfl ?_
    refine K_getR (pc' := 75) rfl rfl rfl (kA hA 0 6 ⟨rfl, rfl⟩) (gA he hA 0 8 20 ⟨⟨rfl, rfl⟩, rfl, rfl⟩) ?_
    refine K_getIN (pc' := 78) rfl rfl (by decide) (kA hA 20 1 ⟨rfl, rfl⟩) rfl ?_
    refine R_ifle (pc' := 81) rfl rfl (fun hc => ?_) (fun hc => ?_)
    · replace h := h.1 hc
      exact R_forget (ls' := [vR (some A), vJ, vJ, vJ, vJ]) ⟨Or.inl rfl, Or.inr rfl, Or.inr rfl, Or.inr rfl, Or.inr rfl, trivial⟩ h
    · replace h := h.2 hc
      refine R_aload_n (pc' := 82) rfl rfl rfl ?_
      refine R_aload_n (pc' := 83) rfl rfl rfl ?_
      refine K_getR (pc' := 86) rfl rfl rfl (kA hA 0 6 ⟨rfl, rfl⟩) (gA he hA 0 8 20 ⟨⟨rfl, rfl⟩, rfl, rfl⟩) ?_
      refine K_getIN (pc' := 89) rfl rfl (by decide) (kA hA 20 1 ⟨rfl, rfl⟩) rfl ?_
      refine K_putI (pc' := 92) rfl rfl (by decide) (fun h => absurd h (by decide)) (kA hA 0 6 ⟨rfl, rfl⟩) ?_
      exact R_forget (ls' := [vR (some A), vJ, vJ, vJ, vJ]) ⟨Or.inl rfl, Or.inr rfl, Or.inr rfl, Or.inr rfl, Or.inr rfl, trivial⟩ h
  · replace h := h.2 hc
    exact R_vret rfl rfl ⟨_, _, rfl, rfl, h⟩
theorem S34_92 {e : En} {I : HI} {D : HD} {Q : HI → HD → Prop} {A : Nat} (he : HS e) (hA : isA A)
    (h : (((I (A + 20) 7) < 0 → Q I D) ∧ (¬ ((I (A + 20) 7) < 0) → Q (uI I A 14 (I (A + 20) 7)) D))) :
    RV 34 92 [vR (some A), vJ, vJ, vJ, vJ] [] e I D Q := by
  show Run 34 92 [vR (some A), vJ, vJ, vJ, vJ] [] (mk e I D) (pV e Q)
  refine R_aload_n (pc' := 93) rfl rfl rfl ?_
  refine K_getR (pc' := 96) rfl rfl rfl (kA hA 0 6 ⟨rfl, rfl⟩) (gA he hA 0 8 20 ⟨⟨rfl, rfl⟩, rfl, rfl⟩) ?_
  refine K_getIN (pc' := 99) rfl rfl (by decide) (kA hA 20 1 ⟨rfl, rfl⟩) rfl ?_
  refine R_iflt (pc' := 102) rfl rfl (fun hc => ?_) (fun hc => ?_)
  · replace h := h.1 hc
    exact R_vret rfl rfl ⟨_, _, rfl, rfl, h⟩
  · replace h := h.2 hc
    refine R_aload_n (pc' := 103) rfl rfl rfl ?_
    refine R_aload_n (pc' := 104) rfl rfl rfl ?_
    refine K_getR (pc' := 107) rfl rfl rfl (kA hA 0 6 ⟨rfl, rfl⟩) (gA he hA 0 8 20 ⟨⟨rfl, rfl⟩, rfl, rfl⟩) ?_
    refine K_getIN (pc' := 110) rfl rfl (by decide) (kA hA 20 1 ⟨rfl, rfl⟩) rfl ?_
    refine K_putI (pc' := 113) rfl rfl (by decide) (fun h => absurd h (by decide)) (kA hA 0 6 ⟨rfl, rfl⟩) ?_
    exact R_vret rfl rfl ⟨_, _, rfl, rfl, h⟩
/-! 35 X5_objectOf -/
theorem S35 {e : En} {I : HI} {D : HD} {Q : Option Nat → HI → HD → Prop} {A : Nat} {x1 : Int} (he : HS e) (hA : isA A)
    (h : ((x1 < 1 → Q none I D) ∧ (¬ (x1 < 1) → ((x1 < 61 → (0 ≤ x1 ∧ x1 < 61) ∧ (K0 (D (A + 21) (x1.toNat)) = 3) ∧ (((I (D (A + 21) (x1.toNat)) 1) = 0 → Q none I D) ∧ (¬ ((I (D (A + 21) (x1.toNat)) 1) = 0) → (0 ≤ x1 ∧ x1 < 61) ∧ Q (some (D (A + 21) (x1.toNat))) I D))) ∧ (¬ (x1 < 61) → Q none I D))))) :
    CR 35 [vR (some A), vI x1] e I D Q := by
  refine Call_run (ls := [vR (some A), vI x1]) rfl rfl ?_
  refine R_iload_n (pc' := 1) rfl rfl rfl ?_
  refine R_iconst (pc' := 2) rfl rfl ?_
  refine R_iclt (pc' := 5) rfl rfl (fun hc => ?_) (fun hc => ?_)
  · replace h := h.1 hc
    refine R_null (pc' := 15) rfl rfl ?_
    exact R_aret rfl _ rfl ⟨_, _, _, rfl, rfl, h⟩
  · replace h := h.2 hc
    refine R_iload_n (pc' := 6) rfl rfl rfl ?_
    refine R_aload_n (pc' := 7) rfl rfl rfl ?_
    refine K_getR (pc' := 10) rfl rfl rfl (kA hA 0 6 ⟨rfl, rfl⟩) (gA he hA 0 9 21 ⟨⟨rfl, rfl⟩, rfl, rfl⟩) ?_
    refine K_alen (pc' := 11) rfl rfl 4 (kA hA 21 25 ⟨rfl, rfl⟩) (by decide) (lA hA 21 61 ⟨rfl, rfl⟩) ?_
    refine R_iclt (pc' := 14) rfl rfl (fun hc => ?_) (fun hc => ?_)
    · replace h := h.1 hc
      refine R_aload_n (pc' := 17) rfl rfl rfl ?_
      refine K_getR (pc' := 20) rfl rfl rfl (kA hA 0 6 ⟨rfl, rfl⟩) (gA he hA 0 9 21 ⟨⟨rfl, rfl⟩, rfl, rfl⟩) ?_
      refine R_iload_n (pc' := 21) rfl rfl rfl ?_
      have g1 := h.1
      replace h := h.2
      refine K_aald (pc' := 22) rfl rfl (kA hA 21 25 ⟨rfl, rfl⟩) g1.1 (by rw [(lA hA 21 61 ⟨rfl, rfl⟩)]; exact g1.2) (dO hA (by have := g1.1; have := g1.2; omega)) ?_
      have g2 := h.1
      replace h := h.2
      refine K_getIN (pc' := 25) rfl rfl (by decide) g2 rfl ?_
      refine R_ifeq (pc' := 28) rfl rfl (fun hc => ?_) (fun hc => ?_)
      · replace h := h.1 hc
        refine R_null (pc' := 38) rfl rfl ?_
        exact R_aret rfl _ rfl ⟨_, _, _, rfl, rfl, h⟩
      · replace h := h.2 hc
        refine R_aload_n (pc' := 29) rfl rfl rfl ?_
        refine K_getR (pc' := 32) rfl rfl rfl (kA hA 0 6 ⟨rfl, rfl⟩) (gA he hA 0 9 21 ⟨⟨rfl, rfl⟩, rfl, rfl⟩) ?_
        refine R_iload_n (pc' := 33) rfl rfl rfl ?_
        have g3 := h.1
        replace h := h.2
        refine K_aald (pc' := 34) rfl rfl (kA hA 21 25 ⟨rfl, rfl⟩) g3.1 (by rw [(lA hA 21 61 ⟨rfl, rfl⟩)]; exact g3.2) (dO hA (by have := g3.1; have := g3.2; omega)) ?_
        refine R_goto rfl ?_
        exact R_aret rfl _ rfl ⟨_, _, _, rfl, rfl, h⟩
    · replace h := h.2 hc
      refine R_null (pc' := 15) rfl rfl ?_
      exact R_aret rfl _ rfl ⟨_, _, _, rfl, rfl, h⟩
/-! 36 X5_kindOf -/
theorem S36 {e : En} {I : HI} {D : HD} {Q : Int → HI → HD → Prop} {A : Nat} {x1 : Int} (he : HS e) (hA : isA A)
    (h : CR 35 [vR (some A), vI x1] e I D (fun z1 I2 D3 => ((z1 = none → Q 0 I2 D3) ∧ (∀ u4, z1 = some u4 → K0 u4 = 3 ∧ Q (I2 (u4 + 1) 3) I2 D3)))) :
    CI 36 [vR (some A), vI x1] e I D Q := by
  refine Call_run (ls := [vR (some A), vI x1, vJ]) rfl rfl ?_
  refine R_aload_n (pc' := 1) rfl rfl rfl ?_
  refine R_iload_n (pc' := 2) rfl rfl rfl ?_
  refine KR_iv (as := [vI x1]) (rest := []) (pc' := 5) rfl rfl rfl (kA hA 0 6 ⟨rfl, rfl⟩) rfl (Nat.le_of_ble_eq_true rfl) rfl (CR_mono h ?_)
  intro z1 I2 D3 h
  refine R_astore_n (ls' := [vR (some A), vI x1, vR z1]) (pc' := 6) rfl rfl rfl ?_
  refine R_aload_n (pc' := 7) rfl rfl rfl ?_
  refine R_ifnonnull (pc' := 10) rfl rfl (fun u4 hn => ?_) (fun hn => ?_)
  · replace h := h.2 u4 hn
    subst hn
    have hu5 := h.1
    replace h := h.2
    refine R_aload_n (pc' := 15) rfl rfl rfl ?_
    refine K_getRN (pc' := 18) rfl rfl rfl hu5 (gF0 he hu5) ?_
    refine K_getIN (pc' := 21) rfl rfl (by decide) (kF hu5).1 rfl ?_
    exact R_iret rfl rfl ⟨_, _, _, rfl, rfl, h⟩
  · replace h := h.1 hn
    subst hn
    refine R_iconst (pc' := 11) rfl rfl ?_
    refine R_goto rfl ?_
    exact R_iret rfl rfl ⟨_, _, _, rfl, rfl, h⟩
/-! 37 X5_byteAt -/
theorem S37 {e : En} {I : HI} {D : HD} {Q : Int → HI → HD → Prop} {A : Nat} {x1 : Int} (he : HS e) (hA : isA A)
    (h : ((x1 < 0 → Q (-1) I D) ∧ (¬ (x1 < 0) → (((I A 2) ≤ x1 → Q (-1) I D) ∧ (¬ ((I A 2) ≤ x1) → ((((L0 (A + 1)) : Int) ≤ x1 → Q (-1) I D) ∧ (¬ (((L0 (A + 1)) : Int) ≤ x1) → (0 ≤ x1 ∧ x1 < ((L0 (A + 1)) : Int)) ∧ Q ((I (A + 1) (x1.toNat)) % 256) I D))))))) :
    CI 37 [vR (some A), vI x1] e I D Q := by
  refine Call_run (ls := [vR (some A), vI x1]) rfl rfl ?_
  refine R_iload_n (pc' := 1) rfl rfl rfl ?_
  refine R_iflt (pc' := 4) rfl rfl (fun hc => ?_) (fun hc => ?_)
  · replace h := h.1 hc
    refine R_iconst (pc' := 35) rfl rfl ?_
    exact R_iret rfl rfl ⟨_, _, _, rfl, rfl, h⟩
  · replace h := h.2 hc
    refine R_iload_n (pc' := 5) rfl rfl rfl ?_
    refine R_aload_n (pc' := 6) rfl rfl rfl ?_
    refine K_getI (pc' := 9) rfl rfl (by decide) (kA hA 0 6 ⟨rfl, rfl⟩) rfl ?_
    refine R_icge (pc' := 12) rfl rfl (fun hc => ?_) (fun hc => ?_)
    · replace h := h.1 hc
      refine R_iconst (pc' := 35) rfl rfl ?_
      exact R_iret rfl rfl ⟨_, _, _, rfl, rfl, h⟩
    · replace h := h.2 hc
      refine R_iload_n (pc' := 13) rfl rfl rfl ?_
      refine R_aload_n (pc' := 14) rfl rfl rfl ?_
      refine K_getR (pc' := 17) rfl rfl rfl (kA hA 0 6 ⟨rfl, rfl⟩) (gA he hA 0 1 1 ⟨⟨rfl, rfl⟩, rfl, rfl⟩) ?_
      refine K_alen (pc' := 18) rfl rfl 1 (kA hA 1 22 ⟨rfl, rfl⟩) (by decide) rfl ?_
      refine R_icge (pc' := 21) rfl rfl (fun hc => ?_) (fun hc => ?_)
      · replace h := h.1 hc
        refine R_iconst (pc' := 35) rfl rfl ?_
        exact R_iret rfl rfl ⟨_, _, _, rfl, rfl, h⟩
      · replace h := h.2 hc
        refine R_aload_n (pc' := 22) rfl rfl rfl ?_
        refine K_getR (pc' := 25) rfl rfl rfl (kA hA 0 6 ⟨rfl, rfl⟩) (gA he hA 0 1 1 ⟨⟨rfl, rfl⟩, rfl, rfl⟩) ?_
        refine R_iload_n (pc' := 26) rfl rfl rfl ?_
        have g1 := h.1
        replace h := h.2
        refine K_bald (pc' := 27) rfl rfl (kA hA 1 22 ⟨rfl, rfl⟩) g1.1 g1.2 rfl ?_
        refine R_sipush (pc' := 30) rfl rfl ?_
        refine R_iand255 (pc' := 31) rfl rfl ?_
        refine R_goto rfl ?_
        exact R_iret rfl rfl ⟨_, _, _, rfl, rfl, h⟩
/-! 38 X5_tellReferencesToNothing -/
theorem S38 {e : En} {I : HI} {D : HD} {Q : HI → HD → Prop} {A : Nat} (he : HS e) (hA : isA A)
    (h : RV 38 2 [vR (some A), vI 1, vJ, vJ] [] e I D Q) :
    CV 38 [vR (some A)] e I D Q := by
  refine Call_run (ls := [vR (some A), vJ, vJ, vJ]) rfl rfl ?_
  refine R_iconst (pc' := 1) rfl rfl ?_
  refine R_istore_n (ls' := [vR (some A), vI 1, vJ, vJ]) (pc' := 2) rfl rfl rfl ?_
  exact h
theorem S38_2 {e : En} {I : HI} {D : HD} {Q : HI → HD → Prop} {A : Nat} {x1 : Int} (he : HS e) (hA : isA A)
    (h : (((60 : Int) < x1 → Q I D) ∧ (¬ ((60 : Int) < x1) → CR 35 [vR (some A), vI x1] e I D (fun z1 I2 D3 => ((z1 = none → RV 38 70 [vR (some A), vI x1, vJ, vJ] [] e I2 D3 Q) ∧ (∀ u4, z1 = some u4 → K0 u4 = 3 ∧ RV 38 29 [vR (some A), vI x1, vR (some u4), vI (I2 (u4 + 1) 10)] [] e I2 D3 Q)))))) :
    RV 38 2 [vR (some A), vI x1, vJ, vJ] [] e I D Q := by
  show Run 38 2 [vR (some A), vI x1, vJ, vJ] [] (mk e I D) (pV e Q)
  refine R_iload_n (pc' := 3) rfl rfl rfl ?_
  refine R_bipush (pc' := 5) rfl rfl ?_
  refine R_icgt (pc' := 8) rfl rfl (fun hc => ?_) (fun hc => ?_)
  · replace h := h.1 hc
    exact R_vret rfl rfl ⟨_, _, rfl, rfl, h⟩
  · replace h := h.2 hc
    refine R_aload_n (pc' := 9) rfl rfl rfl ?_
    refine R_iload_n (pc' := 10) rfl rfl rfl ?_
    refine KR_iv (as := [vI x1]) (rest := []) (pc' := 13) rfl rfl rfl (kA hA 0 6 ⟨rfl, rfl⟩) rfl (Nat.le_of_ble_eq_true rfl) rfl (CR_mono h ?_)
    intro z1 I2 D3 h
    refine R_astore_n (ls' := [vR (some A), vI x1, vR z1, vJ]) (pc' := 14) rfl rfl rfl ?_
    refine R_aload_n (pc' := 15) rfl rfl rfl ?_
    refine R_ifnonnull (pc' := 18) rfl rfl (fun u4 hn => ?_) (fun hn => ?_)
    · replace h := h.2 u4 hn
      subst hn
      have hu5 := h.1
      replace h := h.2
      refine R_aload_n (pc' := 22) rfl rfl rfl ?_
      refine K_getRN (pc' := 25) rfl rfl rfl hu5 (gF0 he hu5) ?_
      refine K_getIN (pc' := 28) rfl rfl (by decide) (kF hu5).1 rfl ?_
      refine R_istore_n (ls' := [vR (some A), vI x1, vR (some u4), vI (I2 (u4 + 1) 10)]) (pc' := 29) rfl rfl rfl ?_
      exact h
    · replace h := h.1 hn
      subst hn
      refine R_goto rfl ?_
      exact R_forget (ls' := [vR (some A), vI x1, vJ, vJ]) ⟨Or.inl rfl, Or.inl rfl, Or.inr rfl, Or.inl rfl, trivial⟩ h
theorem S38_29 {e : En} {I : HI} {D : HD} {Q : HI → HD → Prop} {A : Nat} {x1 : Int} {q2 : Nat} {x3 : Int} (he : HS e) (hA : isA A) (hq2 : K0 q2 = 3)
    (h : (((I (q2 + 1) 11) ≤ x3 → RV 38 70 [vR (some A), vI x1, vJ, vJ] [] e I D Q) ∧ (¬ ((I (q2 + 1) 11) ≤ x3) → CI 13 [vR (some (A + 2)), vI x3] e I D (fun z1 I2 D3 => CR 35 [vR (some A), vI z1] e I2 D3 (fun z4 I5 D6 => ((z4 = none → CV 26 [vR (some A), vI 5, vI (I5 q2 2)] e I5 D6 (fun I10 D11 => RV 38 64 [vR (some A), vI x1, vR (some q2), vI x3] [] e I10 D11 Q)) ∧ (∀ u7, z4 = some u7 → K0 u7 = 3 ∧ RV 38 64 [vR (some A), vI x1, vR (some q2), vI x3] [] e I5 D6 Q))))))) :
    RV 38 29 [vR (some A), vI x1, vR (some q2), vI x3] [] e I D Q := by
  show Run 38 29 [vR (some A), vI x1, vR (some q2), vI x3] [] (mk e I D) (pV e Q)
  refine R_iload_n (pc' := 30) rfl rfl rfl ?_
  refine R_aload_n (pc' := 31) rfl rfl rfl ?_
  refine K_getRN (pc' := 34) rfl rfl rfl hq2 (gF0 he hq2) ?_
  refine K_getIN (pc' := 37) rfl rfl (by decide) (kF hq2).1 rfl ?_
  refine R_icge (pc' := 40) rfl rfl (fun hc => ?_) (fun hc => ?_)
  · replace h := h.1 hc
    exact R_forget (ls' := [vR (some A), vI x1, vJ, vJ]) ⟨Or.inl rfl, Or.inl rfl, Or.inr rfl, Or.inr rfl, trivial⟩ h
  · replace h := h.2 hc
    refine R_aload_n (pc' := 41) rfl rfl rfl ?_
    refine R_aload_n (pc' := 42) rfl rfl rfl ?_
    refine K_getR (pc' := 45) rfl rfl rfl (kA hA 0 6 ⟨rfl, rfl⟩) (gA he hA 0 3 2 ⟨⟨rfl, rfl⟩, rfl, rfl⟩) ?_
    refine R_iload_n (pc' := 46) rfl rfl rfl ?_
    refine KI_iv (as := [vI x3]) (rest := [vR (some A)]) (pc' := 49) rfl rfl rfl (kA hA 2 4 ⟨rfl, rfl⟩) rfl (Nat.le_of_ble_eq_true rfl) rfl (CI_mono h ?_)
    intro z1 I2 D3 h
    refine KR_iv (as := [vI z1]) (rest := []) (pc' := 52) rfl rfl rfl (kA hA 0 6 ⟨rfl, rfl⟩) rfl (Nat.le_of_ble_eq_true rfl) rfl (CR_mono h ?_)
    intro z4 I5 D6 h
    refine R_ifnonnull (pc' := 55) rfl rfl (fun u7 hn => ?_) (fun hn => ?_)
    · replace h := h.2 u7 hn
      subst hn
      have hu8 := h.1
      replace h := h.2
      exact h
    · replace h := h.1 hn
      subst hn
      refine R_aload_n (pc' := 56) rfl rfl rfl ?_
      refine R_iconst (pc' := 57) rfl rfl ?_
      refine R_aload_n (pc' := 58) rfl rfl rfl ?_
      refine K_getIN (pc' := 61) rfl rfl (by decide) hq2 rfl ?_
      refine KV_iv (as := [vI 5, vI (I5 q2 2)]) (rest := []) (pc' := 64) rfl rfl rfl (kA hA 0 6 ⟨rfl, rfl⟩) rfl (Nat.le_of_ble_eq_true rfl) rfl (CV_mono h ?_)
      intro I10 D11 h
      exact h
theorem S38_64 {e : En} {I : HI} {D : HD} {Q : HI → HD → Prop} {A : Nat} {x1 : Int} {q2 : Nat} {x3 : Int} (he : HS e) (hA : isA A) (hq2 : K0 q2 = 3)
    (h : (-2147483648 ≤ (x3 + 1) ∧ (x3 + 1) < 2147483648) ∧ RV 38 29 [vR (some A), vI x1, vR (some q2), vI (x3 + 1)] [] e I D Q) :
    RV 38 64 [vR (some A), vI x1, vR (some q2), vI x3] [] e I D Q := by
  show Run 38 64 [vR (some A), vI x1, vR (some q2), vI x3] [] (mk e I D) (pV e Q)
  have g1 := h.1
  replace h := h.2
  refine R_iinc (ls' := [vR (some A), vI x1, vR (some q2), vI (x3 + 1)]) (pc' := 67) rfl rfl rfl g1 rfl ?_
  refine R_goto rfl ?_
  exact h
theorem S38_70 {e : En} {I : HI} {D : HD} {Q : HI → HD → Prop} {A : Nat} {x1 : Int} (he : HS e) (hA : isA A)
    (h : (-2147483648 ≤ (x1 + 1) ∧ (x1 + 1) < 2147483648) ∧ RV 38 2 [vR (some A), vI (x1 + 1), vJ, vJ] [] e I D Q) :
    RV 38 70 [vR (some A), vI x1, vJ, vJ] [] e I D Q := by
  show Run 38 70 [vR (some A), vI x1, vJ, vJ] [] (mk e I D) (pV e Q)
  have g1 := h.1
  replace h := h.2
  refine R_iinc (ls' := [vR (some A), vI (x1 + 1), vJ, vJ]) (pc' := 73) rfl rfl rfl g1 rfl ?_
  refine R_goto rfl ?_
  exact h
/-! 39 X5_chooseCatalogue -/
theorem S39 {e : En} {I : HI} {D : HD} {Q : HI → HD → Prop} {A : Nat} (he : HS e) (hA : isA A)
    (h : CI 36 [vR (some A), vI (I A 13)] e I D (fun z1 I2 D3 => ((¬ z1 = 1 → CV 26 [vR (some A), vI 6, vI 0] e I2 D3 (fun I5 D6 => CI 40 [vR (some A), vI 1] e I5 D6 (fun z7 I8 D9 => ((z7 ≤ 0 → CI 40 [vR (some A), vI 0] e I8 D9 (fun z10 I11 D12 => RV 39 48 [vR (some A), vJ, vJ] [vI z10, vR (some A)] e I11 D12 Q)) ∧ (¬ (z7 ≤ 0) → RV 39 48 [vR (some A), vJ, vJ] [vI z7, vR (some A)] e I8 D9 Q))))) ∧ (¬ (¬ z1 = 1) → Q (uI I2 A 15 (I2 A 13)) D3)))) :
    CV 39 [vR (some A)] e I D Q := by
  refine Call_run (ls := [vR (some A), vJ, vJ]) rfl rfl ?_
  refine R_aload_n (pc' := 1) rfl rfl rfl ?_
  refine R_aload_n (pc' := 2) rfl rfl rfl ?_
  refine K_getI (pc' := 5) rfl rfl (by decide) (kA hA 0 6 ⟨rfl, rfl⟩) rfl ?_
  refine KI_iv (as := [vI (I A 13)]) (rest := []) (pc' := 8) rfl rfl rfl (kA hA 0 6 ⟨rfl, rfl⟩) rfl (Nat.le_of_ble_eq_true rfl) rfl (CI_mono h ?_)
  intro z1 I2 D3 h
  refine R_iconst (pc' := 9) rfl rfl ?_
  refine R_icne (pc' := 12) rfl rfl (fun hc => ?_) (fun hc => ?_)
  · replace h := h.1 hc
    refine R_aload_n (pc' := 22) rfl rfl rfl ?_
    refine R_bipush (pc' := 24) rfl rfl ?_
    refine R_iconst (pc' := 25) rfl rfl ?_
    refine KV_iv (as := [vI 6, vI 0]) (rest := []) (pc' := 28) rfl rfl rfl (kA hA 0 6 ⟨rfl, rfl⟩) rfl (Nat.le_of_ble_eq_true rfl) rfl (CV_mono h ?_)
    intro I5 D6 h
    refine R_aload_n (pc' := 29) rfl rfl rfl ?_
    refine R_iconst (pc' := 30) rfl rfl ?_
    refine KI_iv (as := [vI 1]) (rest := []) (pc' := 33) rfl rfl rfl (kA hA 0 6 ⟨rfl, rfl⟩) rfl (Nat.le_of_ble_eq_true rfl) rfl (CI_mono h ?_)
    intro z7 I8 D9 h
    refine R_istore_n (ls' := [vR (some A), vI z7, vJ]) (pc' := 34) rfl rfl rfl ?_
    refine R_aload_n (pc' := 35) rfl rfl rfl ?_
    refine R_iload_n (pc' := 36) rfl rfl rfl ?_
    refine R_ifle (pc' := 39) rfl rfl (fun hc => ?_) (fun hc => ?_)
    · replace h := h.1 hc
      refine R_aload_n (pc' := 44) rfl rfl rfl ?_
      refine R_iconst (pc' := 45) rfl rfl ?_
      refine KI_iv (as := [vI 0]) (rest := [vR (some A)]) (pc' := 48) rfl rfl rfl (kA hA 0 6 ⟨rfl, rfl⟩) rfl (Nat.le_of_ble_eq_true rfl) rfl (CI_mono h ?_)
      intro z10 I11 D12 h
      exact R_forget (ls' := [vR (some A), vJ, vJ]) ⟨Or.inl rfl, Or.inr rfl, Or.inl rfl, trivial⟩ h
    · replace h := h.2 hc
      refine R_iload_n (pc' := 40) rfl rfl rfl ?_
      refine R_goto rfl ?_
      exact R_forget (ls' := [vR (some A), vJ, vJ]) ⟨Or.inl rfl, Or.inr rfl, Or.inl rfl, trivial⟩ h
  · replace h := h.2 hc
    refine R_aload_n (pc' := 13) rfl rfl rfl ?_
    refine R_aload_n (pc' := 14) rfl rfl rfl ?_
    refine K_getI (pc' := 17) rfl rfl (by decide) (kA hA 0 6 ⟨rfl, rfl⟩) rfl ?_
    refine K_putI (pc' := 20) rfl rfl (by decide) (fun h => absurd h (by decide)) (kA hA 0 6 ⟨rfl, rfl⟩) ?_
    exact R_vret rfl rfl ⟨_, _, rfl, rfl, h⟩
theorem S39_48 {e : En} {I : HI} {D : HD} {Q : HI → HD → Prop} {A : Nat} {y1 : Int} (he : HS e) (hA : isA A)
    (h : CR 35 [vR (some A), vI ((uI I A 15 y1) A 15)] e (uI I A 15 y1) D (fun z1 I2 D3 => ((z1 = none → Q I2 D3) ∧ (∀ u4, z1 = some u4 → K0 u4 = 3 ∧ CV 26 [vR (some A), vI 7, vI (I2 u4 2)] e I2 D3 (fun I7 D8 => Q I7 D8))))) :
    RV 39 48 [vR (some A), vJ, vJ] [vI y1, vR (some A)] e I D Q := by
  show Run 39 48 [vR (some A), vJ, vJ] [vI y1, vR (some A)] (mk e I D) (pV e Q)
  refine K_putI (pc' := 51) rfl rfl (by decide) (fun h => absurd h (by decide)) (kA hA 0 6 ⟨rfl, rfl⟩) ?_
  refine R_aload_n (pc' := 52) rfl rfl rfl ?_
  refine R_aload_n (pc' := 53) rfl rfl rfl ?_
  refine K_getI (pc' := 56) rfl rfl (by decide) (kA hA 0 6 ⟨rfl, rfl⟩) rfl ?_
  refine KR_iv (as := [vI ((uI I A 15 y1) A 15)]) (rest := []) (pc' := 59) rfl rfl rfl (kA hA 0 6 ⟨rfl, rfl⟩) rfl (Nat.le_of_ble_eq_true rfl) rfl (CR_mono h ?_)
  intro z1 I2 D3 h
  refine R_astore_n (ls' := [vR (some A), vJ, vR z1]) (pc' := 60) rfl rfl rfl ?_
  refine R_aload_n (pc' := 61) rfl rfl rfl ?_
  refine R_ifnull (pc' := 64) rfl rfl (fun hn => ?_) (fun u4 hn => ?_)
  · replace h := h.1 hn
    subst hn
    exact R_vret rfl rfl ⟨_, _, rfl, rfl, h⟩
  · replace h := h.2 u4 hn
    subst hn
    have hu5 := h.1
    replace h := h.2
    refine R_aload_n (pc' := 65) rfl rfl rfl ?_
    refine R_bipush (pc' := 67) rfl rfl ?_
    refine R_aload_n (pc' := 68) rfl rfl rfl ?_
    refine K_getIN (pc' := 71) rfl rfl (by decide) hu5 rfl ?_
    refine KV_iv (as := [vI 7, vI (I2 u4 2)]) (rest := []) (pc' := 74) rfl rfl rfl (kA hA 0 6 ⟨rfl, rfl⟩) rfl (Nat.le_of_ble_eq_true rfl) rfl (CV_mono h ?_)
    intro I7 D8 h
    exact R_vret rfl rfl ⟨_, _, rfl, rfl, h⟩
/-! 40 X5_lastCatalogue -/
theorem S40 {e : En} {I : HI} {D : HD} {Q : Int → HI → HD → Prop} {A : Nat} {x1 : Int} (he : HS e) (hA : isA A)
    (h : RI 40 7 [vR (some A), vI x1, vI 0, vI (-1), vI 1, vJ] [] e I D Q) :
    CI 40 [vR (some A), vI x1] e I D Q := by
  refine Call_run (ls := [vR (some A), vI x1, vJ, vJ, vJ, vJ]) rfl rfl ?_
  refine R_iconst (pc' := 1) rfl rfl ?_
  refine R_istore_n (ls' := [vR (some A), vI x1, vI 0, vJ, vJ, vJ]) (pc' := 2) rfl rfl rfl ?_
  refine R_iconst (pc' := 3) rfl rfl ?_
  refine R_istore_n (ls' := [vR (some A), vI x1, vI 0, vI (-1), vJ, vJ]) (pc' := 4) rfl rfl rfl ?_
  refine R_iconst (pc' := 5) rfl rfl ?_
  refine R_istore (ls' := [vR (some A), vI x1, vI 0, vI (-1), vI 1, vJ]) (pc' := 7) rfl rfl rfl ?_
  exact h
theorem S40_7 {e : En} {I : HI} {D : HD} {Q : Int → HI → HD → Prop} {A : Nat} {x1 : Int} {x2 : Int} {x3 : Int} {x4 : Int} (he : HS e) (hA : isA A)
    (h : (((60 : Int) < x4 → Q x2 I D) ∧ (¬ ((60 : Int) < x4) → CR 35 [vR (some A), vI x4] e I D (fun z1 I2 D3 => ((z1 = none → RI 40 80 [vR (some A), vI x1, vI x2, vI x3, vI x4, vJ] [] e I2 D3 Q) ∧ (∀ u4, z1 = some u4 → K0 u4 = 3 ∧ ((¬ (I2 (u4 + 1) 3) = 1 → RI 40 80 [vR (some A), vI x1, vI x2, vI x3, vI x4, vJ] [] e I2 D3 Q) ∧ (¬ (¬ (I2 (u4 + 1) 3) = 1) → ((x3 ≤ (I2 u4 2) → ((x1 = 0 → RI 40 71 [vR (some A), vI x1, vJ, vJ, vI x4, vR (some u4)] [] e I2 D3 Q) ∧ (¬ (x1 = 0) → CI 36 [vR (some A), vI (I2 (u4 + 1) 4)] e I2 D3 (fun z6 I7 D8 => ((¬ z6 = 2 → RI 40 80 [vR (some A), vI x1, vI x2, vI x3, vI x4, vJ] [] e I7 D8 Q) ∧ (¬ (¬ z6 = 2) → RI 40 71 [vR (some A), vI x1, vJ, vJ, vI x4, vR (some u4)] [] e I7 D8 Q)))))) ∧ (¬ (x3 ≤ (I2 u4 2)) → RI 40 80 [vR (some A), vI x1, vI x2, vI x3, vI x4, vJ] [] e I2 D3 Q)))))))))) :
    RI 40 7 [vR (some A), vI x1, vI x2, vI x3, vI x4, vJ] [] e I D Q := by
  show Run 40 7 [vR (some A), vI x1, vI x2, vI x3, vI x4, vJ] [] (mk e I D) (pI e Q)
  refine R_iload (pc' := 9) rfl rfl rfl ?_
  refine R_bipush (pc' := 11) rfl rfl ?_
  refine R_icgt (pc' := 14) rfl rfl (fun hc => ?_) (fun hc => ?_)
  · replace h := h.1 hc
    refine R_iload_n (pc' := 87) rfl rfl rfl ?_
    exact R_iret rfl rfl ⟨_, _, _, rfl, rfl, h⟩
  · replace h := h.2 hc
    refine R_aload_n (pc' := 15) rfl rfl rfl ?_
    refine R_iload (pc' := 17) rfl rfl rfl ?_
    refine KR_iv (as := [vI x4]) (rest := []) (pc' := 20) rfl rfl rfl (kA hA 0 6 ⟨rfl, rfl⟩) rfl (Nat.le_of_ble_eq_true rfl) rfl (CR_mono h ?_)
    intro z1 I2 D3 h
    refine R_astore (ls' := [vR (some A), vI x1, vI x2, vI x3, vI x4, vR z1]) (pc' := 22) rfl rfl rfl ?_
    refine R_aload (pc' := 24) rfl rfl rfl ?_
    refine R_ifnull (pc' := 27) rfl rfl (fun hn => ?_) (fun u4 hn => ?_)
    · replace h := h.1 hn
      subst hn
      exact R_forget (ls' := [vR (some A), vI x1, vI x2, vI x3, vI x4, vJ]) ⟨Or.inl rfl, Or.inl rfl, Or.inl rfl, Or.inl rfl, Or.inl rfl, Or.inr rfl, trivial⟩ h
    · replace h := h.2 u4 hn
      subst hn
      have hu5 := h.1
      replace h := h.2
      refine R_aload (pc' := 29) rfl rfl rfl ?_
      refine K_getRN (pc' := 32) rfl rfl rfl hu5 (gF0 he hu5) ?_
      refine K_getIN (pc' := 35) rfl rfl (by decide) (kF hu5).1 rfl ?_
      refine R_iconst (pc' := 36) rfl rfl ?_
      refine R_icne (pc' := 39) rfl rfl (fun hc => ?_) (fun hc => ?_)
      · replace h := h.1 hc
        exact R_forget (ls' := [vR (some A), vI x1, vI x2, vI x3, vI x4, vJ]) ⟨Or.inl rfl, Or.inl rfl, Or.inl rfl, Or.inl rfl, Or.inl rfl, Or.inr rfl, trivial⟩ h
      · replace h := h.2 hc
        refine R_aload (pc' := 41) rfl rfl rfl ?_
        refine K_getIN (pc' := 44) rfl rfl (by decide) hu5 rfl ?_
        refine R_iload_n (pc' := 45) rfl rfl rfl ?_
        refine R_icge (pc' := 48) rfl rfl (fun hc => ?_) (fun hc => ?_)
        · replace h := h.1 hc
          refine R_iload_n (pc' := 52) rfl rfl rfl ?_
          refine R_ifeq (pc' := 55) rfl rfl (fun hc => ?_) (fun hc => ?_)
          · replace h := h.1 hc
            exact R_forget (ls' := [vR (some A), vI x1, vJ, vJ, vI x4, vR (some u4)]) ⟨Or.inl rfl, Or.inl rfl, Or.inr rfl, Or.inr rfl, Or.inl rfl, Or.inl rfl, trivial⟩ h
          · replace h := h.2 hc
            refine R_aload_n (pc' := 56) rfl rfl rfl ?_
            refine R_aload (pc' := 58) rfl rfl rfl ?_
            refine K_getRN (pc' := 61) rfl rfl rfl hu5 (gF0 he hu5) ?_
            refine K_getIN (pc' := 64) rfl rfl (by decide) (kF hu5).1 rfl ?_
            refine KI_iv (as := [vI (I2 (u4 + 1) 4)]) (rest := []) (pc' := 67) rfl rfl rfl (kA hA 0 6 ⟨rfl, rfl⟩) rfl (Nat.le_of_ble_eq_true rfl) rfl (CI_mono h ?_)
            intro z6 I7 D8 h
            refine R_iconst (pc' := 68) rfl rfl ?_
            refine R_icne (pc' := 71) rfl rfl (fun hc => ?_) (fun hc => ?_)
            · replace h := h.1 hc
              exact R_forget (ls' := [vR (some A), vI x1, vI x2, vI x3, vI x4, vJ]) ⟨Or.inl rfl, Or.inl rfl, Or.inl rfl, Or.inl rfl, Or.inl rfl, Or.inr rfl, trivial⟩ h
            · replace h := h.2 hc
              exact R_forget (ls' := [vR (some A), vI x1, vJ, vJ, vI x4, vR (some u4)]) ⟨Or.inl rfl, Or.inl rfl, Or.inr rfl, Or.inr rfl, Or.inl rfl, Or.inl rfl, trivial⟩ h
        · replace h := h.2 hc
          refine R_goto rfl ?_
          exact R_forget (ls' := [vR (some A), vI x1, vI x2, vI x3, vI x4, vJ]) ⟨Or.inl rfl, Or.inl rfl, Or.inl rfl, Or.inl rfl, Or.inl rfl, Or.inr rfl, trivial⟩ h
theorem S40_71 {e : En} {I : HI} {D : HD} {Q : Int → HI → HD → Prop} {A : Nat} {x1 : Int} {x4 : Int} {q5 : Nat} (he : HS e) (hA : isA A) (hq5 : K0 q5 = 3)
    (h : RI 40 80 [vR (some A), vI x1, vI x4, vI (I q5 2), vI x4, vJ] [] e I D Q) :
    RI 40 71 [vR (some A), vI x1, vJ, vJ, vI x4, vR (some q5)] [] e I D Q := by
  show Run 40 71 [vR (some A), vI x1, vJ, vJ, vI x4, vR (some q5)] [] (mk e I D) (pI e Q)
  refine R_iload (pc' := 73) rfl rfl rfl ?_
  refine R_istore_n (ls' := [vR (some A), vI x1, vI x4, vJ, vI x4, vR (some q5)]) (pc' := 74) rfl rfl rfl ?_
  refine R_aload (pc' := 76) rfl rfl rfl ?_
  refine K_getIN (pc' := 79) rfl rfl (by decide) hq5 rfl ?_
  refine R_istore_n (ls' := [vR (some A), vI x1, vI x4, vI (I q5 2), vI x4, vR (some q5)]) (pc' := 80) rfl rfl rfl ?_
  exact R_forget (ls' := [vR (some A), vI x1, vI x4, vI (I q5 2), vI x4, vJ]) ⟨Or.inl rfl, Or.inl rfl, Or.inl rfl, Or.inl rfl, Or.inl rfl, Or.inr rfl, trivial⟩ h
theorem S40_80 {e : En} {I : HI} {D : HD} {Q : Int → HI → HD → Prop} {A : Nat} {x1 : Int} {x2 : Int} {x3 : Int} {x4 : Int} (he : HS e) (hA : isA A)
    (h : (-2147483648 ≤ (x4 + 1) ∧ (x4 + 1) < 2147483648) ∧ RI 40 7 [vR (some A), vI x1, vI x2, vI x3, vI (x4 + 1), vJ] [] e I D Q) :
    RI 40 80 [vR (some A), vI x1, vI x2, vI x3, vI x4, vJ] [] e I D Q := by
  show Run 40 80 [vR (some A), vI x1, vI x2, vI x3, vI x4, vJ] [] (mk e I D) (pI e Q)
  have g1 := h.1
  replace h := h.2
  refine R_iinc (ls' := [vR (some A), vI x1, vI x2, vI x3, vI (x4 + 1), vJ]) (pc' := 83) rfl rfl rfl g1 rfl ?_
  refine R_goto rfl ?_
  exact h
/-! 41 X5_choosePages -/
theorem S41 {e : En} {I : HI} {D : HD} {Q : HI → HD → Prop} {A : Nat} (he : HS e) (hA : isA A)
    (h : CV 17 [vR (some (A + 146))] e I D (fun I2 D3 => CR 35 [vR (some A), vI (I2 A 15)] e I2 D3 (fun z4 I5 D6 => ((z4 = none → RV 41 35 [vR (some A), vJ, vJ, vJ] [] e I5 D6 Q) ∧ (∀ u7, z4 = some u7 → K0 u7 = 3 ∧ CV 19 [vR (some (A + 146)), vR (some A), vI (I5 (u7 + 1) 4)] e I5 D6 (fun I10 D11 => RV 41 35 [vR (some A), vJ, vJ, vJ] [] e I10 D11 Q)))))) :
    CV 41 [vR (some A)] e I D Q := by
  refine Call_run (ls := [vR (some A), vJ, vJ, vJ]) rfl rfl ?_
  refine R_aload_n (pc' := 1) rfl rfl rfl ?_
  refine K_getR (pc' := 4) rfl rfl rfl (kA hA 0 6 ⟨rfl, rfl⟩) (gA he hA 0 16 146 ⟨⟨rfl, rfl⟩, rfl, rfl⟩) ?_
  refine KV_iv (as := []) (rest := []) (pc' := 7) rfl rfl rfl (kA hA 146 5 ⟨rfl, rfl⟩) rfl (Nat.le_of_ble_eq_true rfl) rfl (CV_mono h ?_)
  intro I2 D3 h
  refine R_aload_n (pc' := 8) rfl rfl rfl ?_
  refine R_aload_n (pc' := 9) rfl rfl rfl ?_
  refine K_getI (pc' := 12) rfl rfl (by decide) (kA hA 0 6 ⟨rfl, rfl⟩) rfl ?_
  refine KR_iv (as := [vI (I2 A 15)]) (rest := []) (pc' := 15) rfl rfl rfl (kA hA 0 6 ⟨rfl, rfl⟩) rfl (Nat.le_of_ble_eq_true rfl) rfl (CR_mono h ?_)
  intro z4 I5 D6 h
  refine R_astore_n (ls' := [vR (some A), vR z4, vJ, vJ]) (pc' := 16) rfl rfl rfl ?_
  refine R_aload_n (pc' := 17) rfl rfl rfl ?_
  refine R_ifnull (pc' := 20) rfl rfl (fun hn => ?_) (fun u7 hn => ?_)
  · replace h := h.1 hn
    subst hn
    exact R_forget (ls' := [vR (some A), vJ, vJ, vJ]) ⟨Or.inl rfl, Or.inr rfl, Or.inl rfl, Or.inl rfl, trivial⟩ h
  · replace h := h.2 u7 hn
    subst hn
    have hu8 := h.1
    replace h := h.2
    refine R_aload_n (pc' := 21) rfl rfl rfl ?_
    refine K_getR (pc' := 24) rfl rfl rfl (kA hA 0 6 ⟨rfl, rfl⟩) (gA he hA 0 16 146 ⟨⟨rfl, rfl⟩, rfl, rfl⟩) ?_
    refine R_aload_n (pc' := 25) rfl rfl rfl ?_
    refine R_aload_n (pc' := 26) rfl rfl rfl ?_
    refine K_getRN (pc' := 29) rfl rfl rfl hu8 (gF0 he hu8) ?_
    refine K_getIN (pc' := 32) rfl rfl (by decide) (kF hu8).1 rfl ?_
    refine KV_iv (as := [vR (some A), vI (I5 (u7 + 1) 4)]) (rest := []) (pc' := 35) rfl rfl rfl (kA hA 146 5 ⟨rfl, rfl⟩) rfl (Nat.le_of_ble_eq_true rfl) rfl (CV_mono h ?_)
    intro I10 D11 h
    exact R_forget (ls' := [vR (some A), vJ, vJ, vJ]) ⟨Or.inl rfl, Or.inr rfl, Or.inl rfl, Or.inl rfl, trivial⟩ h
theorem S41_35 {e : En} {I : HI} {D : HD} {Q : HI → HD → Prop} {A : Nat} (he : HS e) (hA : isA A)
    (h : RV 41 39 [vR (some A), vJ, vI 0, vI 1] [] e I D Q) :
    RV 41 35 [vR (some A), vJ, vJ, vJ] [] e I D Q := by
  show Run 41 35 [vR (some A), vJ, vJ, vJ] [] (mk e I D) (pV e Q)
  refine R_iconst (pc' := 36) rfl rfl ?_
  refine R_istore_n (ls' := [vR (some A), vJ, vI 0, vJ]) (pc' := 37) rfl rfl rfl ?_
  refine R_iconst (pc' := 38) rfl rfl ?_
  refine R_istore_n (ls' := [vR (some A), vJ, vI 0, vI 1]) (pc' := 39) rfl rfl rfl ?_
  exact h
theorem S41_39 {e : En} {I : HI} {D : HD} {Q : HI → HD → Prop} {A : Nat} {x2 : Int} {x3 : Int} (he : HS e) (hA : isA A)
    (h : (((60 : Int) < x3 → ((x2 = (I (A + 146) 1) → Q I D) ∧ (¬ (x2 = (I (A + 146) 1)) → CV 21 [vR (some (A + 146)), vR (some A)] e I D (fun I2 D3 => CV 26 [vR (some A), vI 8, vI 0] e I2 D3 (fun I5 D6 => Q I5 D6))))) ∧ (¬ ((60 : Int) < x3) → CI 36 [vR (some A), vI x3] e I D (fun z7 I8 D9 => ((¬ z7 = 3 → RV 41 60 [vR (some A), vJ, vJ, vI x3] [vI 0, vI x2] e I8 D9 Q) ∧ (¬ (¬ z7 = 3) → RV 41 60 [vR (some A), vJ, vJ, vI x3] [vI 1, vI x2] e I8 D9 Q)))))) :
    RV 41 39 [vR (some A), vJ, vI x2, vI x3] [] e I D Q := by
  show Run 41 39 [vR (some A), vJ, vI x2, vI x3] [] (mk e I D) (pV e Q)
  refine R_iload_n (pc' := 40) rfl rfl rfl ?_
  refine R_bipush (pc' := 42) rfl rfl ?_
  refine R_icgt (pc' := 45) rfl rfl (fun hc => ?_) (fun hc => ?_)
  · replace h := h.1 hc
    refine R_iload_n (pc' := 69) rfl rfl rfl ?_
    refine R_aload_n (pc' := 70) rfl rfl rfl ?_
    refine K_getR (pc' := 73) rfl rfl rfl (kA hA 0 6 ⟨rfl, rfl⟩) (gA he hA 0 16 146 ⟨⟨rfl, rfl⟩, rfl, rfl⟩) ?_
    refine K_getIN (pc' := 76) rfl rfl (by decide) (kA hA 146 5 ⟨rfl, rfl⟩) rfl ?_
    refine R_iceq (pc' := 79) rfl rfl (fun hc => ?_) (fun hc => ?_)
    · replace h := h.1 hc
      exact R_vret rfl rfl ⟨_, _, rfl, rfl, h⟩
    · replace h := h.2 hc
      refine R_aload_n (pc' := 80) rfl rfl rfl ?_
      refine K_getR (pc' := 83) rfl rfl rfl (kA hA 0 6 ⟨rfl, rfl⟩) (gA he hA 0 16 146 ⟨⟨rfl, rfl⟩, rfl, rfl⟩) ?_
      refine R_aload_n (pc' := 84) rfl rfl rfl ?_
      refine KV_iv (as := [vR (some A)]) (rest := []) (pc' := 87) rfl rfl rfl (kA hA 146 5 ⟨rfl, rfl⟩) rfl (Nat.le_of_ble_eq_true rfl) rfl (CV_mono h ?_)
      intro I2 D3 h
      refine R_aload_n (pc' := 88) rfl rfl rfl ?_
      refine R_bipush (pc' := 90) rfl rfl ?_
      refine R_iconst (pc' := 91) rfl rfl ?_
      refine KV_iv (as := [vI 8, vI 0]) (rest := []) (pc' := 94) rfl rfl rfl (kA hA 0 6 ⟨rfl, rfl⟩) rfl (Nat.le_of_ble_eq_true rfl) rfl (CV_mono h ?_)
      intro I5 D6 h
      exact R_vret rfl rfl ⟨_, _, rfl, rfl, h⟩
  · replace h := h.2 hc
    refine R_iload_n (pc' := 46) rfl rfl rfl ?_
    refine R_aload_n (pc' := 47) rfl rfl rfl ?_
    refine R_iload_n (pc' := 48) rfl rfl rfl ?_
    refine KI_iv (as := [vI x3]) (rest := [vI x2]) (pc' := 51) rfl rfl rfl (kA hA 0 6 ⟨rfl, rfl⟩) rfl (Nat.le_of_ble_eq_true rfl) rfl (CI_mono h ?_)
    intro z7 I8 D9 h
    refine R_iconst (pc' := 52) rfl rfl ?_
    refine R_icne (pc' := 55) rfl rfl (fun hc => ?_) (fun hc => ?_)
    · replace h := h.1 hc
      refine R_iconst (pc' := 60) rfl rfl ?_
      exact R_forget (ls' := [vR (some A), vJ, vJ, vI x3]) ⟨Or.inl rfl, Or.inl rfl, Or.inr rfl, Or.inl rfl, trivial⟩ h
    · replace h := h.2 hc
      refine R_iconst (pc' := 56) rfl rfl ?_
      refine R_goto rfl ?_
      exact R_forget (ls' := [vR (some A), vJ, vJ, vI x3]) ⟨Or.inl rfl, Or.inl rfl, Or.inr rfl, Or.inl rfl, trivial⟩ h
theorem S41_60 {e : En} {I : HI} {D : HD} {Q : HI → HD → Prop} {A : Nat} {x3 : Int} {y0 : Int} {y1 : Int} (he : HS e) (hA : isA A)
    (h : (-2147483648 ≤ (y0 + y1) ∧ (y0 + y1) < 2147483648) ∧ (-2147483648 ≤ (x3 + 1) ∧ (x3 + 1) < 2147483648) ∧ RV 41 39 [vR (some A), vJ, vI (y0 + y1), vI (x3 + 1)] [] e I D Q) :
    RV 41 60 [vR (some A), vJ, vJ, vI x3] [vI y1, vI y0] e I D Q := by
  show Run 41 60 [vR (some A), vJ, vJ, vI x3] [vI y1, vI y0] (mk e I D) (pV e Q)
  have g1 := h.1
  replace h := h.2
  refine R_iadd (pc' := 61) rfl rfl g1 ?_
  refine R_istore_n (ls' := [vR (some A), vJ, vI (y0 + y1), vI x3]) (pc' := 62) rfl rfl rfl ?_
  have g2 := h.1
  replace h := h.2
  refine R_iinc (ls' := [vR (some A), vJ, vI (y0 + y1), vI (x3 + 1)]) (pc' := 65) rfl rfl rfl g2 rfl ?_
  refine R_goto rfl ?_
  exact h
end
section
/-! what the code of each method does: printed by wip/whole/gen/decomp.py -/
/-! 60 X7_byteAt -/
theorem S60 {e : En} {I : HI} {D : HD} {Q : Int → HI → HD → Prop} {x1 : Int} (he : HS e)
    (h : ((x1 < 0 → Q (-1) I D) ∧ (¬ (x1 < 0) → (((I 310 1) ≤ x1 → Q (-1) I D) ∧ (¬ ((I 310 1) ≤ x1) → (((3000 : Int) ≤ x1 → Q (-1) I D) ∧ (¬ ((3000 : Int) ≤ x1) → (0 ≤ x1 ∧ x1 < 3000) ∧ Q ((I 311 (x1.toNat)) % 256) I D))))))) :
    CI 60 [vR (some 310), vI x1] e I D Q := by
  refine Call_run (ls := [vR (some 310), vI x1]) rfl rfl ?_
  refine R_iload_n (pc' := 1) rfl rfl rfl ?_
  refine R_iflt (pc' := 4) rfl rfl (fun hc => ?_) (fun hc => ?_)
  · replace h := h.1 hc
    refine R_iconst (pc' := 35) rfl rfl ?_
    exact R_iret rfl rfl ⟨_, _, _, rfl, rfl, h⟩
  · replace h := h.2 hc
    refine R_iload_n (pc' := 5) rfl rfl rfl ?_
    refine R_aload_n (pc' := 6) rfl rfl rfl ?_
    refine K_getI (pc' := 9) rfl rfl (by decide) rfl rfl ?_
    refine R_icge (pc' := 12) rfl rfl (fun hc => ?_) (fun hc => ?_)
    · replace h := h.1 hc
      refine R_iconst (pc' := 35) rfl rfl ?_
      exact R_iret rfl rfl ⟨_, _, _, rfl, rfl, h⟩
    · replace h := h.2 hc
      refine R_iload_n (pc' := 13) rfl rfl rfl ?_
      refine R_aload_n (pc' := 14) rfl rfl rfl ?_
      refine K_getR (pc' := 17) rfl rfl rfl rfl (st_at he rfl rfl (by decide)) ?_
      refine K_alen (pc' := 18) rfl rfl 1 rfl (by decide) rfl ?_
      refine R_icge (pc' := 21) rfl rfl (fun hc => ?_) (fun hc => ?_)
      · replace h := h.1 hc
        refine R_iconst (pc' := 35) rfl rfl ?_
        exact R_iret rfl rfl ⟨_, _, _, rfl, rfl, h⟩
      · replace h := h.2 hc
        refine R_aload_n (pc' := 22) rfl rfl rfl ?_
        refine K_getR (pc' := 25) rfl rfl rfl rfl (st_at he rfl rfl (by decide)) ?_
        refine R_iload_n (pc' := 26) rfl rfl rfl ?_
        have g1 := h.1
        replace h := h.2
        refine K_bald (pc' := 27) rfl rfl rfl g1.1 g1.2 rfl ?_
        refine R_sipush (pc' := 30) rfl rfl ?_
        refine R_iand255 (pc' := 31) rfl rfl ?_
        refine R_goto rfl ?_
        exact R_iret rfl rfl ⟨_, _, _, rfl, rfl, h⟩
/-! 61 X7_writeAll -/
theorem S61 {e : En} {I : HI} {D : HD} {Q : HI → HD → Prop} {A : Nat} (he : HS e) (hA : isA A)
    (h : CV 67 [vR (some 310), vS 0] e (uI I 310 1 0) D (fun I2 D3 => RV 61 13 [vR (some 310), vR (some A), vI 1, vJ] [] e I2 D3 Q)) :
    CV 61 [vR (some 310), vR (some A)] e I D Q := by
  refine Call_run (ls := [vR (some 310), vR (some A), vJ, vJ]) rfl rfl ?_
  refine R_aload_n (pc' := 1) rfl rfl rfl ?_
  refine R_iconst (pc' := 2) rfl rfl ?_
  refine K_putI (pc' := 5) rfl rfl (by decide) (fun h => absurd h (by decide)) rfl ?_
  refine R_aload_n (pc' := 6) rfl rfl rfl ?_
  refine R_ldcS (pc' := 8) rfl rfl ?_
  refine KV_iv (as := [vS 0]) (rest := []) (pc' := 11) rfl rfl rfl rfl rfl (Nat.le_of_ble_eq_true rfl) rfl (CV_mono h ?_)
  intro I2 D3 h
  refine R_iconst (pc' := 12) rfl rfl ?_
  refine R_istore_n (ls' := [vR (some 310), vR (some A), vI 1, vJ]) (pc' := 13) rfl rfl rfl ?_
  exact h
theorem S61_13 {e : En} {I : HI} {D : HD} {Q : HI → HD → Prop} {A : Nat} {x2 : Int} (he : HS e) (hA : isA A)
    (h : (((60 : Int) < x2 → (((I A 15) ≤ 0 → Q I D) ∧ (¬ ((I A 15) ≤ 0) → CV 67 [vR (some 310), vS 8] e I D (fun I2 D3 => CV 68 [vR (some 310), vI (I2 A 15)] e I2 D3 (fun I5 D6 => CV 67 [vR (some 310), vS 9] e I5 D6 (fun I8 D9 => Q I8 D9)))))) ∧ (¬ ((60 : Int) < x2) → CR 35 [vR (some A), vI x2] e I D (fun z10 I11 D12 => ((z10 = none → RV 61 36 [vR (some 310), vR (some A), vI x2, vJ] [] e I11 D12 Q) ∧ (∀ u13, z10 = some u13 → K0 u13 = 3 ∧ CV 62 [vR (some 310), vR (some A), vR (some u13), vI x2] e I11 D12 (fun I16 D17 => RV 61 36 [vR (some 310), vR (some A), vI x2, vJ] [] e I16 D17 Q))))))) :
    RV 61 13 [vR (some 310), vR (some A), vI x2, vJ] [] e I D Q := by
  show Run 61 13 [vR (some 310), vR (some A), vI x2, vJ] [] (mk e I D) (pV e Q)
  refine R_iload_n (pc' := 14) rfl rfl rfl ?_
  refine R_bipush (pc' := 16) rfl rfl ?_
  refine R_icgt (pc' := 19) rfl rfl (fun hc => ?_) (fun hc => ?_)
  · replace h := h.1 hc
    refine R_aload_n (pc' := 43) rfl rfl rfl ?_
    refine K_getIN (pc' := 46) rfl rfl (by decide) (kA hA 0 6 ⟨rfl, rfl⟩) rfl ?_
    refine R_ifle (pc' := 49) rfl rfl (fun hc => ?_) (fun hc => ?_)
    · replace h := h.1 hc
      exact R_vret rfl rfl ⟨_, _, rfl, rfl, h⟩
    · replace h := h.2 hc
      refine R_aload_n (pc' := 50) rfl rfl rfl ?_
      refine R_ldcS (pc' := 52) rfl rfl ?_
      refine KV_iv (as := [vS 8]) (rest := []) (pc' := 55) rfl rfl rfl rfl rfl (Nat.le_of_ble_eq_true rfl) rfl (CV_mono h ?_)
      intro I2 D3 h
      refine R_aload_n (pc' := 56) rfl rfl rfl ?_
      refine R_aload_n (pc' := 57) rfl rfl rfl ?_
      refine K_getIN (pc' := 60) rfl rfl (by decide) (kA hA 0 6 ⟨rfl, rfl⟩) rfl ?_
      refine KV_iv (as := [vI (I2 A 15)]) (rest := []) (pc' := 63) rfl rfl rfl rfl rfl (Nat.le_of_ble_eq_true rfl) rfl (CV_mono h ?_)
      intro I5 D6 h
      refine R_aload_n (pc' := 64) rfl rfl rfl ?_
      refine R_ldcS (pc' := 66) rfl rfl ?_
      refine KV_iv (as := [vS 9]) (rest := []) (pc' := 69) rfl rfl rfl rfl rfl (Nat.le_of_ble_eq_true rfl) rfl (CV_mono h ?_)
      intro I8 D9 h
      exact R_vret rfl rfl ⟨_, _, rfl, rfl, h⟩
  · replace h := h.2 hc
    refine R_aload_n (pc' := 20) rfl rfl rfl ?_
    refine R_iload_n (pc' := 21) rfl rfl rfl ?_
    refine KR_iv (as := [vI x2]) (rest := []) (pc' := 24) rfl rfl rfl (kA hA 0 6 ⟨rfl, rfl⟩) rfl (Nat.le_of_ble_eq_true rfl) rfl (CR_mono h ?_)
    intro z10 I11 D12 h
    refine R_astore_n (ls' := [vR (some 310), vR (some A), vI x2, vR z10]) (pc' := 25) rfl rfl rfl ?_
    refine R_aload_n (pc' := 26) rfl rfl rfl ?_
    refine R_ifnull (pc' := 29) rfl rfl (fun hn => ?_) (fun u13 hn => ?_)
    · replace h := h.1 hn
      subst hn
      exact R_forget (ls' := [vR (some 310), vR (some A), vI x2, vJ]) ⟨Or.inl rfl, Or.inl rfl, Or.inl rfl, Or.inr rfl, trivial⟩ h
    · replace h := h.2 u13 hn
      subst hn
      have hu14 := h.1
      replace h := h.2
      refine R_aload_n (pc' := 30) rfl rfl rfl ?_
      refine R_aload_n (pc' := 31) rfl rfl rfl ?_
      refine R_aload_n (pc' := 32) rfl rfl rfl ?_
      refine R_iload_n (pc' := 33) rfl rfl rfl ?_
      refine KV_iv (as := [vR (some A), vR (some u13), vI x2]) (rest := []) (pc' := 36) rfl rfl rfl rfl rfl (Nat.le_of_ble_eq_true rfl) rfl (CV_mono h ?_)
      intro I16 D17 h
      exact R_forget (ls' := [vR (some 310), vR (some A), vI x2, vJ]) ⟨Or.inl rfl, Or.inl rfl, Or.inl rfl, Or.inr rfl, trivial⟩ h
theorem S61_36 {e : En} {I : HI} {D : HD} {Q : HI → HD → Prop} {A : Nat} {x2 : Int} (he : HS e) (hA : isA A)
    (h : (-2147483648 ≤ (x2 + 1) ∧ (x2 + 1) < 2147483648) ∧ RV 61 13 [vR (some 310), vR (some A), vI (x2 + 1), vJ] [] e I D Q) :
    RV 61 36 [vR (some 310), vR (some A), vI x2, vJ] [] e I D Q := by
  show Run 61 36 [vR (some 310), vR (some A), vI x2, vJ] [] (mk e I D) (pV e Q)
  have g1 := h.1
  replace h := h.2
  refine R_iinc (ls' := [vR (some 310), vR (some A), vI (x2 + 1), vJ]) (pc' := 39) rfl rfl rfl g1 rfl ?_
  refine R_goto rfl ?_
  exact h
/-! 62 X7_writeObject -/
theorem S62 {e : En} {I : HI} {D : HD} {Q : HI → HD → Prop} {A : Nat} {q2 : Nat} {x3 : Int} (he : HS e) (hA : isA A) (hq2 : K0 q2 = 3)
    (h : CV 68 [vR (some 310), vI x3] e I D (fun I2 D3 => CV 67 [vR (some 310), vS 1] e I2 D3 (fun I5 D6 => (((I5 q2 6) = 0 → CV 63 [vR (some 310), vR (some A), vR (some q2)] e I5 D6 (fun I8 D9 => RV 62 33 [vR (some 310), vJ, vJ, vJ] [] e I8 D9 Q)) ∧ (¬ ((I5 q2 6) = 0) → CV 64 [vR (some 310), vR (some A), vR (some q2)] e I5 D6 (fun I11 D12 => RV 62 33 [vR (some 310), vJ, vJ, vJ] [] e I11 D12 Q)))))) :
    CV 62 [vR (some 310), vR (some A), vR (some q2), vI x3] e I D Q := by
  refine Call_run (ls := [vR (some 310), vR (some A), vR (some q2), vI x3]) rfl rfl ?_
  refine R_aload_n (pc' := 1) rfl rfl rfl ?_
  refine R_iload_n (pc' := 2) rfl rfl rfl ?_
  refine KV_iv (as := [vI x3]) (rest := []) (pc' := 5) rfl rfl rfl rfl rfl (Nat.le_of_ble_eq_true rfl) rfl (CV_mono h ?_)
  intro I2 D3 h
  refine R_aload_n (pc' := 6) rfl rfl rfl ?_
  refine R_ldcS (pc' := 8) rfl rfl ?_
  refine KV_iv (as := [vS 1]) (rest := []) (pc' := 11) rfl rfl rfl rfl rfl (Nat.le_of_ble_eq_true rfl) rfl (CV_mono h ?_)
  intro I5 D6 h
  refine R_aload_n (pc' := 12) rfl rfl rfl ?_
  refine K_getIN (pc' := 15) rfl rfl (by decide) hq2 rfl ?_
  refine R_ifeq (pc' := 18) rfl rfl (fun hc => ?_) (fun hc => ?_)
  · replace h := h.1 hc
    refine R_aload_n (pc' := 28) rfl rfl rfl ?_
    refine R_aload_n (pc' := 29) rfl rfl rfl ?_
    refine R_aload_n (pc' := 30) rfl rfl rfl ?_
    refine KV_iv (as := [vR (some A), vR (some q2)]) (rest := []) (pc' := 33) rfl rfl rfl rfl rfl (Nat.le_of_ble_eq_true rfl) rfl (CV_mono h ?_)
    intro I8 D9 h
    exact R_forget (ls' := [vR (some 310), vJ, vJ, vJ]) ⟨Or.inl rfl, Or.inr rfl, Or.inr rfl, Or.inr rfl, trivial⟩ h
  · replace h := h.2 hc
    refine R_aload_n (pc' := 19) rfl rfl rfl ?_
    refine R_aload_n (pc' := 20) rfl rfl rfl ?_
    refine R_aload_n (pc' := 21) rfl rfl rfl ?_
    refine KV_iv (as := [vR (some A), vR (some q2)]) (rest := []) (pc' := 24) rfl rfl rfl rfl rfl (Nat.le_of_ble_eq_true rfl) rfl (CV_mono h ?_)
    intro I11 D12 h
    refine R_goto rfl ?_
    exact R_forget (ls' := [vR (some 310), vJ, vJ, vJ]) ⟨Or.inl rfl, Or.inr rfl, Or.inr rfl, Or.inr rfl, trivial⟩ h
theorem S62_33 {e : En} {I : HI} {D : HD} {Q : HI → HD → Prop} (he : HS e)
    (h : CV 67 [vR (some 310), vS 7] e I D (fun I2 D3 => Q I2 D3)) :
    RV 62 33 [vR (some 310), vJ, vJ, vJ] [] e I D Q := by
  show Run 62 33 [vR (some 310), vJ, vJ, vJ] [] (mk e I D) (pV e Q)
  refine R_aload_n (pc' := 34) rfl rfl rfl ?_
  refine R_ldcS (pc' := 36) rfl rfl ?_
  refine KV_iv (as := [vS 7]) (rest := []) (pc' := 39) rfl rfl rfl rfl rfl (Nat.le_of_ble_eq_true rfl) rfl (CV_mono h ?_)
  intro I2 D3 h
  exact R_vret rfl rfl ⟨_, _, rfl, rfl, h⟩
/-! 63 X7_writePlain -/
theorem S63 {e : En} {I : HI} {D : HD} {Q : HI → HD → Prop} {A : Nat} {q2 : Nat} (he : HS e) (hA : isA A) (hq2 : K0 q2 = 3)
    (h : RV 63 11 [vR (some 310), vR (some A), vR (some q2), vI (I q2 3), vI (I q2 4)] [] e I D Q) :
    CV 63 [vR (some 310), vR (some A), vR (some q2)] e I D Q := by
  refine Call_run (ls := [vR (some 310), vR (some A), vR (some q2), vJ, vJ]) rfl rfl ?_
  refine R_aload_n (pc' := 1) rfl rfl rfl ?_
  refine K_getIN (pc' := 4) rfl rfl (by decide) hq2 rfl ?_
  refine R_istore_n (ls' := [vR (some 310), vR (some A), vR (some q2), vI (I q2 3), vJ]) (pc' := 5) rfl rfl rfl ?_
  refine R_aload_n (pc' := 6) rfl rfl rfl ?_
  refine K_getIN (pc' := 9) rfl rfl (by decide) hq2 rfl ?_
  refine R_istore (ls' := [vR (some 310), vR (some A), vR (some q2), vI (I q2 3), vI (I q2 4)]) (pc' := 11) rfl rfl rfl ?_
  exact h
theorem S63_11 {e : En} {I : HI} {D : HD} {Q : HI → HD → Prop} {A : Nat} {q2 : Nat} {x3 : Int} {x4 : Int} (he : HS e) (hA : isA A) (hq2 : K0 q2 = 3)
    (h : ((x4 ≤ x3 → RV 63 33 [vR (some 310), vR (some A), vR (some q2), vI x3, vI x4] [] e I D Q) ∧ (¬ (x4 ≤ x3) → CI 37 [vR (some A), vI x3] e I D (fun z1 I2 D3 => (((32 : Int) < z1 → RV 63 33 [vR (some 310), vR (some A), vR (some q2), vI x3, vI x4] [] e I2 D3 Q) ∧ (¬ ((32 : Int) < z1) → (-2147483648 ≤ (x3 + 1) ∧ (x3 + 1) < 2147483648) ∧ RV 63 11 [vR (some 310), vR (some A), vR (some q2), vI (x3 + 1), vI x4] [] e I2 D3 Q)))))) :
    RV 63 11 [vR (some 310), vR (some A), vR (some q2), vI x3, vI x4] [] e I D Q := by
  show Run 63 11 [vR (some 310), vR (some A), vR (some q2), vI x3, vI x4] [] (mk e I D) (pV e Q)
  refine R_iload_n (pc' := 12) rfl rfl rfl ?_
  refine R_iload (pc' := 14) rfl rfl rfl ?_
  refine R_icge (pc' := 17) rfl rfl (fun hc => ?_) (fun hc => ?_)
  · replace h := h.1 hc
    exact h
  · replace h := h.2 hc
    refine R_aload_n (pc' := 18) rfl rfl rfl ?_
    refine R_iload_n (pc' := 19) rfl rfl rfl ?_
    refine KI_iv (as := [vI x3]) (rest := []) (pc' := 22) rfl rfl rfl (kA hA 0 6 ⟨rfl, rfl⟩) rfl (Nat.le_of_ble_eq_true rfl) rfl (CI_mono h ?_)
    intro z1 I2 D3 h
    refine R_bipush (pc' := 24) rfl rfl ?_
    refine R_icgt (pc' := 27) rfl rfl (fun hc => ?_) (fun hc => ?_)
    · replace h := h.1 hc
      exact h
    · replace h := h.2 hc
      have g4 := h.1
      replace h := h.2
      refine R_iinc (ls' := [vR (some 310), vR (some A), vR (some q2), vI (x3 + 1), vI x4]) (pc' := 30) rfl rfl rfl g4 rfl ?_
      refine R_goto rfl ?_
      exact h
theorem S63_33 {e : En} {I : HI} {D : HD} {Q : HI → HD → Prop} {A : Nat} {q2 : Nat} {x3 : Int} {x4 : Int} (he : HS e) (hA : isA A) (hq2 : K0 q2 = 3)
    (h : ((x4 ≤ x3 → RV 63 58 [vR (some 310), vR (some A), vR (some q2), vI x3, vI x4] [] e I D Q) ∧ (¬ (x4 ≤ x3) → (-2147483648 ≤ (x4 - 1) ∧ (x4 - 1) < 2147483648) ∧ CI 37 [vR (some A), vI (x4 - 1)] e I D (fun z2 I3 D4 => (((32 : Int) < z2 → RV 63 58 [vR (some 310), vR (some A), vR (some q2), vI x3, vI x4] [] e I3 D4 Q) ∧ (¬ ((32 : Int) < z2) → (-2147483648 ≤ (x4 + (-1)) ∧ (x4 + (-1)) < 2147483648) ∧ RV 63 33 [vR (some 310), vR (some A), vR (some q2), vI x3, vI (x4 + (-1))] [] e I3 D4 Q)))))) :
    RV 63 33 [vR (some 310), vR (some A), vR (some q2), vI x3, vI x4] [] e I D Q := by
  show Run 63 33 [vR (some 310), vR (some A), vR (some q2), vI x3, vI x4] [] (mk e I D) (pV e Q)
  refine R_iload_n (pc' := 34) rfl rfl rfl ?_
  refine R_iload (pc' := 36) rfl rfl rfl ?_
  refine R_icge (pc' := 39) rfl rfl (fun hc => ?_) (fun hc => ?_)
  · replace h := h.1 hc
    exact h
  · replace h := h.2 hc
    refine R_aload_n (pc' := 40) rfl rfl rfl ?_
    refine R_iload (pc' := 42) rfl rfl rfl ?_
    refine R_iconst (pc' := 43) rfl rfl ?_
    have g1 := h.1
    replace h := h.2
    refine R_isub (pc' := 44) rfl rfl g1 ?_
    refine KI_iv (as := [vI (x4 - 1)]) (rest := []) (pc' := 47) rfl rfl rfl (kA hA 0 6 ⟨rfl, rfl⟩) rfl (Nat.le_of_ble_eq_true rfl) rfl (CI_mono h ?_)
    intro z2 I3 D4 h
    refine R_bipush (pc' := 49) rfl rfl ?_
    refine R_icgt (pc' := 52) rfl rfl (fun hc => ?_) (fun hc => ?_)
    · replace h := h.1 hc
      exact h
    · replace h := h.2 hc
      have g5 := h.1
      replace h := h.2
      refine R_iinc (ls' := [vR (some 310), vR (some A), vR (some q2), vI x3, vI (x4 + (-1))]) (pc' := 55) rfl rfl rfl g5 rfl ?_
      refine R_goto rfl ?_
      exact h
theorem S63_58 {e : En} {I : HI} {D : HD} {Q : HI → HD → Prop} {A : Nat} {q2 : Nat} {x3 : Int} {x4 : Int} (he : HS e) (hA : isA A) (hq2 : K0 q2 = 3)
    (h : CV 65 [vR (some 310), vR (some A), vR (some (q2 + 1)), vI x3, vI x4, vI 0] e I D (fun I2 D3 => Q I2 D3)) :
    RV 63 58 [vR (some 310), vR (some A), vR (some q2), vI x3, vI x4] [] e I D Q := by
  show Run 63 58 [vR (some 310), vR (some A), vR (some q2), vI x3, vI x4] [] (mk e I D) (pV e Q)
  refine R_aload_n (pc' := 59) rfl rfl rfl ?_
  refine R_aload_n (pc' := 60) rfl rfl rfl ?_
  refine R_aload_n (pc' := 61) rfl rfl rfl ?_
  refine K_getRN (pc' := 64) rfl rfl rfl hq2 (gF0 he hq2) ?_
  refine R_iload_n (pc' := 65) rfl rfl rfl ?_
  refine R_iload (pc' := 67) rfl rfl rfl ?_
  refine R_iconst (pc' := 68) rfl rfl ?_
  refine KV_iv (as := [vR (some A), vR (some (q2 + 1)), vI x3, vI x4, vI 0]) (rest := []) (pc' := 71) rfl rfl rfl rfl rfl (Nat.le_of_ble_eq_true rfl) rfl (CV_mono h ?_)
  intro I2 D3 h
  exact R_vret rfl rfl ⟨_, _, rfl, rfl, h⟩
/-! 64 X7_writeStream -/
theorem S64 {e : En} {I : HI} {D : HD} {Q : HI → HD → Prop} {A : Nat} {q2 : Nat} (he : HS e) (hA : isA A) (hq2 : K0 q2 = 3)
    (h : CV 67 [vR (some 310), vS 2] e I D (fun I2 D3 => (-2147483648 ≤ ((I2 q2 10) - (I2 q2 9)) ∧ ((I2 q2 10) - (I2 q2 9)) < 2147483648) ∧ CV 68 [vR (some 310), vI ((I2 q2 10) - (I2 q2 9))] e I2 D3 (fun I6 D7 => CV 67 [vR (some 310), vS 3] e I6 D7 (fun I9 D10 => CV 65 [vR (some 310), vR (some A), vR (some (q2 + 1)), vI (I9 (q2 + 1) 0), vI (I9 (q2 + 1) 1), vI 1] e I9 D10 (fun I12 D13 => CV 67 [vR (some 310), vS 5] e I12 D13 (fun I15 D16 => RV 64 60 [vR (some 310), vR (some A), vR (some q2), vI (I15 q2 9)] [] e I15 D16 Q)))))) :
    CV 64 [vR (some 310), vR (some A), vR (some q2)] e I D Q := by
  refine Call_run (ls := [vR (some 310), vR (some A), vR (some q2), vJ]) rfl rfl ?_
  refine R_aload_n (pc' := 1) rfl rfl rfl ?_
  refine R_ldcS (pc' := 3) rfl rfl ?_
  refine KV_iv (as := [vS 2]) (rest := []) (pc' := 6) rfl rfl rfl rfl rfl (Nat.le_of_ble_eq_true rfl) rfl (CV_mono h ?_)
  intro I2 D3 h
  refine R_aload_n (pc' := 7) rfl rfl rfl ?_
  refine R_aload_n (pc' := 8) rfl rfl rfl ?_
  refine K_getIN (pc' := 11) rfl rfl (by decide) hq2 rfl ?_
  refine R_aload_n (pc' := 12) rfl rfl rfl ?_
  refine K_getIN (pc' := 15) rfl rfl (by decide) hq2 rfl ?_
  have g4 := h.1
  replace h := h.2
  refine R_isub (pc' := 16) rfl rfl g4 ?_
  refine KV_iv (as := [vI ((I2 q2 10) - (I2 q2 9))]) (rest := []) (pc' := 19) rfl rfl rfl rfl rfl (Nat.le_of_ble_eq_true rfl) rfl (CV_mono h ?_)
  intro I6 D7 h
  refine R_aload_n (pc' := 20) rfl rfl rfl ?_
  refine R_ldcS (pc' := 22) rfl rfl ?_
  refine KV_iv (as := [vS 3]) (rest := []) (pc' := 25) rfl rfl rfl rfl rfl (Nat.le_of_ble_eq_true rfl) rfl (CV_mono h ?_)
  intro I9 D10 h
  refine R_aload_n (pc' := 26) rfl rfl rfl ?_
  refine R_aload_n (pc' := 27) rfl rfl rfl ?_
  refine R_aload_n (pc' := 28) rfl rfl rfl ?_
  refine K_getRN (pc' := 31) rfl rfl rfl hq2 (gF0 he hq2) ?_
  refine R_aload_n (pc' := 32) rfl rfl rfl ?_
  refine K_getRN (pc' := 35) rfl rfl rfl hq2 (gF0 he hq2) ?_
  refine K_getIN (pc' := 38) rfl rfl (by decide) (kF hq2).1 rfl ?_
  refine R_aload_n (pc' := 39) rfl rfl rfl ?_
  refine K_getRN (pc' := 42) rfl rfl rfl hq2 (gF0 he hq2) ?_
  refine K_getIN (pc' := 45) rfl rfl (by decide) (kF hq2).1 rfl ?_
  refine R_iconst (pc' := 46) rfl rfl ?_
  refine KV_iv (as := [vR (some A), vR (some (q2 + 1)), vI (I9 (q2 + 1) 0), vI (I9 (q2 + 1) 1), vI 1]) (rest := []) (pc' := 49) rfl rfl rfl rfl rfl (Nat.le_of_ble_eq_true rfl) rfl (CV_mono h ?_)
  intro I12 D13 h
  refine R_aload_n (pc' := 50) rfl rfl rfl ?_
  refine R_ldcS (pc' := 52) rfl rfl ?_
  refine KV_iv (as := [vS 5]) (rest := []) (pc' := 55) rfl rfl rfl rfl rfl (Nat.le_of_ble_eq_true rfl) rfl (CV_mono h ?_)
  intro I15 D16 h
  refine R_aload_n (pc' := 56) rfl rfl rfl ?_
  refine K_getIN (pc' := 59) rfl rfl (by decide) hq2 rfl ?_
  refine R_istore_n (ls' := [vR (some 310), vR (some A), vR (some q2), vI (I15 q2 9)]) (pc' := 60) rfl rfl rfl ?_
  exact h
theorem S64_60 {e : En} {I : HI} {D : HD} {Q : HI → HD → Prop} {A : Nat} {q2 : Nat} {x3 : Int} (he : HS e) (hA : isA A) (hq2 : K0 q2 = 3)
    (h : (((I q2 10) ≤ x3 → CV 67 [vR (some 310), vS 6] e I D (fun I2 D3 => Q I2 D3)) ∧ (¬ ((I q2 10) ≤ x3) → CI 37 [vR (some A), vI x3] e I D (fun z4 I5 D6 => CV 66 [vR (some 310), vI z4] e I5 D6 (fun I8 D9 => (-2147483648 ≤ (x3 + 1) ∧ (x3 + 1) < 2147483648) ∧ RV 64 60 [vR (some 310), vR (some A), vR (some q2), vI (x3 + 1)] [] e I8 D9 Q))))) :
    RV 64 60 [vR (some 310), vR (some A), vR (some q2), vI x3] [] e I D Q := by
  show Run 64 60 [vR (some 310), vR (some A), vR (some q2), vI x3] [] (mk e I D) (pV e Q)
  refine R_iload_n (pc' := 61) rfl rfl rfl ?_
  refine R_aload_n (pc' := 62) rfl rfl rfl ?_
  refine K_getIN (pc' := 65) rfl rfl (by decide) hq2 rfl ?_
  refine R_icge (pc' := 68) rfl rfl (fun hc => ?_) (fun hc => ?_)
  · replace h := h.1 hc
    refine R_aload_n (pc' := 84) rfl rfl rfl ?_
    refine R_ldcS (pc' := 86) rfl rfl ?_
    refine KV_iv (as := [vS 6]) (rest := []) (pc' := 89) rfl rfl rfl rfl rfl (Nat.le_of_ble_eq_true rfl) rfl (CV_mono h ?_)
    intro I2 D3 h
    exact R_vret rfl rfl ⟨_, _, rfl, rfl, h⟩
  · replace h := h.2 hc
    refine R_aload_n (pc' := 69) rfl rfl rfl ?_
    refine R_aload_n (pc' := 70) rfl rfl rfl ?_
    refine R_iload_n (pc' := 71) rfl rfl rfl ?_
    refine KI_iv (as := [vI x3]) (rest := [vR (some 310)]) (pc' := 74) rfl rfl rfl (kA hA 0 6 ⟨rfl, rfl⟩) rfl (Nat.le_of_ble_eq_true rfl) rfl (CI_mono h ?_)
    intro z4 I5 D6 h
    refine KV_iv (as := [vI z4]) (rest := []) (pc' := 77) rfl rfl rfl rfl rfl (Nat.le_of_ble_eq_true rfl) rfl (CV_mono h ?_)
    intro I8 D9 h
    have g10 := h.1
    replace h := h.2
    refine R_iinc (ls' := [vR (some 310), vR (some A), vR (some q2), vI (x3 + 1)]) (pc' := 80) rfl rfl rfl g10 rfl ?_
    refine R_goto rfl ?_
    exact h
/-! 65 X7_copyMended -/
theorem S65 {e : En} {I : HI} {D : HD} {Q : HI → HD → Prop} {A : Nat} {q2 : Nat} {x3 : Int} {x4 : Int} {x5 : Int} (he : HS e) (hA : isA A) (hq2 : K0 q2 = 1)
    (h : RV 65 15 [vR (some 310), vR (some A), vR (some q2), vJ, vI x4, vI x5, vI (I q2 10), vI (I q2 12), vI x3, vJ, vJ] [] e I D Q) :
    CV 65 [vR (some 310), vR (some A), vR (some q2), vI x3, vI x4, vI x5] e I D Q := by
  refine Call_run (ls := [vR (some 310), vR (some A), vR (some q2), vI x3, vI x4, vI x5, vJ, vJ, vJ, vJ, vJ]) rfl rfl ?_
  refine R_aload_n (pc' := 1) rfl rfl rfl ?_
  refine K_getIN (pc' := 4) rfl rfl (by decide) hq2 rfl ?_
  refine R_istore (ls' := [vR (some 310), vR (some A), vR (some q2), vI x3, vI x4, vI x5, vI (I q2 10), vJ, vJ, vJ, vJ]) (pc' := 6) rfl rfl rfl ?_
  refine R_aload_n (pc' := 7) rfl rfl rfl ?_
  refine K_getIN (pc' := 10) rfl rfl (by decide) hq2 rfl ?_
  refine R_istore (ls' := [vR (some 310), vR (some A), vR (some q2), vI x3, vI x4, vI x5, vI (I q2 10), vI (I q2 12), vJ, vJ, vJ]) (pc' := 12) rfl rfl rfl ?_
  refine R_iload_n (pc' := 13) rfl rfl rfl ?_
  refine R_istore (ls' := [vR (some 310), vR (some A), vR (some q2), vI x3, vI x4, vI x5, vI (I q2 10), vI (I q2 12), vI x3, vJ, vJ]) (pc' := 15) rfl rfl rfl ?_
  exact R_forget (ls' := [vR (some 310), vR (some A), vR (some q2), vJ, vI x4, vI x5, vI (I q2 10), vI (I q2 12), vI x3, vJ, vJ]) ⟨Or.inl rfl, Or.inl rfl, Or.inl rfl, Or.inr rfl, Or.inl rfl, Or.inl rfl, Or.inl rfl, Or.inl rfl, Or.inl rfl, Or.inl rfl, Or.inl rfl, trivial⟩ h
theorem S65_15 {e : En} {I : HI} {D : HD} {Q : HI → HD → Prop} {A : Nat} {q2 : Nat} {x4 : Int} {x5 : Int} {x6 : Int} {x7 : Int} {x8 : Int} (he : HS e) (hA : isA A) (hq2 : K0 q2 = 1)
    (h : ((x4 ≤ x8 → Q I D) ∧ (¬ (x4 ≤ x8) → RV 65 22 [vR (some 310), vR (some A), vR (some q2), vJ, vI x4, vI x5, vI x6, vI x7, vI x8, vJ, vJ] [] e I D Q))) :
    RV 65 15 [vR (some 310), vR (some A), vR (some q2), vJ, vI x4, vI x5, vI x6, vI x7, vI x8, vJ, vJ] [] e I D Q := by
  show Run 65 15 [vR (some 310), vR (some A), vR (some q2), vJ, vI x4, vI x5, vI x6, vI x7, vI x8, vJ, vJ] [] (mk e I D) (pV e Q)
  refine R_iload (pc' := 17) rfl rfl rfl ?_
  refine R_iload (pc' := 19) rfl rfl rfl ?_
  refine R_icge (pc' := 22) rfl rfl (fun hc => ?_) (fun hc => ?_)
  · replace h := h.1 hc
    exact R_vret rfl rfl ⟨_, _, rfl, rfl, h⟩
  · replace h := h.2 hc
    exact h
theorem S65_22 {e : En} {I : HI} {D : HD} {Q : HI → HD → Prop} {A : Nat} {q2 : Nat} {x4 : Int} {x5 : Int} {x6 : Int} {x7 : Int} {x8 : Int} (he : HS e) (hA : isA A) (hq2 : K0 q2 = 1)
    (h : (((I q2 11) ≤ x6 → RV 65 51 [vR (some 310), vR (some A), vR (some q2), vJ, vI x4, vI x5, vI x6, vI x7, vI x8, vJ, vJ] [] e I D Q) ∧ (¬ ((I q2 11) ≤ x6) → CI 14 [vR (some (A + 2)), vI x6] e I D (fun z1 I2 D3 => ((x8 ≤ z1 → RV 65 51 [vR (some 310), vR (some A), vR (some q2), vJ, vI x4, vI x5, vI x6, vI x7, vI x8, vJ, vJ] [] e I2 D3 Q) ∧ (¬ (x8 ≤ z1) → (-2147483648 ≤ (x6 + 1) ∧ (x6 + 1) < 2147483648) ∧ RV 65 22 [vR (some 310), vR (some A), vR (some q2), vJ, vI x4, vI x5, vI (x6 + 1), vI x7, vI x8, vJ, vJ] [] e I2 D3 Q)))))) :
    RV 65 22 [vR (some 310), vR (some A), vR (some q2), vJ, vI x4, vI x5, vI x6, vI x7, vI x8, vJ, vJ] [] e I D Q := by
  show Run 65 22 [vR (some 310), vR (some A), vR (some q2), vJ, vI x4, vI x5, vI x6, vI x7, vI x8, vJ, vJ] [] (mk e I D) (pV e Q)
  refine R_iload (pc' := 24) rfl rfl rfl ?_
  refine R_aload_n (pc' := 25) rfl rfl rfl ?_
  refine K_getIN (pc' := 28) rfl rfl (by decide) hq2 rfl ?_
  refine R_icge (pc' := 31) rfl rfl (fun hc => ?_) (fun hc => ?_)
  · replace h := h.1 hc
    exact h
  · replace h := h.2 hc
    refine R_aload_n (pc' := 32) rfl rfl rfl ?_
    refine K_getRN (pc' := 35) rfl rfl rfl (kA hA 0 6 ⟨rfl, rfl⟩) (gA he hA 0 3 2 ⟨⟨rfl, rfl⟩, rfl, rfl⟩) ?_
    refine R_iload (pc' := 37) rfl rfl rfl ?_
    refine KI_iv (as := [vI x6]) (rest := []) (pc' := 40) rfl rfl rfl (kA hA 2 4 ⟨rfl, rfl⟩) rfl (Nat.le_of_ble_eq_true rfl) rfl (CI_mono h ?_)
    intro z1 I2 D3 h
    refine R_iload (pc' := 42) rfl rfl rfl ?_
    refine R_icge (pc' := 45) rfl rfl (fun hc => ?_) (fun hc => ?_)
    · replace h := h.1 hc
      exact h
    · replace h := h.2 hc
      have g4 := h.1
      replace h := h.2
      refine R_iinc (ls' := [vR (some 310), vR (some A), vR (some q2), vJ, vI x4, vI x5, vI (x6 + 1), vI x7, vI x8, vJ, vJ]) (pc' := 48) rfl rfl rfl g4 rfl ?_
      refine R_goto rfl ?_
      exact h
theorem S65_51 {e : En} {I : HI} {D : HD} {Q : HI → HD → Prop} {A : Nat} {q2 : Nat} {x4 : Int} {x5 : Int} {x6 : Int} {x7 : Int} {x8 : Int} (he : HS e) (hA : isA A) (hq2 : K0 q2 = 1)
    (h : (((I q2 13) ≤ x7 → RV 65 80 [vR (some 310), vR (some A), vR (some q2), vJ, vI x4, vI x5, vI x6, vI x7, vI x8, vJ, vJ] [] e I D Q) ∧ (¬ ((I q2 13) ≤ x7) → CI 14 [vR (some (A + 6)), vI x7] e I D (fun z1 I2 D3 => ((x8 ≤ z1 → RV 65 80 [vR (some 310), vR (some A), vR (some q2), vJ, vI x4, vI x5, vI x6, vI x7, vI x8, vJ, vJ] [] e I2 D3 Q) ∧ (¬ (x8 ≤ z1) → (-2147483648 ≤ (x7 + 1) ∧ (x7 + 1) < 2147483648) ∧ RV 65 51 [vR (some 310), vR (some A), vR (some q2), vJ, vI x4, vI x5, vI x6, vI (x7 + 1), vI x8, vJ, vJ] [] e I2 D3 Q)))))) :
    RV 65 51 [vR (some 310), vR (some A), vR (some q2), vJ, vI x4, vI x5, vI x6, vI x7, vI x8, vJ, vJ] [] e I D Q := by
  show Run 65 51 [vR (some 310), vR (some A), vR (some q2), vJ, vI x4, vI x5, vI x6, vI x7, vI x8, vJ, vJ] [] (mk e I D) (pV e Q)
  refine R_iload (pc' := 53) rfl rfl rfl ?_
  refine R_aload_n (pc' := 54) rfl rfl rfl ?_
  refine K_getIN (pc' := 57) rfl rfl (by decide) hq2 rfl ?_
  refine R_icge (pc' := 60) rfl rfl (fun hc => ?_) (fun hc => ?_)
  · replace h := h.1 hc
    exact h
  · replace h := h.2 hc
    refine R_aload_n (pc' := 61) rfl rfl rfl ?_
    refine K_getRN (pc' := 64) rfl rfl rfl (kA hA 0 6 ⟨rfl, rfl⟩) (gA he hA 0 4 6 ⟨⟨rfl, rfl⟩, rfl, rfl⟩) ?_
    refine R_iload (pc' := 66) rfl rfl rfl ?_
    refine KI_iv (as := [vI x7]) (rest := []) (pc' := 69) rfl rfl rfl (kA hA 6 4 ⟨rfl, rfl⟩) rfl (Nat.le_of_ble_eq_true rfl) rfl (CI_mono h ?_)
    intro z1 I2 D3 h
    refine R_iload (pc' := 71) rfl rfl rfl ?_
    refine R_icge (pc' := 74) rfl rfl (fun hc => ?_) (fun hc => ?_)
    · replace h := h.1 hc
      exact h
    · replace h := h.2 hc
      have g4 := h.1
      replace h := h.2
      refine R_iinc (ls' := [vR (some 310), vR (some A), vR (some q2), vJ, vI x4, vI x5, vI x6, vI (x7 + 1), vI x8, vJ, vJ]) (pc' := 77) rfl rfl rfl g4 rfl ?_
      refine R_goto rfl ?_
      exact h
theorem S65_80 {e : En} {I : HI} {D : HD} {Q : HI → HD → Prop} {A : Nat} {q2 : Nat} {x4 : Int} {x5 : Int} {x6 : Int} {x7 : Int} {x8 : Int} (he : HS e) (hA : isA A) (hq2 : K0 q2 = 1)
    (h : (((I q2 11) ≤ x6 → RV 65 107 [vR (some 310), vR (some A), vR (some q2), vJ, vI x4, vI x5, vI x6, vI x7, vI x8, vJ, vJ] [] e I D Q) ∧ (¬ ((I q2 11) ≤ x6) → CI 14 [vR (some (A + 2)), vI x6] e I D (fun z1 I2 D3 => ((¬ z1 = x8 → RV 65 107 [vR (some 310), vR (some A), vR (some q2), vJ, vI x4, vI x5, vI x6, vI x7, vI x8, vJ, vJ] [] e I2 D3 Q) ∧ (¬ (¬ z1 = x8) → RV 65 108 [vR (some 310), vR (some A), vR (some q2), vJ, vI x4, vI x5, vI x6, vI x7, vI x8, vJ, vJ] [vI 1] e I2 D3 Q)))))) :
    RV 65 80 [vR (some 310), vR (some A), vR (some q2), vJ, vI x4, vI x5, vI x6, vI x7, vI x8, vJ, vJ] [] e I D Q := by
  show Run 65 80 [vR (some 310), vR (some A), vR (some q2), vJ, vI x4, vI x5, vI x6, vI x7, vI x8, vJ, vJ] [] (mk e I D) (pV e Q)
  refine R_iload (pc' := 82) rfl rfl rfl ?_
  refine R_aload_n (pc' := 83) rfl rfl rfl ?_
  refine K_getIN (pc' := 86) rfl rfl (by decide) hq2 rfl ?_
  refine R_icge (pc' := 89) rfl rfl (fun hc => ?_) (fun hc => ?_)
  · replace h := h.1 hc
    exact h
  · replace h := h.2 hc
    refine R_aload_n (pc' := 90) rfl rfl rfl ?_
    refine K_getRN (pc' := 93) rfl rfl rfl (kA hA 0 6 ⟨rfl, rfl⟩) (gA he hA 0 3 2 ⟨⟨rfl, rfl⟩, rfl, rfl⟩) ?_
    refine R_iload (pc' := 95) rfl rfl rfl ?_
    refine KI_iv (as := [vI x6]) (rest := []) (pc' := 98) rfl rfl rfl (kA hA 2 4 ⟨rfl, rfl⟩) rfl (Nat.le_of_ble_eq_true rfl) rfl (CI_mono h ?_)
    intro z1 I2 D3 h
    refine R_iload (pc' := 100) rfl rfl rfl ?_
    refine R_icne (pc' := 103) rfl rfl (fun hc => ?_) (fun hc => ?_)
    · replace h := h.1 hc
      exact h
    · replace h := h.2 hc
      refine R_iconst (pc' := 104) rfl rfl ?_
      refine R_goto rfl ?_
      exact h
theorem S65_107 {e : En} {I : HI} {D : HD} {Q : HI → HD → Prop} {A : Nat} {q2 : Nat} {x4 : Int} {x5 : Int} {x6 : Int} {x7 : Int} {x8 : Int} (he : HS e) (hA : isA A) (hq2 : K0 q2 = 1)
    (h : RV 65 108 [vR (some 310), vR (some A), vR (some q2), vJ, vI x4, vI x5, vI x6, vI x7, vI x8, vJ, vJ] [vI 0] e I D Q) :
    RV 65 107 [vR (some 310), vR (some A), vR (some q2), vJ, vI x4, vI x5, vI x6, vI x7, vI x8, vJ, vJ] [] e I D Q := by
  show Run 65 107 [vR (some 310), vR (some A), vR (some q2), vJ, vI x4, vI x5, vI x6, vI x7, vI x8, vJ, vJ] [] (mk e I D) (pV e Q)
  refine R_iconst (pc' := 108) rfl rfl ?_
  exact h
theorem S65_108 {e : En} {I : HI} {D : HD} {Q : HI → HD → Prop} {A : Nat} {q2 : Nat} {x4 : Int} {x5 : Int} {x6 : Int} {x7 : Int} {x8 : Int} {y0 : Int} (he : HS e) (hA : isA A) (hq2 : K0 q2 = 1)
    (h : (((I q2 13) ≤ x7 → RV 65 137 [vR (some 310), vR (some A), vR (some q2), vJ, vI x4, vI x5, vI x6, vI x7, vI x8, vI y0, vJ] [] e I D Q) ∧ (¬ ((I q2 13) ≤ x7) → CI 14 [vR (some (A + 6)), vI x7] e I D (fun z1 I2 D3 => ((¬ z1 = x8 → RV 65 137 [vR (some 310), vR (some A), vR (some q2), vJ, vI x4, vI x5, vI x6, vI x7, vI x8, vI y0, vJ] [] e I2 D3 Q) ∧ (¬ (¬ z1 = x8) → RV 65 138 [vR (some 310), vR (some A), vR (some q2), vJ, vI x4, vI x5, vI x6, vI x7, vI x8, vI y0, vJ] [vI 1] e I2 D3 Q)))))) :
    RV 65 108 [vR (some 310), vR (some A), vR (some q2), vJ, vI x4, vI x5, vI x6, vI x7, vI x8, vJ, vJ] [vI y0] e I D Q := by
  show Run 65 108 [vR (some 310), vR (some A), vR (some q2), vJ, vI x4, vI x5, vI x6, vI x7, vI x8, vJ, vJ] [vI y0] (mk e I D) (pV e Q)
  refine R_istore (ls' := [vR (some 310), vR (some A), vR (some q2), vJ, vI x4, vI x5, vI x6, vI x7, vI x8, vI y0, vJ]) (pc' := 110) rfl rfl rfl ?_
  refine R_iload (pc' := 112) rfl rfl rfl ?_
  refine R_aload_n (pc' := 113) rfl rfl rfl ?_
  refine K_getIN (pc' := 116) rfl rfl (by decide) hq2 rfl ?_
  refine R_icge (pc' := 119) rfl rfl (fun hc => ?_) (fun hc => ?_)
  · replace h := h.1 hc
    exact h
  · replace h := h.2 hc
    refine R_aload_n (pc' := 120) rfl rfl rfl ?_
    refine K_getRN (pc' := 123) rfl rfl rfl (kA hA 0 6 ⟨rfl, rfl⟩) (gA he hA 0 4 6 ⟨⟨rfl, rfl⟩, rfl, rfl⟩) ?_
    refine R_iload (pc' := 125) rfl rfl rfl ?_
    refine KI_iv (as := [vI x7]) (rest := []) (pc' := 128) rfl rfl rfl (kA hA 6 4 ⟨rfl, rfl⟩) rfl (Nat.le_of_ble_eq_true rfl) rfl (CI_mono h ?_)
    intro z1 I2 D3 h
    refine R_iload (pc' := 130) rfl rfl rfl ?_
    refine R_icne (pc' := 133) rfl rfl (fun hc => ?_) (fun hc => ?_)
    · replace h := h.1 hc
      exact h
    · replace h := h.2 hc
      refine R_iconst (pc' := 134) rfl rfl ?_
      refine R_goto rfl ?_
      exact h
theorem S65_137 {e : En} {I : HI} {D : HD} {Q : HI → HD → Prop} {A : Nat} {q2 : Nat} {x4 : Int} {x5 : Int} {x6 : Int} {x7 : Int} {x8 : Int} {x9 : Int} (he : HS e) (hA : isA A) (hq2 : K0 q2 = 1)
    (h : RV 65 138 [vR (some 310), vR (some A), vR (some q2), vJ, vI x4, vI x5, vI x6, vI x7, vI x8, vI x9, vJ] [vI 0] e I D Q) :
    RV 65 137 [vR (some 310), vR (some A), vR (some q2), vJ, vI x4, vI x5, vI x6, vI x7, vI x8, vI x9, vJ] [] e I D Q := by
  show Run 65 137 [vR (some 310), vR (some A), vR (some q2), vJ, vI x4, vI x5, vI x6, vI x7, vI x8, vI x9, vJ] [] (mk e I D) (pV e Q)
  refine R_iconst (pc' := 138) rfl rfl ?_
  exact h
theorem S65_138 {e : En} {I : HI} {D : HD} {Q : HI → HD → Prop} {A : Nat} {q2 : Nat} {x4 : Int} {x5 : Int} {x6 : Int} {x7 : Int} {x8 : Int} {x9 : Int} {y0 : Int} (he : HS e) (hA : isA A) (hq2 : K0 q2 = 1)
    (h : ((x5 = 0 → RV 65 171 [vR (some 310), vR (some A), vR (some q2), vJ, vI x4, vI x5, vI x6, vI x7, vI x8, vI x9, vJ] [] e I D Q) ∧ (¬ (x5 = 0) → ((y0 = 0 → RV 65 171 [vR (some 310), vR (some A), vR (some q2), vJ, vI x4, vI x5, vI x6, vI x7, vI x8, vI x9, vJ] [] e I D Q) ∧ (¬ (y0 = 0) → (-2147483648 ≤ (x8 + 1) ∧ (x8 + 1) < 2147483648) ∧ CI 15 [vR (some (A + 6)), vI x7] e I D (fun z2 I3 D4 => RV 65 232 [vR (some 310), vR (some A), vR (some q2), vJ, vI x4, vI x5, vI x6, vI x7, vI (max (x8 + 1) z2), vJ, vJ] [] e I3 D4 Q)))))) :
    RV 65 138 [vR (some 310), vR (some A), vR (some q2), vJ, vI x4, vI x5, vI x6, vI x7, vI x8, vI x9, vJ] [vI y0] e I D Q := by
  show Run 65 138 [vR (some 310), vR (some A), vR (some q2), vJ, vI x4, vI x5, vI x6, vI x7, vI x8, vI x9, vJ] [vI y0] (mk e I D) (pV e Q)
  refine R_istore (ls' := [vR (some 310), vR (some A), vR (some q2), vJ, vI x4, vI x5, vI x6, vI x7, vI x8, vI x9, vI y0]) (pc' := 140) rfl rfl rfl ?_
  refine R_iload (pc' := 142) rfl rfl rfl ?_
  refine R_ifeq (pc' := 145) rfl rfl (fun hc => ?_) (fun hc => ?_)
  · replace h := h.1 hc
    exact R_forget (ls' := [vR (some 310), vR (some A), vR (some q2), vJ, vI x4, vI x5, vI x6, vI x7, vI x8, vI x9, vJ]) ⟨Or.inl rfl, Or.inl rfl, Or.inl rfl, Or.inl rfl, Or.inl rfl, Or.inl rfl, Or.inl rfl, Or.inl rfl, Or.inl rfl, Or.inl rfl, Or.inr rfl, trivial⟩ h
  · replace h := h.2 hc
    refine R_iload (pc' := 147) rfl rfl rfl ?_
    refine R_ifeq (pc' := 150) rfl rfl (fun hc => ?_) (fun hc => ?_)
    · replace h := h.1 hc
      exact R_forget (ls' := [vR (some 310), vR (some A), vR (some q2), vJ, vI x4, vI x5, vI x6, vI x7, vI x8, vI x9, vJ]) ⟨Or.inl rfl, Or.inl rfl, Or.inl rfl, Or.inl rfl, Or.inl rfl, Or.inl rfl, Or.inl rfl, Or.inl rfl, Or.inl rfl, Or.inl rfl, Or.inr rfl, trivial⟩ h
    · replace h := h.2 hc
      refine R_iload (pc' := 152) rfl rfl rfl ?_
      refine R_iconst (pc' := 153) rfl rfl ?_
      have g1 := h.1
      replace h := h.2
      refine R_iadd (pc' := 154) rfl rfl g1 ?_
      refine R_aload_n (pc' := 155) rfl rfl rfl ?_
      refine K_getRN (pc' := 158) rfl rfl rfl (kA hA 0 6 ⟨rfl, rfl⟩) (gA he hA 0 4 6 ⟨⟨rfl, rfl⟩, rfl, rfl⟩) ?_
      refine R_iload (pc' := 160) rfl rfl rfl ?_
      refine KI_iv (as := [vI x7]) (rest := [vI (x8 + 1)]) (pc' := 163) rfl rfl rfl (kA hA 6 4 ⟨rfl, rfl⟩) rfl (Nat.le_of_ble_eq_true rfl) rfl (CI_mono h ?_)
      intro z2 I3 D4 h
      refine R_max (pc' := 166) rfl rfl (Nat.le_of_ble_eq_true rfl) ?_
      refine R_istore (ls' := [vR (some 310), vR (some A), vR (some q2), vJ, vI x4, vI x5, vI x6, vI x7, vI (max (x8 + 1) z2), vI x9, vI y0]) (pc' := 168) rfl rfl rfl ?_
      refine R_goto rfl ?_
      exact R_forget (ls' := [vR (some 310), vR (some A), vR (some q2), vJ, vI x4, vI x5, vI x6, vI x7, vI (max (x8 + 1) z2), vJ, vJ]) ⟨Or.inl rfl, Or.inl rfl, Or.inl rfl, Or.inl rfl, Or.inl rfl, Or.inl rfl, Or.inl rfl, Or.inl rfl, Or.inl rfl, Or.inr rfl, Or.inr rfl, trivial⟩ h
theorem S65_171 {e : En} {I : HI} {D : HD} {Q : HI → HD → Prop} {A : Nat} {q2 : Nat} {x4 : Int} {x5 : Int} {x6 : Int} {x7 : Int} {x8 : Int} {x9 : Int} (he : HS e) (hA : isA A) (hq2 : K0 q2 = 1)
    (h : ((x9 = 0 → RV 65 219 [vR (some 310), vR (some A), vR (some q2), vJ, vI x4, vI x5, vI x6, vI x7, vI x8, vJ, vJ] [] e I D Q) ∧ (¬ (x9 = 0) → CI 13 [vR (some (A + 2)), vI x6] e I D (fun z1 I2 D3 => CR 35 [vR (some A), vI z1] e I2 D3 (fun z4 I5 D6 => ((z4 = none → CV 67 [vR (some 310), vS 4] e I5 D6 (fun I10 D11 => (-2147483648 ≤ (x8 + 1) ∧ (x8 + 1) < 2147483648) ∧ CI 15 [vR (some (A + 2)), vI x6] e I10 D11 (fun z13 I14 D15 => RV 65 232 [vR (some 310), vR (some A), vR (some q2), vJ, vI x4, vI x5, vI x6, vI x7, vI (max (x8 + 1) z13), vJ, vJ] [] e I14 D15 Q))) ∧ (∀ u7, z4 = some u7 → K0 u7 = 3 ∧ RV 65 219 [vR (some 310), vR (some A), vR (some q2), vJ, vI x4, vI x5, vI x6, vI x7, vI x8, vJ, vJ] [] e I5 D6 Q))))))) :
    RV 65 171 [vR (some 310), vR (some A), vR (some q2), vJ, vI x4, vI x5, vI x6, vI x7, vI x8, vI x9, vJ] [] e I D Q := by
  show Run 65 171 [vR (some 310), vR (some A), vR (some q2), vJ, vI x4, vI x5, vI x6, vI x7, vI x8, vI x9, vJ] [] (mk e I D) (pV e Q)
  refine R_iload (pc' := 173) rfl rfl rfl ?_
  refine R_ifeq (pc' := 176) rfl rfl (fun hc => ?_) (fun hc => ?_)
  · replace h := h.1 hc
    exact R_forget (ls' := [vR (some 310), vR (some A), vR (some q2), vJ, vI x4, vI x5, vI x6, vI x7, vI x8, vJ, vJ]) ⟨Or.inl rfl, Or.inl rfl, Or.inl rfl, Or.inl rfl, Or.inl rfl, Or.inl rfl, Or.inl rfl, Or.inl rfl, Or.inl rfl, Or.inr rfl, Or.inl rfl, trivial⟩ h
  · replace h := h.2 hc
    refine R_aload_n (pc' := 177) rfl rfl rfl ?_
    refine R_aload_n (pc' := 178) rfl rfl rfl ?_
    refine K_getRN (pc' := 181) rfl rfl rfl (kA hA 0 6 ⟨rfl, rfl⟩) (gA he hA 0 3 2 ⟨⟨rfl, rfl⟩, rfl, rfl⟩) ?_
    refine R_iload (pc' := 183) rfl rfl rfl ?_
    refine KI_iv (as := [vI x6]) (rest := [vR (some A)]) (pc' := 186) rfl rfl rfl (kA hA 2 4 ⟨rfl, rfl⟩) rfl (Nat.le_of_ble_eq_true rfl) rfl (CI_mono h ?_)
    intro z1 I2 D3 h
    refine KR_iv (as := [vI z1]) (rest := []) (pc' := 189) rfl rfl rfl (kA hA 0 6 ⟨rfl, rfl⟩) rfl (Nat.le_of_ble_eq_true rfl) rfl (CR_mono h ?_)
    intro z4 I5 D6 h
    refine R_ifnonnull (pc' := 192) rfl rfl (fun u7 hn => ?_) (fun hn => ?_)
    · replace h := h.2 u7 hn
      subst hn
      have hu8 := h.1
      replace h := h.2
      exact R_forget (ls' := [vR (some 310), vR (some A), vR (some q2), vJ, vI x4, vI x5, vI x6, vI x7, vI x8, vJ, vJ]) ⟨Or.inl rfl, Or.inl rfl, Or.inl rfl, Or.inl rfl, Or.inl rfl, Or.inl rfl, Or.inl rfl, Or.inl rfl, Or.inl rfl, Or.inr rfl, Or.inl rfl, trivial⟩ h
    · replace h := h.1 hn
      subst hn
      refine R_aload_n (pc' := 193) rfl rfl rfl ?_
      refine R_ldcS (pc' := 195) rfl rfl ?_
      refine KV_iv (as := [vS 4]) (rest := []) (pc' := 198) rfl rfl rfl rfl rfl (Nat.le_of_ble_eq_true rfl) rfl (CV_mono h ?_)
      intro I10 D11 h
      refine R_iload (pc' := 200) rfl rfl rfl ?_
      refine R_iconst (pc' := 201) rfl rfl ?_
      have g12 := h.1
      replace h := h.2
      refine R_iadd (pc' := 202) rfl rfl g12 ?_
      refine R_aload_n (pc' := 203) rfl rfl rfl ?_
      refine K_getRN (pc' := 206) rfl rfl rfl (kA hA 0 6 ⟨rfl, rfl⟩) (gA he hA 0 3 2 ⟨⟨rfl, rfl⟩, rfl, rfl⟩) ?_
      refine R_iload (pc' := 208) rfl rfl rfl ?_
      refine KI_iv (as := [vI x6]) (rest := [vI (x8 + 1)]) (pc' := 211) rfl rfl rfl (kA hA 2 4 ⟨rfl, rfl⟩) rfl (Nat.le_of_ble_eq_true rfl) rfl (CI_mono h ?_)
      intro z13 I14 D15 h
      refine R_max (pc' := 214) rfl rfl (Nat.le_of_ble_eq_true rfl) ?_
      refine R_istore (ls' := [vR (some 310), vR (some A), vR (some q2), vJ, vI x4, vI x5, vI x6, vI x7, vI (max (x8 + 1) z13), vI x9, vJ]) (pc' := 216) rfl rfl rfl ?_
      refine R_goto rfl ?_
      exact R_forget (ls' := [vR (some 310), vR (some A), vR (some q2), vJ, vI x4, vI x5, vI x6, vI x7, vI (max (x8 + 1) z13), vJ, vJ]) ⟨Or.inl rfl, Or.inl rfl, Or.inl rfl, Or.inl rfl, Or.inl rfl, Or.inl rfl, Or.inl rfl, Or.inl rfl, Or.inl rfl, Or.inr rfl, Or.inl rfl, trivial⟩ h
theorem S65_219 {e : En} {I : HI} {D : HD} {Q : HI → HD → Prop} {A : Nat} {q2 : Nat} {x4 : Int} {x5 : Int} {x6 : Int} {x7 : Int} {x8 : Int} (he : HS e) (hA : isA A) (hq2 : K0 q2 = 1)
    (h : CI 37 [vR (some A), vI x8] e I D (fun z1 I2 D3 => CV 66 [vR (some 310), vI z1] e I2 D3 (fun I5 D6 => (-2147483648 ≤ (x8 + 1) ∧ (x8 + 1) < 2147483648) ∧ RV 65 232 [vR (some 310), vR (some A), vR (some q2), vJ, vI x4, vI x5, vI x6, vI x7, vI (x8 + 1), vJ, vJ] [] e I5 D6 Q))) :
    RV 65 219 [vR (some 310), vR (some A), vR (some q2), vJ, vI x4, vI x5, vI x6, vI x7, vI x8, vJ, vJ] [] e I D Q := by
  show Run 65 219 [vR (some 310), vR (some A), vR (some q2), vJ, vI x4, vI x5, vI x6, vI x7, vI x8, vJ, vJ] [] (mk e I D) (pV e Q)
  refine R_aload_n (pc' := 220) rfl rfl rfl ?_
  refine R_aload_n (pc' := 221) rfl rfl rfl ?_
  refine R_iload (pc' := 223) rfl rfl rfl ?_
  refine KI_iv (as := [vI x8]) (rest := [vR (some 310)]) (pc' := 226) rfl rfl rfl (kA hA 0 6 ⟨rfl, rfl⟩) rfl (Nat.le_of_ble_eq_true rfl) rfl (CI_mono h ?_)
  intro z1 I2 D3 h
  refine KV_iv (as := [vI z1]) (rest := []) (pc' := 229) rfl rfl rfl rfl rfl (Nat.le_of_ble_eq_true rfl) rfl (CV_mono h ?_)
  intro I5 D6 h
  have g7 := h.1
  replace h := h.2
  refine R_iinc (ls' := [vR (some 310), vR (some A), vR (some q2), vJ, vI x4, vI x5, vI x6, vI x7, vI (x8 + 1), vJ, vJ]) (pc' := 232) rfl rfl rfl g7 rfl ?_
  exact h
theorem S65_232 {e : En} {I : HI} {D : HD} {Q : HI → HD → Prop} {A : Nat} {q2 : Nat} {x4 : Int} {x5 : Int} {x6 : Int} {x7 : Int} {x8 : Int} (he : HS e) (hA : isA A) (hq2 : K0 q2 = 1)
    (h : RV 65 15 [vR (some 310), vR (some A), vR (some q2), vJ, vI x4, vI x5, vI x6, vI x7, vI x8, vJ, vJ] [] e I D Q) :
    RV 65 232 [vR (some 310), vR (some A), vR (some q2), vJ, vI x4, vI x5, vI x6, vI x7, vI x8, vJ, vJ] [] e I D Q := by
  show Run 65 232 [vR (some 310), vR (some A), vR (some q2), vJ, vI x4, vI x5, vI x6, vI x7, vI x8, vJ, vJ] [] (mk e I D) (pV e Q)
  refine R_goto rfl ?_
  exact h
/-! 66 X7_put -/
theorem S66 {e : En} {I : HI} {D : HD} {Q : HI → HD → Prop} {x1 : Int} (he : HS e)
    (h : (((I 310 1) < 0 → Q I D) ∧ (¬ ((I 310 1) < 0) → (((3000 : Int) ≤ (I 310 1) → Q I D) ∧ (¬ ((3000 : Int) ≤ (I 310 1)) → (0 ≤ (I 310 1) ∧ (I 310 1) < 3000) ∧ (-2147483648 ≤ ((I 310 1) + 1) ∧ ((I 310 1) + 1) < 2147483648) ∧ Q (uI (uI I 311 (((I 310 1) : Int).toNat) ((((x1 + 128) % 256 - 128) + 128) % 256 - 128)) 310 1 ((I 310 1) + 1)) D))))) :
    CV 66 [vR (some 310), vI x1] e I D Q := by
  refine Call_run (ls := [vR (some 310), vI x1]) rfl rfl ?_
  refine R_aload_n (pc' := 1) rfl rfl rfl ?_
  refine K_getI (pc' := 4) rfl rfl (by decide) rfl rfl ?_
  refine R_iflt (pc' := 7) rfl rfl (fun hc => ?_) (fun hc => ?_)
  · replace h := h.1 hc
    exact R_vret rfl rfl ⟨_, _, rfl, rfl, h⟩
  · replace h := h.2 hc
    refine R_aload_n (pc' := 8) rfl rfl rfl ?_
    refine K_getI (pc' := 11) rfl rfl (by decide) rfl rfl ?_
    refine R_aload_n (pc' := 12) rfl rfl rfl ?_
    refine K_getR (pc' := 15) rfl rfl rfl rfl (st_at he rfl rfl (by decide)) ?_
    refine K_alen (pc' := 16) rfl rfl 1 rfl (by decide) rfl ?_
    refine R_icge (pc' := 19) rfl rfl (fun hc => ?_) (fun hc => ?_)
    · replace h := h.1 hc
      exact R_vret rfl rfl ⟨_, _, rfl, rfl, h⟩
    · replace h := h.2 hc
      refine R_aload_n (pc' := 20) rfl rfl rfl ?_
      refine K_getR (pc' := 23) rfl rfl rfl rfl (st_at he rfl rfl (by decide)) ?_
      refine R_aload_n (pc' := 24) rfl rfl rfl ?_
      refine K_getI (pc' := 27) rfl rfl (by decide) rfl rfl ?_
      refine R_iload_n (pc' := 28) rfl rfl rfl ?_
      refine R_i2b (pc' := 29) rfl rfl ?_
      have g1 := h.1
      replace h := h.2
      refine K_bast (pc' := 30) rfl rfl rfl g1.1 g1.2 ?_
      refine R_aload_n (pc' := 31) rfl rfl rfl ?_
      refine R_dup (pc' := 32) rfl rfl rfl ?_
      refine K_getI (pc' := 35) rfl rfl (by decide) rfl rfl ?_
      refine R_iconst (pc' := 36) rfl rfl ?_
      have g2 := h.1
      replace h := h.2
      refine R_iadd (pc' := 37) rfl rfl g2 ?_
      refine K_putI (pc' := 40) rfl rfl (by decide) (fun h => absurd h (by decide)) rfl ?_
      exact R_vret rfl rfl ⟨_, _, rfl, rfl, h⟩
/-! 67 X7_putText -/
theorem S67 {e : En} {I : HI} {D : HD} {Q : HI → HD → Prop} {k1 : Nat} (he : HS e) (hk1 : k1 < 25)
    (h : RV 67 2 [vR (some 310), vS k1, vI 0] [] e I D Q) :
    CV 67 [vR (some 310), vS k1] e I D Q := by
  refine Call_run (ls := [vR (some 310), vS k1, vJ]) rfl rfl ?_
  refine R_iconst (pc' := 1) rfl rfl ?_
  refine R_istore_n (ls' := [vR (some 310), vS k1, vI 0]) (pc' := 2) rfl rfl rfl ?_
  exact h
theorem S67_2 {e : En} {I : HI} {D : HD} {Q : HI → HD → Prop} {k1 : Nat} {x2 : Int} (he : HS e) (hk1 : k1 < 25)
    (h : ((((zstr k1).length : Int) ≤ x2 → Q I D) ∧ (¬ (((zstr k1).length : Int) ≤ x2) → (0 ≤ x2 ∧ x2 < ((zstr k1).length : Int)) ∧ CV 66 [vR (some 310), vI (((zstr k1).getD (x2.toNat) 0 : Nat) : Int)] e I D (fun I3 D4 => (-2147483648 ≤ (x2 + 1) ∧ (x2 + 1) < 2147483648) ∧ RV 67 2 [vR (some 310), vS k1, vI (x2 + 1)] [] e I3 D4 Q)))) :
    RV 67 2 [vR (some 310), vS k1, vI x2] [] e I D Q := by
  show Run 67 2 [vR (some 310), vS k1, vI x2] [] (mk e I D) (pV e Q)
  refine R_iload_n (pc' := 3) rfl rfl rfl ?_
  refine R_aload_nS (pc' := 4) rfl rfl rfl ?_
  refine R_strlen (pc' := 7) rfl rfl hk1 (Nat.le_of_ble_eq_true rfl) ?_
  refine R_icge (pc' := 10) rfl rfl (fun hc => ?_) (fun hc => ?_)
  · replace h := h.1 hc
    exact R_vret rfl rfl ⟨_, _, rfl, rfl, h⟩
  · replace h := h.2 hc
    refine R_aload_n (pc' := 11) rfl rfl rfl ?_
    refine R_aload_nS (pc' := 12) rfl rfl rfl ?_
    refine R_iload_n (pc' := 13) rfl rfl rfl ?_
    have g1 := h.1
    replace h := h.2
    refine R_strch (pc' := 16) rfl rfl hk1 g1.1 g1.2 (Nat.le_of_ble_eq_true rfl) ?_
    refine KV_iv (as := [vI (((zstr k1).getD (x2.toNat) 0 : Nat) : Int)]) (rest := []) (pc' := 19) rfl rfl rfl rfl rfl (Nat.le_of_ble_eq_true rfl) rfl (CV_mono h ?_)
    intro I3 D4 h
    have g5 := h.1
    replace h := h.2
    refine R_iinc (ls' := [vR (some 310), vS k1, vI (x2 + 1)]) (pc' := 22) rfl rfl rfl g5 rfl ?_
    refine R_goto rfl ?_
    exact h
/-! 68 X7_putNumber -/
theorem S68 {e : En} {I : HI} {D : HD} {Q : HI → HD → Prop} {x1 : Int} (he : HS e)
    (h : RV 68 6 [vR (some 310), vI x1, vI 0, vI 10000, vJ] [] e I D Q) :
    CV 68 [vR (some 310), vI x1] e I D Q := by
  refine Call_run (ls := [vR (some 310), vI x1, vJ, vJ, vJ]) rfl rfl ?_
  refine R_iconst (pc' := 1) rfl rfl ?_
  refine R_istore_n (ls' := [vR (some 310), vI x1, vI 0, vJ, vJ]) (pc' := 2) rfl rfl rfl ?_
  refine R_sipush (pc' := 5) rfl rfl ?_
  refine R_istore_n (ls' := [vR (some 310), vI x1, vI 0, vI 10000, vJ]) (pc' := 6) rfl rfl rfl ?_
  exact h
theorem S68_6 {e : En} {I : HI} {D : HD} {Q : HI → HD → Prop} {x1 : Int} {x2 : Int} {x3 : Int} (he : HS e)
    (h : ((x3 ≤ 0 → Q I D) ∧ (¬ (x3 ≤ 0) → (x3 ≠ 0) ∧ (-2147483648 ≤ (Int.tdiv x1 x3) ∧ (Int.tdiv x1 x3) < 2147483648) ∧ (-2147483648 ≤ (Int.tdiv (Int.tdiv x1 x3) 10) ∧ (Int.tdiv (Int.tdiv x1 x3) 10) < 2147483648) ∧ (-2147483648 ≤ (Int.tmod (Int.tdiv x1 x3) 10) ∧ (Int.tmod (Int.tdiv x1 x3) 10) < 2147483648) ∧ ((¬ x2 = 0 → RV 68 32 [vR (some 310), vI x1, vJ, vI x3, vI (Int.tmod (Int.tdiv x1 x3) 10)] [] e I D Q) ∧ (¬ (¬ x2 = 0) → (((0 : Int) < (Int.tmod (Int.tdiv x1 x3) 10) → RV 68 32 [vR (some 310), vI x1, vJ, vI x3, vI (Int.tmod (Int.tdiv x1 x3) 10)] [] e I D Q) ∧ (¬ ((0 : Int) < (Int.tmod (Int.tdiv x1 x3) 10)) → ((¬ x3 = 1 → RV 68 37 [vR (some 310), vI x1, vJ, vI x3, vI (Int.tmod (Int.tdiv x1 x3) 10)] [vI 0] e I D Q) ∧ (¬ (¬ x3 = 1) → RV 68 32 [vR (some 310), vI x1, vJ, vI x3, vI (Int.tmod (Int.tdiv x1 x3) 10)] [] e I D Q))))))))) :
    RV 68 6 [vR (some 310), vI x1, vI x2, vI x3, vJ] [] e I D Q := by
  show Run 68 6 [vR (some 310), vI x1, vI x2, vI x3, vJ] [] (mk e I D) (pV e Q)
  refine R_iload_n (pc' := 7) rfl rfl rfl ?_
  refine R_ifle (pc' := 10) rfl rfl (fun hc => ?_) (fun hc => ?_)
  · replace h := h.1 hc
    exact R_vret rfl rfl ⟨_, _, rfl, rfl, h⟩
  · replace h := h.2 hc
    refine R_iload_n (pc' := 11) rfl rfl rfl ?_
    refine R_iload_n (pc' := 12) rfl rfl rfl ?_
    have g1 := h.1
    replace h := h.2
    have g2 := h.1
    replace h := h.2
    refine R_idiv (pc' := 13) rfl rfl g1 g2 ?_
    refine R_bipush (pc' := 15) rfl rfl ?_
    have g3 := h.1
    replace h := h.2
    have g4 := h.1
    replace h := h.2
    refine R_irem (pc' := 16) rfl rfl (by decide) g3 g4 ?_
    refine R_istore (ls' := [vR (some 310), vI x1, vI x2, vI x3, vI (Int.tmod (Int.tdiv x1 x3) 10)]) (pc' := 18) rfl rfl rfl ?_
    refine R_iload_n (pc' := 19) rfl rfl rfl ?_
    refine R_ifne (pc' := 22) rfl rfl (fun hc => ?_) (fun hc => ?_)
    · replace h := h.1 hc
      exact R_forget (ls' := [vR (some 310), vI x1, vJ, vI x3, vI (Int.tmod (Int.tdiv x1 x3) 10)]) ⟨Or.inl rfl, Or.inl rfl, Or.inr rfl, Or.inl rfl, Or.inl rfl, trivial⟩ h
    · replace h := h.2 hc
      refine R_iload (pc' := 24) rfl rfl rfl ?_
      refine R_ifgt (pc' := 27) rfl rfl (fun hc => ?_) (fun hc => ?_)
      · replace h := h.1 hc
        exact R_forget (ls' := [vR (some 310), vI x1, vJ, vI x3, vI (Int.tmod (Int.tdiv x1 x3) 10)]) ⟨Or.inl rfl, Or.inl rfl, Or.inr rfl, Or.inl rfl, Or.inl rfl, trivial⟩ h
      · replace h := h.2 hc
        refine R_iload_n (pc' := 28) rfl rfl rfl ?_
        refine R_iconst (pc' := 29) rfl rfl ?_
        refine R_icne (pc' := 32) rfl rfl (fun hc => ?_) (fun hc => ?_)
        · replace h := h.1 hc
          refine R_iconst (pc' := 37) rfl rfl ?_
          exact R_forget (ls' := [vR (some 310), vI x1, vJ, vI x3, vI (Int.tmod (Int.tdiv x1 x3) 10)]) ⟨Or.inl rfl, Or.inl rfl, Or.inr rfl, Or.inl rfl, Or.inl rfl, trivial⟩ h
        · replace h := h.2 hc
          exact R_forget (ls' := [vR (some 310), vI x1, vJ, vI x3, vI (Int.tmod (Int.tdiv x1 x3) 10)]) ⟨Or.inl rfl, Or.inl rfl, Or.inr rfl, Or.inl rfl, Or.inl rfl, trivial⟩ h
theorem S68_32 {e : En} {I : HI} {D : HD} {Q : HI → HD → Prop} {x1 : Int} {x3 : Int} {x4 : Int} (he : HS e)
    (h : RV 68 37 [vR (some 310), vI x1, vJ, vI x3, vI x4] [vI 1] e I D Q) :
    RV 68 32 [vR (some 310), vI x1, vJ, vI x3, vI x4] [] e I D Q := by
  show Run 68 32 [vR (some 310), vI x1, vJ, vI x3, vI x4] [] (mk e I D) (pV e Q)
  refine R_iconst (pc' := 33) rfl rfl ?_
  refine R_goto rfl ?_
  exact h
theorem S68_37 {e : En} {I : HI} {D : HD} {Q : HI → HD → Prop} {x1 : Int} {x3 : Int} {x4 : Int} {y0 : Int} (he : HS e)
    (h : ((y0 = 0 → RV 68 51 [vR (some 310), vI x1, vI y0, vI x3, vJ] [] e I D Q) ∧ (¬ (y0 = 0) → (-2147483648 ≤ (48 + x4) ∧ (48 + x4) < 2147483648) ∧ CV 66 [vR (some 310), vI (48 + x4)] e I D (fun I3 D4 => RV 68 51 [vR (some 310), vI x1, vI y0, vI x3, vJ] [] e I3 D4 Q)))) :
    RV 68 37 [vR (some 310), vI x1, vJ, vI x3, vI x4] [vI y0] e I D Q := by
  show Run 68 37 [vR (some 310), vI x1, vJ, vI x3, vI x4] [vI y0] (mk e I D) (pV e Q)
  refine R_istore_n (ls' := [vR (some 310), vI x1, vI y0, vI x3, vI x4]) (pc' := 38) rfl rfl rfl ?_
  refine R_iload_n (pc' := 39) rfl rfl rfl ?_
  refine R_ifeq (pc' := 42) rfl rfl (fun hc => ?_) (fun hc => ?_)
  · replace h := h.1 hc
    exact R_forget (ls' := [vR (some 310), vI x1, vI y0, vI x3, vJ]) ⟨Or.inl rfl, Or.inl rfl, Or.inl rfl, Or.inl rfl, Or.inr rfl, trivial⟩ h
  · replace h := h.2 hc
    refine R_aload_n (pc' := 43) rfl rfl rfl ?_
    refine R_bipush (pc' := 45) rfl rfl ?_
    refine R_iload (pc' := 47) rfl rfl rfl ?_
    have g1 := h.1
    replace h := h.2
    refine R_iadd (pc' := 48) rfl rfl g1 ?_
    refine KV_iv (as := [vI (48 + x4)]) (rest := []) (pc' := 51) rfl rfl rfl rfl rfl (Nat.le_of_ble_eq_true rfl) rfl (CV_mono h ?_)
    intro I3 D4 h
    exact R_forget (ls' := [vR (some 310), vI x1, vI y0, vI x3, vJ]) ⟨Or.inl rfl, Or.inl rfl, Or.inl rfl, Or.inl rfl, Or.inr rfl, trivial⟩ h
theorem S68_51 {e : En} {I : HI} {D : HD} {Q : HI → HD → Prop} {x1 : Int} {x2 : Int} {x3 : Int} (he : HS e)
    (h : (-2147483648 ≤ (Int.tdiv x3 10) ∧ (Int.tdiv x3 10) < 2147483648) ∧ RV 68 6 [vR (some 310), vI x1, vI x2, vI (Int.tdiv x3 10), vJ] [] e I D Q) :
    RV 68 51 [vR (some 310), vI x1, vI x2, vI x3, vJ] [] e I D Q := by
  show Run 68 51 [vR (some 310), vI x1, vI x2, vI x3, vJ] [] (mk e I D) (pV e Q)
  refine R_iload_n (pc' := 52) rfl rfl rfl ?_
  refine R_bipush (pc' := 54) rfl rfl ?_
  have g1 := h.1
  replace h := h.2
  refine R_idiv (pc' := 55) rfl rfl (by decide) g1 ?_
  refine R_istore_n (ls' := [vR (some 310), vI x1, vI x2, vI (Int.tdiv x3 10), vJ]) (pc' := 56) rfl rfl rfl ?_
  refine R_goto rfl ?_
  exact h
end
