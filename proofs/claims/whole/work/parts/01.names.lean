-- ===== PART A: goes FIRST, ahead of the names: the tables' words, and 'selects' of the private methods out of them =====
/-- a private method of a class that the tables say can be made, by its rows of tables_1 -/
def lw_okq (q : MethodName × Nat) : Prop := (q.1.cls ≠ "java/lang/invoke/MethodHandle" ∧ q.1.cls ≠ "java/lang/invoke/VarHandle") ∧ Cond.instantiable q.1.cls q.2 ∈ tables_1 ∧ Cond.privateMethod q.1 ∈ tables_1 ∧ Cond.instanceMethod q.1 ∈ tables_1
theorem lw_p0 : lw_okq (⟨"PrimeProofs$Finder", "bringAt", "(III)I"⟩, 4) := ⟨⟨by decide +kernel, by decide +kernel⟩, List.mem_of_getElem? (i := 65) (by decide +kernel), List.mem_of_getElem? (i := 291) (by decide +kernel), List.mem_of_getElem? (i := 292) (by decide +kernel)⟩
theorem lw_p1 : lw_okq (⟨"PrimeProofs$Finder", "draftAt", "(I)LPrimeProofs$Line;"⟩, 4) := ⟨⟨by decide +kernel, by decide +kernel⟩, List.mem_of_getElem? (i := 65) (by decide +kernel), List.mem_of_getElem? (i := 295) (by decide +kernel), List.mem_of_getElem? (i := 296) (by decide +kernel)⟩
theorem lw_p2 : lw_okq (⟨"PrimeProofs$Finder", "lay", "(LPrimeProofs$Line;II)Z"⟩, 4) := ⟨⟨by decide +kernel, by decide +kernel⟩, List.mem_of_getElem? (i := 65) (by decide +kernel), List.mem_of_getElem? (i := 300) (by decide +kernel), List.mem_of_getElem? (i := 301) (by decide +kernel)⟩
theorem lw_p3 : lw_okq (⟨"PrimeProofs$Factors", "takeAll", "(II)I"⟩, 3) := ⟨⟨by decide +kernel, by decide +kernel⟩, List.mem_of_getElem? (i := 71) (by decide +kernel), List.mem_of_getElem? (i := 325) (by decide +kernel), List.mem_of_getElem? (i := 326) (by decide +kernel)⟩
theorem lw_p4 : lw_okq (⟨"PrimeProofs$Factors", "add", "(II)V"⟩, 3) := ⟨⟨by decide +kernel, by decide +kernel⟩, List.mem_of_getElem? (i := 71) (by decide +kernel), List.mem_of_getElem? (i := 332) (by decide +kernel), List.mem_of_getElem? (i := 333) (by decide +kernel)⟩
theorem lw_p5 : lw_okq (⟨"PrimeProofs$Finder", "layByTurns", "(LPrimeProofs$Line;II)V"⟩, 4) := ⟨⟨by decide +kernel, by decide +kernel⟩, List.mem_of_getElem? (i := 65) (by decide +kernel), List.mem_of_getElem? (i := 350) (by decide +kernel), List.mem_of_getElem? (i := 351) (by decide +kernel)⟩
theorem lw_p6 : lw_okq (⟨"PrimeProofs$Ledger", "settle", "(II)V"⟩, 6) := ⟨⟨by decide +kernel, by decide +kernel⟩, List.mem_of_getElem? (i := 29) (by decide +kernel), List.mem_of_getElem? (i := 462) (by decide +kernel), List.mem_of_getElem? (i := 463) (by decide +kernel)⟩
theorem lw_p7 : lw_okq (⟨"PrimeProofs$Reader", "advance", "()V"⟩, 6) := ⟨⟨by decide +kernel, by decide +kernel⟩, List.mem_of_getElem? (i := 123) (by decide +kernel), List.mem_of_getElem? (i := 501) (by decide +kernel), List.mem_of_getElem? (i := 502) (by decide +kernel)⟩
theorem lw_p8 : lw_okq (⟨"PrimeProofs$Reader", "tellLine", "()Z"⟩, 6) := ⟨⟨by decide +kernel, by decide +kernel⟩, List.mem_of_getElem? (i := 123) (by decide +kernel), List.mem_of_getElem? (i := 508) (by decide +kernel), List.mem_of_getElem? (i := 509) (by decide +kernel)⟩
theorem lw_p9 : lw_okq (⟨"PrimeProofs$Reader", "sortTold", "()I"⟩, 6) := ⟨⟨by decide +kernel, by decide +kernel⟩, List.mem_of_getElem? (i := 123) (by decide +kernel), List.mem_of_getElem? (i := 512) (by decide +kernel), List.mem_of_getElem? (i := 513) (by decide +kernel)⟩
theorem lw_p10 : lw_okq (⟨"PrimeProofs$Reader", "isWord", "(Ljava/lang/String;)Z"⟩, 6) := ⟨⟨by decide +kernel, by decide +kernel⟩, List.mem_of_getElem? (i := 123) (by decide +kernel), List.mem_of_getElem? (i := 524) (by decide +kernel), List.mem_of_getElem? (i := 525) (by decide +kernel)⟩
theorem lw_p11 : lw_okq (⟨"PrimeProofs$Reader", "tellInt", "(II)I"⟩, 6) := ⟨⟨by decide +kernel, by decide +kernel⟩, List.mem_of_getElem? (i := 123) (by decide +kernel), List.mem_of_getElem? (i := 577) (by decide +kernel), List.mem_of_getElem? (i := 578) (by decide +kernel)⟩
theorem lw_p12 : lw_okq (⟨"PrimeProofs$Reader", "tellPratt", "()Z"⟩, 6) := ⟨⟨by decide +kernel, by decide +kernel⟩, List.mem_of_getElem? (i := 123) (by decide +kernel), List.mem_of_getElem? (i := 583) (by decide +kernel), List.mem_of_getElem? (i := 584) (by decide +kernel)⟩
theorem lw_p13 : lw_okq (⟨"PrimeProofs$Reader", "tellWord", "(Ljava/lang/String;)Z"⟩, 6) := ⟨⟨by decide +kernel, by decide +kernel⟩, List.mem_of_getElem? (i := 123) (by decide +kernel), List.mem_of_getElem? (i := 588) (by decide +kernel), List.mem_of_getElem? (i := 589) (by decide +kernel)⟩
theorem lw_p14 : lw_okq (⟨"PrimeProofs$Reader", "tellRows", "(LPrimeProofs$Side;I)Z"⟩, 6) := ⟨⟨by decide +kernel, by decide +kernel⟩, List.mem_of_getElem? (i := 123) (by decide +kernel), List.mem_of_getElem? (i := 593) (by decide +kernel), List.mem_of_getElem? (i := 594) (by decide +kernel)⟩
theorem lw_p15 : lw_okq (⟨"PrimeProofs$Reader", "tellEnd", "()Z"⟩, 6) := ⟨⟨by decide +kernel, by decide +kernel⟩, List.mem_of_getElem? (i := 123) (by decide +kernel), List.mem_of_getElem? (i := 598) (by decide +kernel), List.mem_of_getElem? (i := 599) (by decide +kernel)⟩
def lw_privs_1 : List (MethodName × Nat) := [(⟨"PrimeProofs$Finder", "bringAt", "(III)I"⟩, 4), (⟨"PrimeProofs$Finder", "draftAt", "(I)LPrimeProofs$Line;"⟩, 4), (⟨"PrimeProofs$Finder", "lay", "(LPrimeProofs$Line;II)Z"⟩, 4), (⟨"PrimeProofs$Factors", "takeAll", "(II)I"⟩, 3), (⟨"PrimeProofs$Factors", "add", "(II)V"⟩, 3), (⟨"PrimeProofs$Finder", "layByTurns", "(LPrimeProofs$Line;II)V"⟩, 4), (⟨"PrimeProofs$Ledger", "settle", "(II)V"⟩, 6), (⟨"PrimeProofs$Reader", "advance", "()V"⟩, 6), (⟨"PrimeProofs$Reader", "tellLine", "()Z"⟩, 6), (⟨"PrimeProofs$Reader", "sortTold", "()I"⟩, 6), (⟨"PrimeProofs$Reader", "isWord", "(Ljava/lang/String;)Z"⟩, 6), (⟨"PrimeProofs$Reader", "tellInt", "(II)I"⟩, 6), (⟨"PrimeProofs$Reader", "tellPratt", "()Z"⟩, 6), (⟨"PrimeProofs$Reader", "tellWord", "(Ljava/lang/String;)Z"⟩, 6), (⟨"PrimeProofs$Reader", "tellRows", "(LPrimeProofs$Side;I)Z"⟩, 6), (⟨"PrimeProofs$Reader", "tellEnd", "()Z"⟩, 6)]
theorem lw_r1 : ∀ q ∈ lw_privs_1, lw_okq q := List.forall_mem_cons.mpr ⟨lw_p0, List.forall_mem_cons.mpr ⟨lw_p1, List.forall_mem_cons.mpr ⟨lw_p2, List.forall_mem_cons.mpr ⟨lw_p3, List.forall_mem_cons.mpr ⟨lw_p4, List.forall_mem_cons.mpr ⟨lw_p5, List.forall_mem_cons.mpr ⟨lw_p6, List.forall_mem_cons.mpr ⟨lw_p7, List.forall_mem_cons.mpr ⟨lw_p8, List.forall_mem_cons.mpr ⟨lw_p9, List.forall_mem_cons.mpr ⟨lw_p10, List.forall_mem_cons.mpr ⟨lw_p11, List.forall_mem_cons.mpr ⟨lw_p12, List.forall_mem_cons.mpr ⟨lw_p13, List.forall_mem_cons.mpr ⟨lw_p14, List.forall_mem_cons.mpr ⟨lw_p15, fun _ h => absurd h List.not_mem_nil⟩⟩⟩⟩⟩⟩⟩⟩⟩⟩⟩⟩⟩⟩⟩⟩
theorem lw_p16 : lw_okq (⟨"PrimeProofs$Reader", "tellPQ", "()Z"⟩, 6) := ⟨⟨by decide +kernel, by decide +kernel⟩, List.mem_of_getElem? (i := 123) (by decide +kernel), List.mem_of_getElem? (i := 602) (by decide +kernel), List.mem_of_getElem? (i := 603) (by decide +kernel)⟩
theorem lw_p17 : lw_okq (⟨"PrimeProofs$Ledger", "faultOf", "(I)I"⟩, 6) := ⟨⟨by decide +kernel, by decide +kernel⟩, List.mem_of_getElem? (i := 29) (by decide +kernel), List.mem_of_getElem? (i := 614) (by decide +kernel), List.mem_of_getElem? (i := 615) (by decide +kernel)⟩
theorem lw_p18 : lw_okq (⟨"PrimeProofs$Ledger", "stands", "(IJ)Z"⟩, 6) := ⟨⟨by decide +kernel, by decide +kernel⟩, List.mem_of_getElem? (i := 29) (by decide +kernel), List.mem_of_getElem? (i := 626) (by decide +kernel), List.mem_of_getElem? (i := 627) (by decide +kernel)⟩
theorem lw_p19 : lw_okq (⟨"PrimeProofs$Speller", "writeWord", "(Ljava/lang/String;)V"⟩, 2) := ⟨⟨by decide +kernel, by decide +kernel⟩, List.mem_of_getElem? (i := 228) (by decide +kernel), List.mem_of_getElem? (i := 783) (by decide +kernel), List.mem_of_getElem? (i := 784) (by decide +kernel)⟩
theorem lw_p20 : lw_okq (⟨"PrimeProofs$Speller", "writeBlank", "()V"⟩, 2) := ⟨⟨by decide +kernel, by decide +kernel⟩, List.mem_of_getElem? (i := 228) (by decide +kernel), List.mem_of_getElem? (i := 787) (by decide +kernel), List.mem_of_getElem? (i := 788) (by decide +kernel)⟩
theorem lw_p21 : lw_okq (⟨"PrimeProofs$Speller", "writeSign", "(C)V"⟩, 2) := ⟨⟨by decide +kernel, by decide +kernel⟩, List.mem_of_getElem? (i := 228) (by decide +kernel), List.mem_of_getElem? (i := 791) (by decide +kernel), List.mem_of_getElem? (i := 792) (by decide +kernel)⟩
theorem lw_p22 : lw_okq (⟨"PrimeProofs$Speller", "writeInt", "(I)V"⟩, 2) := ⟨⟨by decide +kernel, by decide +kernel⟩, List.mem_of_getElem? (i := 228) (by decide +kernel), List.mem_of_getElem? (i := 797) (by decide +kernel), List.mem_of_getElem? (i := 798) (by decide +kernel)⟩
theorem lw_p23 : lw_okq (⟨"PrimeProofs$Speller", "writeRows", "(LPrimeProofs$Side;Z)V"⟩, 2) := ⟨⟨by decide +kernel, by decide +kernel⟩, List.mem_of_getElem? (i := 228) (by decide +kernel), List.mem_of_getElem? (i := 807) (by decide +kernel), List.mem_of_getElem? (i := 808) (by decide +kernel)⟩
theorem lw_p24 : lw_okq (⟨"PrimeProofsModel", "laysRight", "()V"⟩, 35) := ⟨⟨by decide +kernel, by decide +kernel⟩, List.mem_of_getElem? (i := 942) (by decide +kernel), List.mem_of_getElem? (i := 1067) (by decide +kernel), List.mem_of_getElem? (i := 1068) (by decide +kernel)⟩
theorem lw_p25 : lw_okq (⟨"PrimeProofsModel", "faultOf", "(I)I"⟩, 35) := ⟨⟨by decide +kernel, by decide +kernel⟩, List.mem_of_getElem? (i := 942) (by decide +kernel), List.mem_of_getElem? (i := 1071) (by decide +kernel), List.mem_of_getElem? (i := 1072) (by decide +kernel)⟩
theorem lw_p26 : lw_okq (⟨"PrimeProofsModel", "hasAll", "([IIII)Z"⟩, 35) := ⟨⟨by decide +kernel, by decide +kernel⟩, List.mem_of_getElem? (i := 942) (by decide +kernel), List.mem_of_getElem? (i := 1081) (by decide +kernel), List.mem_of_getElem? (i := 1082) (by decide +kernel)⟩
theorem lw_p27 : lw_okq (⟨"PrimeProofsModel", "lineFor", "(II)I"⟩, 35) := ⟨⟨by decide +kernel, by decide +kernel⟩, List.mem_of_getElem? (i := 942) (by decide +kernel), List.mem_of_getElem? (i := 1085) (by decide +kernel), List.mem_of_getElem? (i := 1086) (by decide +kernel)⟩
theorem lw_p28 : lw_okq (⟨"PrimeProofsModel", "isFit", "(I)Z"⟩, 35) := ⟨⟨by decide +kernel, by decide +kernel⟩, List.mem_of_getElem? (i := 942) (by decide +kernel), List.mem_of_getElem? (i := 1089) (by decide +kernel), List.mem_of_getElem? (i := 1090) (by decide +kernel)⟩
theorem lw_p29 : lw_okq (⟨"PrimeProofsModel", "below", "(I)J"⟩, 35) := ⟨⟨by decide +kernel, by decide +kernel⟩, List.mem_of_getElem? (i := 942) (by decide +kernel), List.mem_of_getElem? (i := 1093) (by decide +kernel), List.mem_of_getElem? (i := 1094) (by decide +kernel)⟩
theorem lw_p30 : lw_okq (⟨"PrimeProofsModel", "product", "([I[III)J"⟩, 35) := ⟨⟨by decide +kernel, by decide +kernel⟩, List.mem_of_getElem? (i := 942) (by decide +kernel), List.mem_of_getElem? (i := 1097) (by decide +kernel), List.mem_of_getElem? (i := 1098) (by decide +kernel)⟩
theorem lw_p31 : lw_okq (⟨"PrimeProofsModel", "above", "(I)J"⟩, 35) := ⟨⟨by decide +kernel, by decide +kernel⟩, List.mem_of_getElem? (i := 942) (by decide +kernel), List.mem_of_getElem? (i := 1102) (by decide +kernel), List.mem_of_getElem? (i := 1103) (by decide +kernel)⟩
def lw_privs_2 : List (MethodName × Nat) := [(⟨"PrimeProofs$Reader", "tellPQ", "()Z"⟩, 6), (⟨"PrimeProofs$Ledger", "faultOf", "(I)I"⟩, 6), (⟨"PrimeProofs$Ledger", "stands", "(IJ)Z"⟩, 6), (⟨"PrimeProofs$Speller", "writeWord", "(Ljava/lang/String;)V"⟩, 2), (⟨"PrimeProofs$Speller", "writeBlank", "()V"⟩, 2), (⟨"PrimeProofs$Speller", "writeSign", "(C)V"⟩, 2), (⟨"PrimeProofs$Speller", "writeInt", "(I)V"⟩, 2), (⟨"PrimeProofs$Speller", "writeRows", "(LPrimeProofs$Side;Z)V"⟩, 2), (⟨"PrimeProofsModel", "laysRight", "()V"⟩, 35), (⟨"PrimeProofsModel", "faultOf", "(I)I"⟩, 35), (⟨"PrimeProofsModel", "hasAll", "([IIII)Z"⟩, 35), (⟨"PrimeProofsModel", "lineFor", "(II)I"⟩, 35), (⟨"PrimeProofsModel", "isFit", "(I)Z"⟩, 35), (⟨"PrimeProofsModel", "below", "(I)J"⟩, 35), (⟨"PrimeProofsModel", "product", "([I[III)J"⟩, 35), (⟨"PrimeProofsModel", "above", "(I)J"⟩, 35)]
theorem lw_r2 : ∀ q ∈ lw_privs_2, lw_okq q := List.forall_mem_cons.mpr ⟨lw_p16, List.forall_mem_cons.mpr ⟨lw_p17, List.forall_mem_cons.mpr ⟨lw_p18, List.forall_mem_cons.mpr ⟨lw_p19, List.forall_mem_cons.mpr ⟨lw_p20, List.forall_mem_cons.mpr ⟨lw_p21, List.forall_mem_cons.mpr ⟨lw_p22, List.forall_mem_cons.mpr ⟨lw_p23, List.forall_mem_cons.mpr ⟨lw_p24, List.forall_mem_cons.mpr ⟨lw_p25, List.forall_mem_cons.mpr ⟨lw_p26, List.forall_mem_cons.mpr ⟨lw_p27, List.forall_mem_cons.mpr ⟨lw_p28, List.forall_mem_cons.mpr ⟨lw_p29, List.forall_mem_cons.mpr ⟨lw_p30, List.forall_mem_cons.mpr ⟨lw_p31, fun _ h => absurd h List.not_mem_nil⟩⟩⟩⟩⟩⟩⟩⟩⟩⟩⟩⟩⟩⟩⟩⟩
theorem lw_p32 : lw_okq (⟨"PrimeProofsModel", "isEnough", "(I)Z"⟩, 35) := ⟨⟨by decide +kernel, by decide +kernel⟩, List.mem_of_getElem? (i := 942) (by decide +kernel), List.mem_of_getElem? (i := 1106) (by decide +kernel), List.mem_of_getElem? (i := 1107) (by decide +kernel)⟩
theorem lw_p33 : lw_okq (⟨"PrimeProofsModel", "wrongPair", "(IJJ)I"⟩, 35) := ⟨⟨by decide +kernel, by decide +kernel⟩, List.mem_of_getElem? (i := 942) (by decide +kernel), List.mem_of_getElem? (i := 1129) (by decide +kernel), List.mem_of_getElem? (i := 1130) (by decide +kernel)⟩
theorem lw_p34 : lw_okq (⟨"PrimeProofsModel", "sequence", "(JJJJ)J"⟩, 35) := ⟨⟨by decide +kernel, by decide +kernel⟩, List.mem_of_getElem? (i := 942) (by decide +kernel), List.mem_of_getElem? (i := 1139) (by decide +kernel), List.mem_of_getElem? (i := 1140) (by decide +kernel)⟩
theorem lw_p35 : lw_okq (⟨"PrimeProofsModel", "times", "([J[JJ)V"⟩, 35) := ⟨⟨by decide +kernel, by decide +kernel⟩, List.mem_of_getElem? (i := 942) (by decide +kernel), List.mem_of_getElem? (i := 1143) (by decide +kernel), List.mem_of_getElem? (i := 1144) (by decide +kernel)⟩
theorem lw_p36 : lw_okq (⟨"PrimeProofsModel", "works", "(II)Z"⟩, 35) := ⟨⟨by decide +kernel, by decide +kernel⟩, List.mem_of_getElem? (i := 942) (by decide +kernel), List.mem_of_getElem? (i := 1147) (by decide +kernel), List.mem_of_getElem? (i := 1148) (by decide +kernel)⟩
theorem lw_p37 : lw_okq (⟨"PrimeProofsModel", "begins", "(III)V"⟩, 35) := ⟨⟨by decide +kernel, by decide +kernel⟩, List.mem_of_getElem? (i := 942) (by decide +kernel), List.mem_of_getElem? (i := 1151) (by decide +kernel), List.mem_of_getElem? (i := 1152) (by decide +kernel)⟩
theorem lw_p38 : lw_okq (⟨"PrimeProofsModel", "laysRows", "(I)V"⟩, 35) := ⟨⟨by decide +kernel, by decide +kernel⟩, List.mem_of_getElem? (i := 942) (by decide +kernel), List.mem_of_getElem? (i := 1155) (by decide +kernel), List.mem_of_getElem? (i := 1156) (by decide +kernel)⟩
theorem lw_p39 : lw_okq (⟨"PrimeProofsModel", "laysFactors", "(J)V"⟩, 35) := ⟨⟨by decide +kernel, by decide +kernel⟩, List.mem_of_getElem? (i := 942) (by decide +kernel), List.mem_of_getElem? (i := 1159) (by decide +kernel), List.mem_of_getElem? (i := 1160) (by decide +kernel)⟩
theorem lw_p40 : lw_okq (⟨"PrimeProofsModel", "rowsOf", "(IZII)V"⟩, 35) := ⟨⟨by decide +kernel, by decide +kernel⟩, List.mem_of_getElem? (i := 942) (by decide +kernel), List.mem_of_getElem? (i := 1163) (by decide +kernel), List.mem_of_getElem? (i := 1164) (by decide +kernel)⟩
theorem lw_p41 : lw_okq (⟨"PrimeProofsModel", "addsUp", "(III)V"⟩, 35) := ⟨⟨by decide +kernel, by decide +kernel⟩, List.mem_of_getElem? (i := 942) (by decide +kernel), List.mem_of_getElem? (i := 1167) (by decide +kernel), List.mem_of_getElem? (i := 1168) (by decide +kernel)⟩
theorem lw_p42 : lw_okq (⟨"PrimeProofsModel", "addsDown", "(IIII)V"⟩, 35) := ⟨⟨by decide +kernel, by decide +kernel⟩, List.mem_of_getElem? (i := 942) (by decide +kernel), List.mem_of_getElem? (i := 1171) (by decide +kernel), List.mem_of_getElem? (i := 1172) (by decide +kernel)⟩
theorem lw_p43 : lw_okq (⟨"PrimeProofsModel", "turns", "(II)V"⟩, 35) := ⟨⟨by decide +kernel, by decide +kernel⟩, List.mem_of_getElem? (i := 942) (by decide +kernel), List.mem_of_getElem? (i := 1175) (by decide +kernel), List.mem_of_getElem? (i := 1176) (by decide +kernel)⟩
theorem lw_p44 : lw_okq (⟨"PrimeProofsModel", "laysBases", "(I)Z"⟩, 35) := ⟨⟨by decide +kernel, by decide +kernel⟩, List.mem_of_getElem? (i := 942) (by decide +kernel), List.mem_of_getElem? (i := 1179) (by decide +kernel), List.mem_of_getElem? (i := 1180) (by decide +kernel)⟩
theorem lw_p45 : lw_okq (⟨"PrimeProofsModel", "laysPair", "(I)Z"⟩, 35) := ⟨⟨by decide +kernel, by decide +kernel⟩, List.mem_of_getElem? (i := 942) (by decide +kernel), List.mem_of_getElem? (i := 1183) (by decide +kernel), List.mem_of_getElem? (i := 1184) (by decide +kernel)⟩
theorem lw_p46 : lw_okq (⟨"PrimeProofsModel", "missing", "()I"⟩, 35) := ⟨⟨by decide +kernel, by decide +kernel⟩, List.mem_of_getElem? (i := 942) (by decide +kernel), List.mem_of_getElem? (i := 1187) (by decide +kernel), List.mem_of_getElem? (i := 1188) (by decide +kernel)⟩
theorem lw_p47 : lw_okq (⟨"PrimeProofsModel", "becomes", "(II)V"⟩, 35) := ⟨⟨by decide +kernel, by decide +kernel⟩, List.mem_of_getElem? (i := 942) (by decide +kernel), List.mem_of_getElem? (i := 1191) (by decide +kernel), List.mem_of_getElem? (i := 1192) (by decide +kernel)⟩
def lw_privs_3 : List (MethodName × Nat) := [(⟨"PrimeProofsModel", "isEnough", "(I)Z"⟩, 35), (⟨"PrimeProofsModel", "wrongPair", "(IJJ)I"⟩, 35), (⟨"PrimeProofsModel", "sequence", "(JJJJ)J"⟩, 35), (⟨"PrimeProofsModel", "times", "([J[JJ)V"⟩, 35), (⟨"PrimeProofsModel", "works", "(II)Z"⟩, 35), (⟨"PrimeProofsModel", "begins", "(III)V"⟩, 35), (⟨"PrimeProofsModel", "laysRows", "(I)V"⟩, 35), (⟨"PrimeProofsModel", "laysFactors", "(J)V"⟩, 35), (⟨"PrimeProofsModel", "rowsOf", "(IZII)V"⟩, 35), (⟨"PrimeProofsModel", "addsUp", "(III)V"⟩, 35), (⟨"PrimeProofsModel", "addsDown", "(IIII)V"⟩, 35), (⟨"PrimeProofsModel", "turns", "(II)V"⟩, 35), (⟨"PrimeProofsModel", "laysBases", "(I)Z"⟩, 35), (⟨"PrimeProofsModel", "laysPair", "(I)Z"⟩, 35), (⟨"PrimeProofsModel", "missing", "()I"⟩, 35), (⟨"PrimeProofsModel", "becomes", "(II)V"⟩, 35)]
theorem lw_r3 : ∀ q ∈ lw_privs_3, lw_okq q := List.forall_mem_cons.mpr ⟨lw_p32, List.forall_mem_cons.mpr ⟨lw_p33, List.forall_mem_cons.mpr ⟨lw_p34, List.forall_mem_cons.mpr ⟨lw_p35, List.forall_mem_cons.mpr ⟨lw_p36, List.forall_mem_cons.mpr ⟨lw_p37, List.forall_mem_cons.mpr ⟨lw_p38, List.forall_mem_cons.mpr ⟨lw_p39, List.forall_mem_cons.mpr ⟨lw_p40, List.forall_mem_cons.mpr ⟨lw_p41, List.forall_mem_cons.mpr ⟨lw_p42, List.forall_mem_cons.mpr ⟨lw_p43, List.forall_mem_cons.mpr ⟨lw_p44, List.forall_mem_cons.mpr ⟨lw_p45, List.forall_mem_cons.mpr ⟨lw_p46, List.forall_mem_cons.mpr ⟨lw_p47, fun _ h => absurd h List.not_mem_nil⟩⟩⟩⟩⟩⟩⟩⟩⟩⟩⟩⟩⟩⟩⟩⟩
theorem lw_p48 : lw_okq (⟨"PrimeProofsModel", "isLine", "(I)Z"⟩, 35) := ⟨⟨by decide +kernel, by decide +kernel⟩, List.mem_of_getElem? (i := 942) (by decide +kernel), List.mem_of_getElem? (i := 1199) (by decide +kernel), List.mem_of_getElem? (i := 1200) (by decide +kernel)⟩
theorem lw_p49 : lw_okq (⟨"PrimeProofsModel", "goesOn", "()V"⟩, 35) := ⟨⟨by decide +kernel, by decide +kernel⟩, List.mem_of_getElem? (i := 942) (by decide +kernel), List.mem_of_getElem? (i := 1224) (by decide +kernel), List.mem_of_getElem? (i := 1225) (by decide +kernel)⟩
theorem lw_p50 : lw_okq (⟨"PrimeProofsModel", "isLetter", "(I)Z"⟩, 35) := ⟨⟨by decide +kernel, by decide +kernel⟩, List.mem_of_getElem? (i := 942) (by decide +kernel), List.mem_of_getElem? (i := 1228) (by decide +kernel), List.mem_of_getElem? (i := 1229) (by decide +kernel)⟩
theorem lw_p51 : lw_okq (⟨"PrimeProofsModel", "isWord", "(I)Z"⟩, 35) := ⟨⟨by decide +kernel, by decide +kernel⟩, List.mem_of_getElem? (i := 942) (by decide +kernel), List.mem_of_getElem? (i := 1234) (by decide +kernel), List.mem_of_getElem? (i := 1235) (by decide +kernel)⟩
theorem lw_p52 : lw_okq (⟨"PrimeProofsModel", "wordFrom", "(I)I"⟩, 35) := ⟨⟨by decide +kernel, by decide +kernel⟩, List.mem_of_getElem? (i := 942) (by decide +kernel), List.mem_of_getElem? (i := 1238) (by decide +kernel), List.mem_of_getElem? (i := 1239) (by decide +kernel)⟩
theorem lw_p53 : lw_okq (⟨"PrimeProofsModel", "isDigit", "(I)Z"⟩, 35) := ⟨⟨by decide +kernel, by decide +kernel⟩, List.mem_of_getElem? (i := 942) (by decide +kernel), List.mem_of_getElem? (i := 1242) (by decide +kernel), List.mem_of_getElem? (i := 1243) (by decide +kernel)⟩
theorem lw_p54 : lw_okq (⟨"PrimeProofsModel", "readsLine", "(I)V"⟩, 35) := ⟨⟨by decide +kernel, by decide +kernel⟩, List.mem_of_getElem? (i := 942) (by decide +kernel), List.mem_of_getElem? (i := 1249) (by decide +kernel), List.mem_of_getElem? (i := 1250) (by decide +kernel)⟩
theorem lw_p55 : lw_okq (⟨"PrimeProofsModel", "fails", "()V"⟩, 35) := ⟨⟨by decide +kernel, by decide +kernel⟩, List.mem_of_getElem? (i := 942) (by decide +kernel), List.mem_of_getElem? (i := 1253) (by decide +kernel), List.mem_of_getElem? (i := 1254) (by decide +kernel)⟩
theorem lw_p56 : lw_okq (⟨"PrimeProofsModel", "needsInt", "(II)I"⟩, 35) := ⟨⟨by decide +kernel, by decide +kernel⟩, List.mem_of_getElem? (i := 942) (by decide +kernel), List.mem_of_getElem? (i := 1258) (by decide +kernel), List.mem_of_getElem? (i := 1259) (by decide +kernel)⟩
theorem lw_p57 : lw_okq (⟨"PrimeProofsModel", "needsWord", "(I)V"⟩, 35) := ⟨⟨by decide +kernel, by decide +kernel⟩, List.mem_of_getElem? (i := 942) (by decide +kernel), List.mem_of_getElem? (i := 1262) (by decide +kernel), List.mem_of_getElem? (i := 1263) (by decide +kernel)⟩
theorem lw_p58 : lw_okq (⟨"PrimeProofsModel", "readsDowns", "(II)V"⟩, 35) := ⟨⟨by decide +kernel, by decide +kernel⟩, List.mem_of_getElem? (i := 942) (by decide +kernel), List.mem_of_getElem? (i := 1269) (by decide +kernel), List.mem_of_getElem? (i := 1270) (by decide +kernel)⟩
theorem lw_p59 : lw_okq (⟨"PrimeProofsModel", "readsUps", "(I)V"⟩, 35) := ⟨⟨by decide +kernel, by decide +kernel⟩, List.mem_of_getElem? (i := 942) (by decide +kernel), List.mem_of_getElem? (i := 1273) (by decide +kernel), List.mem_of_getElem? (i := 1274) (by decide +kernel)⟩
theorem lw_p60 : lw_okq (⟨"PrimeProofsModel", "writesLine", "(I)V"⟩, 35) := ⟨⟨by decide +kernel, by decide +kernel⟩, List.mem_of_getElem? (i := 942) (by decide +kernel), List.mem_of_getElem? (i := 1281) (by decide +kernel), List.mem_of_getElem? (i := 1282) (by decide +kernel)⟩
theorem lw_p61 : lw_okq (⟨"PrimeProofsModel", "writesWord", "(I)V"⟩, 35) := ⟨⟨by decide +kernel, by decide +kernel⟩, List.mem_of_getElem? (i := 942) (by decide +kernel), List.mem_of_getElem? (i := 1285) (by decide +kernel), List.mem_of_getElem? (i := 1286) (by decide +kernel)⟩
theorem lw_p62 : lw_okq (⟨"PrimeProofsModel", "writesSign", "(I)V"⟩, 35) := ⟨⟨by decide +kernel, by decide +kernel⟩, List.mem_of_getElem? (i := 942) (by decide +kernel), List.mem_of_getElem? (i := 1289) (by decide +kernel), List.mem_of_getElem? (i := 1290) (by decide +kernel)⟩
theorem lw_p63 : lw_okq (⟨"PrimeProofsModel", "writes", "(I)V"⟩, 35) := ⟨⟨by decide +kernel, by decide +kernel⟩, List.mem_of_getElem? (i := 942) (by decide +kernel), List.mem_of_getElem? (i := 1293) (by decide +kernel), List.mem_of_getElem? (i := 1294) (by decide +kernel)⟩
def lw_privs_4 : List (MethodName × Nat) := [(⟨"PrimeProofsModel", "isLine", "(I)Z"⟩, 35), (⟨"PrimeProofsModel", "goesOn", "()V"⟩, 35), (⟨"PrimeProofsModel", "isLetter", "(I)Z"⟩, 35), (⟨"PrimeProofsModel", "isWord", "(I)Z"⟩, 35), (⟨"PrimeProofsModel", "wordFrom", "(I)I"⟩, 35), (⟨"PrimeProofsModel", "isDigit", "(I)Z"⟩, 35), (⟨"PrimeProofsModel", "readsLine", "(I)V"⟩, 35), (⟨"PrimeProofsModel", "fails", "()V"⟩, 35), (⟨"PrimeProofsModel", "needsInt", "(II)I"⟩, 35), (⟨"PrimeProofsModel", "needsWord", "(I)V"⟩, 35), (⟨"PrimeProofsModel", "readsDowns", "(II)V"⟩, 35), (⟨"PrimeProofsModel", "readsUps", "(I)V"⟩, 35), (⟨"PrimeProofsModel", "writesLine", "(I)V"⟩, 35), (⟨"PrimeProofsModel", "writesWord", "(I)V"⟩, 35), (⟨"PrimeProofsModel", "writesSign", "(I)V"⟩, 35), (⟨"PrimeProofsModel", "writes", "(I)V"⟩, 35)]
theorem lw_r4 : ∀ q ∈ lw_privs_4, lw_okq q := List.forall_mem_cons.mpr ⟨lw_p48, List.forall_mem_cons.mpr ⟨lw_p49, List.forall_mem_cons.mpr ⟨lw_p50, List.forall_mem_cons.mpr ⟨lw_p51, List.forall_mem_cons.mpr ⟨lw_p52, List.forall_mem_cons.mpr ⟨lw_p53, List.forall_mem_cons.mpr ⟨lw_p54, List.forall_mem_cons.mpr ⟨lw_p55, List.forall_mem_cons.mpr ⟨lw_p56, List.forall_mem_cons.mpr ⟨lw_p57, List.forall_mem_cons.mpr ⟨lw_p58, List.forall_mem_cons.mpr ⟨lw_p59, List.forall_mem_cons.mpr ⟨lw_p60, List.forall_mem_cons.mpr ⟨lw_p61, List.forall_mem_cons.mpr ⟨lw_p62, List.forall_mem_cons.mpr ⟨lw_p63, fun _ h => absurd h List.not_mem_nil⟩⟩⟩⟩⟩⟩⟩⟩⟩⟩⟩⟩⟩⟩⟩⟩
theorem lw_p64 : lw_okq (⟨"PrimeProofsModel", "isRow", "(IZI)Z"⟩, 35) := ⟨⟨by decide +kernel, by decide +kernel⟩, List.mem_of_getElem? (i := 942) (by decide +kernel), List.mem_of_getElem? (i := 1306) (by decide +kernel), List.mem_of_getElem? (i := 1307) (by decide +kernel)⟩
theorem lw_p65 : lw_okq (⟨"PrimeProofsModel", "isRightLine", "(I)Z"⟩, 35) := ⟨⟨by decide +kernel, by decide +kernel⟩, List.mem_of_getElem? (i := 942) (by decide +kernel), List.mem_of_getElem? (i := 1323) (by decide +kernel), List.mem_of_getElem? (i := 1324) (by decide +kernel)⟩
theorem lw_p66 : lw_okq (⟨"PrimeProofsModel", "restsOf", "(I)J"⟩, 35) := ⟨⟨by decide +kernel, by decide +kernel⟩, List.mem_of_getElem? (i := 942) (by decide +kernel), List.mem_of_getElem? (i := 1331) (by decide +kernel), List.mem_of_getElem? (i := 1332) (by decide +kernel)⟩
theorem lw_p67 : lw_okq (⟨"PrimeProofsModel", "props", "(I)J"⟩, 35) := ⟨⟨by decide +kernel, by decide +kernel⟩, List.mem_of_getElem? (i := 942) (by decide +kernel), List.mem_of_getElem? (i := 1338) (by decide +kernel), List.mem_of_getElem? (i := 1339) (by decide +kernel)⟩
theorem lw_p68 : lw_okq (⟨"PrimeProofsModel", "deepOf", "(I)I"⟩, 35) := ⟨⟨by decide +kernel, by decide +kernel⟩, List.mem_of_getElem? (i := 942) (by decide +kernel), List.mem_of_getElem? (i := 1372) (by decide +kernel), List.mem_of_getElem? (i := 1373) (by decide +kernel)⟩
theorem lw_p69 : lw_okq (⟨"PrimeProofsModel", "costsOf", "(I)I"⟩, 35) := ⟨⟨by decide +kernel, by decide +kernel⟩, List.mem_of_getElem? (i := 942) (by decide +kernel), List.mem_of_getElem? (i := 1384) (by decide +kernel), List.mem_of_getElem? (i := 1385) (by decide +kernel)⟩
theorem lw_p70 : lw_okq (⟨"PrimeProofsModel", "smoothBy", "(I)J"⟩, 35) := ⟨⟨by decide +kernel, by decide +kernel⟩, List.mem_of_getElem? (i := 942) (by decide +kernel), List.mem_of_getElem? (i := 1420) (by decide +kernel), List.mem_of_getElem? (i := 1421) (by decide +kernel)⟩
def lw_privs_5 : List (MethodName × Nat) := [(⟨"PrimeProofsModel", "isRow", "(IZI)Z"⟩, 35), (⟨"PrimeProofsModel", "isRightLine", "(I)Z"⟩, 35), (⟨"PrimeProofsModel", "restsOf", "(I)J"⟩, 35), (⟨"PrimeProofsModel", "props", "(I)J"⟩, 35), (⟨"PrimeProofsModel", "deepOf", "(I)I"⟩, 35), (⟨"PrimeProofsModel", "costsOf", "(I)I"⟩, 35), (⟨"PrimeProofsModel", "smoothBy", "(I)J"⟩, 35)]
theorem lw_r5 : ∀ q ∈ lw_privs_5, lw_okq q := List.forall_mem_cons.mpr ⟨lw_p64, List.forall_mem_cons.mpr ⟨lw_p65, List.forall_mem_cons.mpr ⟨lw_p66, List.forall_mem_cons.mpr ⟨lw_p67, List.forall_mem_cons.mpr ⟨lw_p68, List.forall_mem_cons.mpr ⟨lw_p69, List.forall_mem_cons.mpr ⟨lw_p70, fun _ h => absurd h List.not_mem_nil⟩⟩⟩⟩⟩⟩⟩
def lw_privs : List (MethodName × Nat) := lw_privs_1 ++ (lw_privs_2 ++ (lw_privs_3 ++ (lw_privs_4 ++ (lw_privs_5))))
def lw_tbl : List Cond := k2_sels lw_privs ++ tables_1
theorem lw_privs_ok : ∀ q ∈ lw_privs, lw_okq q := by
  show ∀ q ∈ lw_privs_1 ++ (lw_privs_2 ++ (lw_privs_3 ++ (lw_privs_4 ++ (lw_privs_5)))), lw_okq q
  exact List.forall_mem_append.mpr ⟨lw_r1, List.forall_mem_append.mpr ⟨lw_r2, List.forall_mem_append.mpr ⟨lw_r3, List.forall_mem_append.mpr ⟨lw_r4, lw_r5⟩⟩⟩⟩
-- ===== names =====
def plOk (big : List Cond) : List Cond → List Nat → Bool
  | [], _ => true
  | _ :: _, [] => false
  | w :: ws, p :: ps => decide (big[p]? = some w) && plOk big ws ps
theorem plMem {big : List Cond} : ∀ (ws : List Cond) (ps : List Nat), plOk big ws ps = true → ∀ w ∈ ws, w ∈ big
  | [], _, _, w, h => absurd h List.not_mem_nil
  | _ :: _, [], h, _, _ => by simp [plOk] at h
  | a :: ws, p :: ps, h, w, hw => by
    simp only [plOk, Bool.and_eq_true, decide_eq_true_eq] at h
    rcases List.mem_cons.mp hw with e | e
    · subst e; exact List.mem_of_getElem? h.1
    · exact plMem ws ps h.2 w e
def aR0 : String := "PrimeProofs$Factors"
def aT0 : u_T := fun k => match k with
  | 0 => ("PrimeProofs$Factors", "primes", "[I", true)
  | 1 => ("PrimeProofs$Factors", "exponents", "[I", true)
  | _ => ("PrimeProofs$Factors", "size", "I", false)
def aY0 : Nat → FieldType := fun k => match k with
  | 0 => .array .int
  | 1 => .array .int
  | _ => .int
def aG0 : List Nat := [2, 2, 0]
theorem aN0 : ∀ a, a < 3 → ∀ b, b < 3 → a ≠ b → (aT0 a).2.1 ≠ (aT0 b).2.1 := by decide +kernel
theorem aO0 : ∀ k, k < 3 → parseFieldDescriptor (aT0 k).2.2.1 = some (aY0 k) := by decide +kernel
theorem aI0 : ∀ w ∈ u_ws aR0 aT0 3, w ∈ lw_tbl := plMem (u_ws aR0 aT0 3) [155, 157, 159] (by decide +kernel)
def aR1 : String := "PrimeProofs$Finder"
def aT1 : u_T := fun k => match k with
  | 0 => ("PrimeProofs$Finder", "ledger", "LPrimeProofs$Ledger;", true)
  | 1 => ("PrimeProofs$Finder", "below", "LPrimeProofs$Factors;", true)
  | 2 => ("PrimeProofs$Finder", "above", "LPrimeProofs$Factors;", true)
  | _ => ("PrimeProofs$Finder", "drafts", "[LPrimeProofs$Line;", true)
def aY1 : Nat → FieldType := fun k => match k with
  | 0 => .object "PrimeProofs$Ledger"
  | 1 => .object "PrimeProofs$Factors"
  | 2 => .object "PrimeProofs$Factors"
  | _ => .array (.object "PrimeProofs$Line")
def aG1 : List Nat := [2, 2, 2, 2]
theorem aN1 : ∀ a, a < 4 → ∀ b, b < 4 → a ≠ b → (aT1 a).2.1 ≠ (aT1 b).2.1 := by decide +kernel
theorem aO1 : ∀ k, k < 4 → parseFieldDescriptor (aT1 k).2.2.1 = some (aY1 k) := by decide +kernel
theorem aI1 : ∀ w ∈ u_ws aR1 aT1 4, w ∈ lw_tbl := plMem (u_ws aR1 aT1 4) [167, 169, 171, 173] (by decide +kernel)
def aR2 : String := "PrimeProofs$Ledger"
def aT2 : u_T := fun k => match k with
  | 0 => ("PrimeProofs$Ledger", "lines", "[LPrimeProofs$Line;", true)
  | 1 => ("PrimeProofs$Ledger", "faults", "[I", true)
  | 2 => ("PrimeProofs$Ledger", "restings", "[J", true)
  | 3 => ("PrimeProofs$Ledger", "depths", "[I", true)
  | 4 => ("PrimeProofs$Ledger", "right", "J", false)
  | _ => ("PrimeProofs$Ledger", "size", "I", false)
def aY2 : Nat → FieldType := fun k => match k with
  | 0 => .array (.object "PrimeProofs$Line")
  | 1 => .array .int
  | 2 => .array .long
  | 3 => .array .int
  | 4 => .long
  | _ => .int
def aG2 : List Nat := [2, 2, 2, 2, 1, 0]
theorem aN2 : ∀ a, a < 6 → ∀ b, b < 6 → a ≠ b → (aT2 a).2.1 ≠ (aT2 b).2.1 := by decide +kernel
theorem aO2 : ∀ k, k < 6 → parseFieldDescriptor (aT2 k).2.2.1 = some (aY2 k) := by decide +kernel
theorem aI2 : ∀ w ∈ u_ws aR2 aT2 6, w ∈ lw_tbl := plMem (u_ws aR2 aT2 6) [120, 122, 124, 126, 128, 130] (by decide +kernel)
def aR3 : String := "PrimeProofs$Line"
def aT3 : u_T := fun k => match k with
  | 0 => ("PrimeProofs$Line", "down", "LPrimeProofs$Side;", true)
  | 1 => ("PrimeProofs$Line", "up", "LPrimeProofs$Side;", true)
  | 2 => ("PrimeProofs$Line", "number", "I", false)
  | 3 => ("PrimeProofs$Line", "sort", "I", false)
  | 4 => ("PrimeProofs$Line", "p", "I", false)
  | 5 => ("PrimeProofs$Line", "q", "I", false)
  | _ => ("PrimeProofs$Line", "later", "I", false)
def aY3 : Nat → FieldType := fun k => match k with
  | 0 => .object "PrimeProofs$Side"
  | 1 => .object "PrimeProofs$Side"
  | 2 => .int
  | 3 => .int
  | 4 => .int
  | 5 => .int
  | _ => .int
def aG3 : List Nat := [2, 2, 0, 0, 0, 0, 0]
theorem aN3 : ∀ a, a < 7 → ∀ b, b < 7 → a ≠ b → (aT3 a).2.1 ≠ (aT3 b).2.1 := by decide +kernel
theorem aO3 : ∀ k, k < 7 → parseFieldDescriptor (aT3 k).2.2.1 = some (aY3 k) := by decide +kernel
theorem aI3 : ∀ w ∈ u_ws aR3 aT3 7, w ∈ lw_tbl := plMem (u_ws aR3 aT3 7) [264, 266, 268, 270, 272, 274, 276] (by decide +kernel)
def aR4 : String := "PrimeProofs$Reader"
def aT4 : u_T := fun k => match k with
  | 0 => ("PrimeProofs$Reader", "tape", "LPrimeProofs$Tape;", true)
  | 1 => ("PrimeProofs$Reader", "ledger", "LPrimeProofs$Ledger;", true)
  | 2 => ("PrimeProofs$Reader", "draft", "LPrimeProofs$Line;", true)
  | 3 => ("PrimeProofs$Reader", "kind", "I", false)
  | 4 => ("PrimeProofs$Reader", "start", "I", false)
  | _ => ("PrimeProofs$Reader", "end", "I", false)
def aY4 : Nat → FieldType := fun k => match k with
  | 0 => .object "PrimeProofs$Tape"
  | 1 => .object "PrimeProofs$Ledger"
  | 2 => .object "PrimeProofs$Line"
  | 3 => .int
  | 4 => .int
  | _ => .int
def aG4 : List Nat := [2, 2, 2, 0, 0, 0]
theorem aN4 : ∀ a, a < 6 → ∀ b, b < 6 → a ≠ b → (aT4 a).2.1 ≠ (aT4 b).2.1 := by decide +kernel
theorem aO4 : ∀ k, k < 6 → parseFieldDescriptor (aT4 k).2.2.1 = some (aY4 k) := by decide +kernel
theorem aI4 : ∀ w ∈ u_ws aR4 aT4 6, w ∈ lw_tbl := plMem (u_ws aR4 aT4 6) [285, 287, 289, 291, 293, 295] (by decide +kernel)
def aR5 : String := "PrimeProofs$Side"
def aT5 : u_T := fun k => match k with
  | 0 => ("PrimeProofs$Side", "cells", "[I", true)
  | _ => ("PrimeProofs$Side", "size", "I", false)
def aY5 : Nat → FieldType := fun k => match k with
  | 0 => .array .int
  | _ => .int
def aG5 : List Nat := [2, 0]
theorem aN5 : ∀ a, a < 2 → ∀ b, b < 2 → a ≠ b → (aT5 a).2.1 ≠ (aT5 b).2.1 := by decide +kernel
theorem aO5 : ∀ k, k < 2 → parseFieldDescriptor (aT5 k).2.2.1 = some (aY5 k) := by decide +kernel
theorem aI5 : ∀ w ∈ u_ws aR5 aT5 2, w ∈ lw_tbl := plMem (u_ws aR5 aT5 2) [218, 220] (by decide +kernel)
def aR6 : String := "PrimeProofs$Speller"
def aT6 : u_T := fun k => match k with
  | 0 => ("PrimeProofs$Speller", "text", "[C", true)
  | _ => ("PrimeProofs$Speller", "size", "I", false)
def aY6 : Nat → FieldType := fun k => match k with
  | 0 => .array .char
  | _ => .int
def aG6 : List Nat := [2, 0]
theorem aN6 : ∀ a, a < 2 → ∀ b, b < 2 → a ≠ b → (aT6 a).2.1 ≠ (aT6 b).2.1 := by decide +kernel
theorem aO6 : ∀ k, k < 2 → parseFieldDescriptor (aT6 k).2.2.1 = some (aY6 k) := by decide +kernel
theorem aI6 : ∀ w ∈ u_ws aR6 aT6 2, w ∈ lw_tbl := plMem (u_ws aR6 aT6 2) [308, 310] (by decide +kernel)
def aR7 : String := "PrimeProofs$Tape"
def aT7 : u_T := fun k => match k with
  | 0 => ("PrimeProofs$Tape", "bytes", "[C", true)
  | _ => ("PrimeProofs$Tape", "size", "I", false)
def aY7 : Nat → FieldType := fun k => match k with
  | 0 => .array .char
  | _ => .int
def aG7 : List Nat := [2, 0]
theorem aN7 : ∀ a, a < 2 → ∀ b, b < 2 → a ≠ b → (aT7 a).2.1 ≠ (aT7 b).2.1 := by decide +kernel
theorem aO7 : ∀ k, k < 2 → parseFieldDescriptor (aT7 k).2.2.1 = some (aY7 k) := by decide +kernel
theorem aI7 : ∀ w ∈ u_ws aR7 aT7 2, w ∈ lw_tbl := plMem (u_ws aR7 aT7 2) [187, 189] (by decide +kernel)
def aR8 : String := "PrimeProofs"
def aT8 : u_T := fun k => match k with
  | 0 => ("PrimeProofs", "ledger", "LPrimeProofs$Ledger;", true)
  | 1 => ("PrimeProofs", "finder", "LPrimeProofs$Finder;", true)
  | 2 => ("PrimeProofs", "tape", "LPrimeProofs$Tape;", true)
  | 3 => ("PrimeProofs", "reader", "LPrimeProofs$Reader;", true)
  | 4 => ("PrimeProofs", "speller", "LPrimeProofs$Speller;", true)
  | _ => ("PrimeProofs", "factors", "LPrimeProofs$Factors;", true)
def aY8 : Nat → FieldType := fun k => match k with
  | 0 => .object "PrimeProofs$Ledger"
  | 1 => .object "PrimeProofs$Finder"
  | 2 => .object "PrimeProofs$Tape"
  | 3 => .object "PrimeProofs$Reader"
  | 4 => .object "PrimeProofs$Speller"
  | _ => .object "PrimeProofs$Factors"
def aG8 : List Nat := [2, 2, 2, 2, 2, 2]
theorem aN8 : ∀ a, a < 6 → ∀ b, b < 6 → a ≠ b → (aT8 a).2.1 ≠ (aT8 b).2.1 := by decide +kernel
theorem aO8 : ∀ k, k < 6 → parseFieldDescriptor (aT8 k).2.2.1 = some (aY8 k) := by decide +kernel
theorem aI8 : ∀ w ∈ u_ws aR8 aT8 6, w ∈ lw_tbl := plMem (u_ws aR8 aT8 6) [321, 323, 325, 327, 329, 331] (by decide +kernel)
def aR9 : String := "PrimeProofsModel"
def aT9 : u_T := fun k => match k with
  | 0 => ("PrimeProofsModel", "thrown", "I", false)
  | 1 => ("PrimeProofsModel", "so", "[J", true)
  | 2 => ("PrimeProofsModel", "by", "[J", true)
  | 3 => ("PrimeProofsModel", "then", "[J", true)
  | 4 => ("PrimeProofsModel", "factor", "[I", true)
  | 5 => ("PrimeProofsModel", "power", "[I", true)
  | 6 => ("PrimeProofsModel", "factors", "I", false)
  | 7 => ("PrimeProofsModel", "many", "I", false)
  | 8 => ("PrimeProofsModel", "lineN", "[I", true)
  | 9 => ("PrimeProofsModel", "lineSort", "[I", true)
  | 10 => ("PrimeProofsModel", "lineP", "[I", true)
  | 11 => ("PrimeProofsModel", "lineQ", "[I", true)
  | 12 => ("PrimeProofsModel", "downs", "[I", true)
  | 13 => ("PrimeProofsModel", "ups", "[I", true)
  | 14 => ("PrimeProofsModel", "downQ", "[I", true)
  | 15 => ("PrimeProofsModel", "downE", "[I", true)
  | 16 => ("PrimeProofsModel", "downA", "[I", true)
  | 17 => ("PrimeProofsModel", "upQ", "[I", true)
  | 18 => ("PrimeProofsModel", "upE", "[I", true)
  | 19 => ("PrimeProofsModel", "isRight", "[Z", true)
  | 20 => ("PrimeProofsModel", "faults", "[I", true)
  | 21 => ("PrimeProofsModel", "waitN", "[I", true)
  | 22 => ("PrimeProofsModel", "waitSort", "[I", true)
  | 23 => ("PrimeProofsModel", "tape", "[I", true)
  | 24 => ("PrimeProofsModel", "taped", "I", false)
  | 25 => ("PrimeProofsModel", "token", "I", false)
  | 26 => ("PrimeProofsModel", "at", "I", false)
  | 27 => ("PrimeProofsModel", "word", "I", false)
  | 28 => ("PrimeProofsModel", "number", "J", false)
  | 29 => ("PrimeProofsModel", "next", "I", false)
  | 30 => ("PrimeProofsModel", "wrong", "I", false)
  | 31 => ("PrimeProofsModel", "words", "[B", true)
  | 32 => ("PrimeProofsModel", "signs", "[I", true)
  | 33 => ("PrimeProofsModel", "signMany", "I", false)
  | _ => ("PrimeProofsModel", "deeps", "[I", true)
def aY9 : Nat → FieldType := fun k => match k with
  | 0 => .int
  | 1 => .array .long
  | 2 => .array .long
  | 3 => .array .long
  | 4 => .array .int
  | 5 => .array .int
  | 6 => .int
  | 7 => .int
  | 8 => .array .int
  | 9 => .array .int
  | 10 => .array .int
  | 11 => .array .int
  | 12 => .array .int
  | 13 => .array .int
  | 14 => .array .int
  | 15 => .array .int
  | 16 => .array .int
  | 17 => .array .int
  | 18 => .array .int
  | 19 => .array .boolean
  | 20 => .array .int
  | 21 => .array .int
  | 22 => .array .int
  | 23 => .array .int
  | 24 => .int
  | 25 => .int
  | 26 => .int
  | 27 => .int
  | 28 => .long
  | 29 => .int
  | 30 => .int
  | 31 => .array .byte
  | 32 => .array .int
  | 33 => .int
  | _ => .array .int
def aG9 : List Nat := [0, 2, 2, 2, 2, 2, 0, 0, 2, 2, 2, 2, 2, 2, 2, 2, 2, 2, 2, 2, 2, 2, 2, 2, 0, 0, 0, 0, 1, 0, 0, 2, 2, 0, 2]
theorem aN9 : ∀ a, a < 35 → ∀ b, b < 35 → a ≠ b → (aT9 a).2.1 ≠ (aT9 b).2.1 := by decide +kernel
theorem aO9 : ∀ k, k < 35 → parseFieldDescriptor (aT9 k).2.2.1 = some (aY9 k) := by decide +kernel
theorem aI9 : ∀ w ∈ u_ws aR9 aT9 35, w ∈ lw_tbl := plMem (u_ws aR9 aT9 35) [1052, 1054, 1056, 1058, 1060, 1062, 1064, 1066, 1068, 1070, 1072, 1074, 1076, 1078, 1080, 1082, 1084, 1086, 1088, 1090, 1092, 1094, 1096, 1098, 1100, 1102, 1104, 1106, 1108, 1110, 1112, 1114, 1116, 1118, 1120] (by decide +kernel)
abbrev aCl : List vw_C := [(aR0, aT0, 3), (aR1, aT1, 4), (aR2, aT2, 6), (aR3, aT3, 7), (aR4, aT4, 6), (aR5, aT5, 2), (aR6, aT6, 2), (aR7, aT7, 2), (aR8, aT8, 6), (aR9, aT9, 35)]
abbrev aM : Type := ByteArray × MethodName × Nat × Option FieldType × Nat × Nat × Nat
abbrev aM_0 : aM := (prog_1_method_1_code, ⟨"PrimeProofs", "<init>", "()V"⟩, 1, (Option.none : Option Jvm.ClassFile.FieldType), 1, 1, 0)
abbrev aM_1 : aM := (prog_6_method_1_code, ⟨"PrimeProofs$Ledger", "<init>", "()V"⟩, 1, (Option.none : Option Jvm.ClassFile.FieldType), 1, 1, 1)
abbrev aM_2 : aM := (prog_5_method_1_code, ⟨"PrimeProofs$Finder", "<init>", "(LPrimeProofs$Ledger;)V"⟩, 2, (Option.none : Option Jvm.ClassFile.FieldType), 2, 1, 2)
abbrev aM_3 : aM := (prog_4_method_1_code, ⟨"PrimeProofs$Factors", "<init>", "()V"⟩, 1, (Option.none : Option Jvm.ClassFile.FieldType), 1, 1, 3)
abbrev aM_4 : aM := (prog_11_method_1_code, ⟨"PrimeProofs$Tape", "<init>", "()V"⟩, 1, (Option.none : Option Jvm.ClassFile.FieldType), 1, 1, 4)
abbrev aM_5 : aM := (prog_8_method_1_code, ⟨"PrimeProofs$Reader", "<init>", "(LPrimeProofs$Tape;LPrimeProofs$Ledger;)V"⟩, 3, (Option.none : Option Jvm.ClassFile.FieldType), 3, 1, 5)
abbrev aM_6 : aM := (prog_7_method_1_code, ⟨"PrimeProofs$Line", "<init>", "()V"⟩, 1, (Option.none : Option Jvm.ClassFile.FieldType), 1, 1, 6)
abbrev aM_7 : aM := (prog_9_method_1_code, ⟨"PrimeProofs$Side", "<init>", "()V"⟩, 1, (Option.none : Option Jvm.ClassFile.FieldType), 1, 1, 7)
abbrev aM_8 : aM := (prog_10_method_1_code, ⟨"PrimeProofs$Speller", "<init>", "()V"⟩, 1, (Option.none : Option Jvm.ClassFile.FieldType), 1, 1, 8)
abbrev aM_9 : aM := (prog_1_method_2_code, ⟨"PrimeProofs", "find", "(II)I"⟩, 4, (Option.some Jvm.ClassFile.FieldType.int), 3, 1, 0)
abbrev aM_10 : aM := (prog_2_method_2_code, ⟨"PrimeProofs$Arithmetic", "isNumber", "(I)Z"⟩, 1, (Option.some Jvm.ClassFile.FieldType.boolean), 1, 0, 9)
abbrev aM_11 : aM := (prog_6_method_8_code, ⟨"PrimeProofs$Ledger", "leastOfSort", "(II)I"⟩, 4, (Option.some Jvm.ClassFile.FieldType.int), 3, 1, 1)
abbrev aM_12 : aM := (prog_6_method_4_code, ⟨"PrimeProofs$Ledger", "isRight", "(I)Z"⟩, 2, (Option.some Jvm.ClassFile.FieldType.boolean), 2, 1, 1)
abbrev aM_13 : aM := (prog_6_method_2_code, ⟨"PrimeProofs$Ledger", "has", "(I)Z"⟩, 2, (Option.some Jvm.ClassFile.FieldType.boolean), 2, 1, 1)
abbrev aM_14 : aM := (prog_6_method_5_code, ⟨"PrimeProofs$Ledger", "isIn", "(JI)Z"⟩, 3, (Option.some Jvm.ClassFile.FieldType.boolean), 2, 0, 1)
abbrev aM_15 : aM := (prog_5_method_2_code, ⟨"PrimeProofs$Finder", "bring", "(II)I"⟩, 5, (Option.some Jvm.ClassFile.FieldType.int), 3, 1, 2)
abbrev aM_16 : aM := (prog_5_method_3_code, ⟨"PrimeProofs$Finder", "bringAt", "(III)I"⟩, 8, (Option.some Jvm.ClassFile.FieldType.int), 4, 1, 2)
abbrev aM_17 : aM := (prog_5_method_4_code, ⟨"PrimeProofs$Finder", "draftAt", "(I)LPrimeProofs$Line;"⟩, 2, (Option.some (Jvm.ClassFile.FieldType.object "PrimeProofs$Line")), 2, 1, 2)
abbrev aM_18 : aM := (prog_5_method_7_code, ⟨"PrimeProofs$Finder", "lay", "(LPrimeProofs$Line;II)Z"⟩, 4, (Option.some Jvm.ClassFile.FieldType.boolean), 4, 1, 2)
abbrev aM_19 : aM := (prog_7_method_2_code, ⟨"PrimeProofs$Line", "begin", "(II)V"⟩, 3, (Option.none : Option Jvm.ClassFile.FieldType), 3, 1, 6)
abbrev aM_20 : aM := (prog_2_method_8_code, ⟨"PrimeProofs$Arithmetic", "isPrime", "(I)Z"⟩, 5, (Option.some Jvm.ClassFile.FieldType.boolean), 1, 0, 9)
abbrev aM_21 : aM := (prog_2_method_7_code, ⟨"PrimeProofs$Arithmetic", "passesBy", "(II)Z"⟩, 8, (Option.some Jvm.ClassFile.FieldType.boolean), 2, 0, 9)
abbrev aM_22 : aM := (prog_2_method_4_code, ⟨"PrimeProofs$Arithmetic", "powerLeft", "(JJJ)J"⟩, 12, (Option.some Jvm.ClassFile.FieldType.long), 3, 0, 9)
abbrev aM_23 : aM := (prog_4_method_2_code, ⟨"PrimeProofs$Factors", "split", "(I)V"⟩, 5, (Option.none : Option Jvm.ClassFile.FieldType), 2, 1, 3)
abbrev aM_24 : aM := (prog_4_method_3_code, ⟨"PrimeProofs$Factors", "takeAll", "(II)I"⟩, 6, (Option.some Jvm.ClassFile.FieldType.int), 3, 1, 3)
abbrev aM_25 : aM := (prog_2_method_9_code, ⟨"PrimeProofs$Arithmetic", "timesDivides", "(II)I"⟩, 5, (Option.some Jvm.ClassFile.FieldType.int), 2, 0, 9)
abbrev aM_26 : aM := (prog_4_method_4_code, ⟨"PrimeProofs$Factors", "add", "(II)V"⟩, 3, (Option.none : Option Jvm.ClassFile.FieldType), 3, 1, 3)
abbrev aM_27 : aM := (prog_5_method_8_code, ⟨"PrimeProofs$Finder", "layAll", "(LPrimeProofs$Side;LPrimeProofs$Factors;)V"⟩, 3, (Option.none : Option Jvm.ClassFile.FieldType), 2, 0, 2)
abbrev aM_28 : aM := (prog_5_method_9_code, ⟨"PrimeProofs$Finder", "layOne", "(LPrimeProofs$Side;LPrimeProofs$Factors;I)V"⟩, 3, (Option.none : Option Jvm.ClassFile.FieldType), 3, 0, 2)
abbrev aM_29 : aM := (prog_9_method_6_code, ⟨"PrimeProofs$Side", "append", "(III)V"⟩, 4, (Option.none : Option Jvm.ClassFile.FieldType), 4, 1, 7)
abbrev aM_30 : aM := (prog_9_method_5_code, ⟨"PrimeProofs$Side", "put", "(III)V"⟩, 4, (Option.none : Option Jvm.ClassFile.FieldType), 4, 1, 7)
abbrev aM_31 : aM := (prog_5_method_10_code, ⟨"PrimeProofs$Finder", "layByTurns", "(LPrimeProofs$Line;II)V"⟩, 8, (Option.none : Option Jvm.ClassFile.FieldType), 4, 1, 2)
abbrev aM_32 : aM := (prog_3_method_4_code, ⟨"PrimeProofs$Checker", "productFault", "(LPrimeProofs$Line;)I"⟩, 7, (Option.some Jvm.ClassFile.FieldType.int), 1, 0, 10)
abbrev aM_33 : aM := (prog_9_method_9_code, ⟨"PrimeProofs$Side", "product", "()J"⟩, 5, (Option.some Jvm.ClassFile.FieldType.long), 1, 1, 7)
abbrev aM_34 : aM := (prog_9_method_4_code, ⟨"PrimeProofs$Side", "cell", "(II)I"⟩, 3, (Option.some Jvm.ClassFile.FieldType.int), 3, 1, 7)
abbrev aM_35 : aM := (prog_3_method_5_code, ⟨"PrimeProofs$Checker", "divides", "(JJ)Z"⟩, 4, (Option.some Jvm.ClassFile.FieldType.boolean), 2, 0, 10)
abbrev aM_36 : aM := (prog_3_method_6_code, ⟨"PrimeProofs$Checker", "isEnough", "(JJJ)Z"⟩, 12, (Option.some Jvm.ClassFile.FieldType.boolean), 3, 0, 10)
abbrev aM_37 : aM := (prog_2_method_3_code, ⟨"PrimeProofs$Arithmetic", "commonOf", "(JJ)J"⟩, 11, (Option.some Jvm.ClassFile.FieldType.long), 2, 0, 9)
abbrev aM_38 : aM := (prog_5_method_11_code, ⟨"PrimeProofs$Finder", "seek", "(LPrimeProofs$Line;)Z"⟩, 1, (Option.some Jvm.ClassFile.FieldType.boolean), 1, 0, 2)
abbrev aM_39 : aM := (prog_5_method_12_code, ⟨"PrimeProofs$Finder", "seekOneBase", "(LPrimeProofs$Line;)Z"⟩, 3, (Option.some Jvm.ClassFile.FieldType.boolean), 1, 0, 2)
abbrev aM_40 : aM := (prog_3_method_7_code, ⟨"PrimeProofs$Checker", "downFault", "(LPrimeProofs$Line;)I"⟩, 5, (Option.some Jvm.ClassFile.FieldType.int), 1, 0, 10)
abbrev aM_41 : aM := (prog_3_method_8_code, ⟨"PrimeProofs$Checker", "rowFault", "(III)I"⟩, 3, (Option.some Jvm.ClassFile.FieldType.int), 3, 0, 10)
abbrev aM_42 : aM := (prog_15_method_65_code, ⟨"java/lang/Math", "max", "(II)I"⟩, 2, (Option.some Jvm.ClassFile.FieldType.int), 2, 0, 11)
abbrev aM_43 : aM := (prog_5_method_13_code, ⟨"PrimeProofs$Finder", "seekBases", "(LPrimeProofs$Line;)Z"⟩, 3, (Option.some Jvm.ClassFile.FieldType.boolean), 1, 0, 2)
abbrev aM_44 : aM := (prog_5_method_14_code, ⟨"PrimeProofs$Finder", "leastBase", "(II)I"⟩, 3, (Option.some Jvm.ClassFile.FieldType.int), 2, 0, 2)
abbrev aM_45 : aM := (prog_5_method_15_code, ⟨"PrimeProofs$Finder", "seekPQ", "(LPrimeProofs$Line;)Z"⟩, 3, (Option.some Jvm.ClassFile.FieldType.boolean), 1, 0, 2)
abbrev aM_46 : aM := (prog_3_method_9_code, ⟨"PrimeProofs$Checker", "upFault", "(LPrimeProofs$Line;)I"⟩, 8, (Option.some Jvm.ClassFile.FieldType.int), 1, 0, 10)
abbrev aM_47 : aM := (prog_7_method_4_code, ⟨"PrimeProofs$Line", "hasPQ", "()Z"⟩, 1, (Option.some Jvm.ClassFile.FieldType.boolean), 1, 1, 6)
abbrev aM_48 : aM := (prog_2_method_6_code, ⟨"PrimeProofs$Arithmetic", "jacobiOf", "(JJ)I"⟩, 12, (Option.some Jvm.ClassFile.FieldType.int), 2, 0, 9)
abbrev aM_49 : aM := (prog_15_method_52_code, ⟨"java/lang/Math", "floorMod", "(JJ)J"⟩, 6, (Option.some Jvm.ClassFile.FieldType.long), 2, 0, 11)
abbrev aM_50 : aM := (prog_2_method_5_code, ⟨"PrimeProofs$Arithmetic", "sequenceLeft", "(JJJJ)J"⟩, 17, (Option.some Jvm.ClassFile.FieldType.long), 4, 0, 9)
abbrev aM_51 : aM := (prog_7_method_6_code, ⟨"PrimeProofs$Line", "rowCount", "()I"⟩, 1, (Option.some Jvm.ClassFile.FieldType.int), 1, 1, 6)
abbrev aM_52 : aM := (prog_7_method_7_code, ⟨"PrimeProofs$Line", "divisor", "(I)I"⟩, 2, (Option.some Jvm.ClassFile.FieldType.int), 2, 1, 6)
abbrev aM_53 : aM := (prog_6_method_7_code, ⟨"PrimeProofs$Ledger", "leastFor", "(I)I"⟩, 2, (Option.some Jvm.ClassFile.FieldType.int), 2, 1, 1)
abbrev aM_54 : aM := (prog_6_method_6_code, ⟨"PrimeProofs$Ledger", "leastAhead", "(JII)I"⟩, 6, (Option.some Jvm.ClassFile.FieldType.int), 4, 1, 1)
abbrev aM_55 : aM := (prog_6_method_10_code, ⟨"PrimeProofs$Ledger", "appendRight", "(LPrimeProofs$Line;)I"⟩, 3, (Option.some Jvm.ClassFile.FieldType.int), 2, 1, 1)
abbrev aM_56 : aM := (prog_6_method_9_code, ⟨"PrimeProofs$Ledger", "append", "(LPrimeProofs$Line;)I"⟩, 2, (Option.some Jvm.ClassFile.FieldType.int), 2, 1, 1)
abbrev aM_57 : aM := (prog_7_method_3_code, ⟨"PrimeProofs$Line", "copy", "(LPrimeProofs$Line;)V"⟩, 2, (Option.none : Option Jvm.ClassFile.FieldType), 2, 1, 6)
abbrev aM_58 : aM := (prog_9_method_8_code, ⟨"PrimeProofs$Side", "copy", "(LPrimeProofs$Side;)V"⟩, 2, (Option.none : Option Jvm.ClassFile.FieldType), 2, 1, 7)
abbrev aM_59 : aM := (prog_6_method_17_code, ⟨"PrimeProofs$Ledger", "settle", "(II)V"⟩, 6, (Option.none : Option Jvm.ClassFile.FieldType), 3, 1, 1)
abbrev aM_60 : aM := (prog_6_method_11_code, ⟨"PrimeProofs$Ledger", "shorten", "(I)V"⟩, 2, (Option.none : Option Jvm.ClassFile.FieldType), 2, 1, 1)
abbrev aM_61 : aM := (prog_15_method_69_code, ⟨"java/lang/Math", "min", "(II)I"⟩, 2, (Option.some Jvm.ClassFile.FieldType.int), 2, 0, 11)
abbrev aM_62 : aM := (prog_1_method_3_code, ⟨"PrimeProofs", "feed", "(IIIII)I"⟩, 6, (Option.some Jvm.ClassFile.FieldType.int), 6, 1, 0)
abbrev aM_63 : aM := (prog_11_method_2_code, ⟨"PrimeProofs$Tape", "hasRoomFor", "(I)Z"⟩, 2, (Option.some Jvm.ClassFile.FieldType.boolean), 2, 1, 4)
abbrev aM_64 : aM := (prog_11_method_3_code, ⟨"PrimeProofs$Tape", "append", "(I)V"⟩, 3, (Option.none : Option Jvm.ClassFile.FieldType), 2, 1, 4)
abbrev aM_65 : aM := (prog_1_method_4_code, ⟨"PrimeProofs", "back", "(I)I"⟩, 2, (Option.some Jvm.ClassFile.FieldType.int), 2, 1, 0)
abbrev aM_66 : aM := (prog_1_method_5_code, ⟨"PrimeProofs", "read", "()I"⟩, 3, (Option.some Jvm.ClassFile.FieldType.int), 1, 1, 0)
abbrev aM_67 : aM := (prog_8_method_2_code, ⟨"PrimeProofs$Reader", "pass", "(Z)I"⟩, 4, (Option.some Jvm.ClassFile.FieldType.int), 2, 1, 5)
abbrev aM_68 : aM := (prog_8_method_3_code, ⟨"PrimeProofs$Reader", "advance", "()V"⟩, 3, (Option.none : Option Jvm.ClassFile.FieldType), 1, 1, 5)
abbrev aM_69 : aM := (prog_8_method_4_code, ⟨"PrimeProofs$Reader", "kindOf", "(C)I"⟩, 1, (Option.some Jvm.ClassFile.FieldType.int), 1, 0, 5)
abbrev aM_70 : aM := (prog_8_method_9_code, ⟨"PrimeProofs$Reader", "tellLine", "()Z"⟩, 3, (Option.some Jvm.ClassFile.FieldType.boolean), 1, 1, 5)
abbrev aM_71 : aM := (prog_8_method_10_code, ⟨"PrimeProofs$Reader", "sortTold", "()I"⟩, 2, (Option.some Jvm.ClassFile.FieldType.int), 1, 1, 5)
abbrev aM_72 : aM := (prog_10_method_2_code, ⟨"PrimeProofs$Speller", "nameOf", "(I)Ljava/lang/String;"⟩, 1, (Option.some (Jvm.ClassFile.FieldType.object "java/lang/String")), 1, 0, 8)
abbrev aM_73 : aM := (prog_8_method_5_code, ⟨"PrimeProofs$Reader", "isWord", "(Ljava/lang/String;)Z"⟩, 3, (Option.some Jvm.ClassFile.FieldType.boolean), 2, 1, 5)
abbrev aM_74 : aM := (prog_16_method_54_code, ⟨"java/lang/String", "length", "()I"⟩, 1, (Option.some Jvm.ClassFile.FieldType.int), 1, 1, 12)
abbrev aM_75 : aM := (prog_16_method_152_code, ⟨"java/lang/String", "coder", "()B"⟩, 1, (Option.some Jvm.ClassFile.FieldType.byte), 1, 1, 12)
abbrev aM_76 : aM := (prog_16_method_56_code, ⟨"java/lang/String", "charAt", "(I)C"⟩, 2, (Option.some Jvm.ClassFile.FieldType.char), 2, 1, 12)
abbrev aM_77 : aM := (prog_16_method_154_code, ⟨"java/lang/String", "isLatin1", "()Z"⟩, 1, (Option.some Jvm.ClassFile.FieldType.boolean), 1, 1, 12)
abbrev aM_78 : aM := (prog_17_method_2_code, ⟨"java/lang/StringLatin1", "charAt", "([BI)C"⟩, 2, (Option.some Jvm.ClassFile.FieldType.char), 2, 0, 13)
abbrev aM_79 : aM := (prog_16_method_155_code, ⟨"java/lang/String", "checkIndex", "(II)V"⟩, 2, (Option.none : Option Jvm.ClassFile.FieldType), 2, 0, 12)
abbrev aM_80 : aM := (prog_20_method_11_code, ⟨"jdk/internal/util/Preconditions", "checkIndex", "(IILjava/util/function/BiFunction;)I"⟩, 3, (Option.some Jvm.ClassFile.FieldType.int), 3, 0, 14)
abbrev aM_81 : aM := (prog_8_method_7_code, ⟨"PrimeProofs$Reader", "tellInt", "(II)I"⟩, 6, (Option.some Jvm.ClassFile.FieldType.int), 3, 1, 5)
abbrev aM_82 : aM := (prog_8_method_11_code, ⟨"PrimeProofs$Reader", "tellPratt", "()Z"⟩, 2, (Option.some Jvm.ClassFile.FieldType.boolean), 1, 1, 5)
abbrev aM_83 : aM := (prog_8_method_6_code, ⟨"PrimeProofs$Reader", "tellWord", "(Ljava/lang/String;)Z"⟩, 2, (Option.some Jvm.ClassFile.FieldType.boolean), 2, 1, 5)
abbrev aM_84 : aM := (prog_8_method_13_code, ⟨"PrimeProofs$Reader", "tellRows", "(LPrimeProofs$Side;I)Z"⟩, 7, (Option.some Jvm.ClassFile.FieldType.boolean), 3, 1, 5)
abbrev aM_85 : aM := (prog_8_method_8_code, ⟨"PrimeProofs$Reader", "tellEnd", "()Z"⟩, 1, (Option.some Jvm.ClassFile.FieldType.boolean), 1, 1, 5)
abbrev aM_86 : aM := (prog_8_method_12_code, ⟨"PrimeProofs$Reader", "tellPQ", "()Z"⟩, 1, (Option.some Jvm.ClassFile.FieldType.boolean), 1, 1, 5)
abbrev aM_87 : aM := (prog_6_method_14_code, ⟨"PrimeProofs$Ledger", "checkFrom", "(I)V"⟩, 3, (Option.none : Option Jvm.ClassFile.FieldType), 2, 1, 1)
abbrev aM_88 : aM := (prog_6_method_15_code, ⟨"PrimeProofs$Ledger", "faultOf", "(I)I"⟩, 3, (Option.some Jvm.ClassFile.FieldType.int), 2, 1, 1)
abbrev aM_89 : aM := (prog_3_method_2_code, ⟨"PrimeProofs$Checker", "hasFault1", "(LPrimeProofs$Line;)Z"⟩, 1, (Option.some Jvm.ClassFile.FieldType.boolean), 1, 0, 10)
abbrev aM_90 : aM := (prog_9_method_10_code, ⟨"PrimeProofs$Side", "repeats", "()Z"⟩, 3, (Option.some Jvm.ClassFile.FieldType.boolean), 1, 1, 7)
abbrev aM_91 : aM := (prog_6_method_16_code, ⟨"PrimeProofs$Ledger", "stands", "(IJ)Z"⟩, 6, (Option.some Jvm.ClassFile.FieldType.boolean), 3, 1, 1)
abbrev aM_92 : aM := (prog_3_method_3_code, ⟨"PrimeProofs$Checker", "laterFault", "(LPrimeProofs$Line;)I"⟩, 2, (Option.some Jvm.ClassFile.FieldType.int), 1, 0, 10)
abbrev aM_93 : aM := (prog_1_method_6_code, ⟨"PrimeProofs", "set", "(III)I"⟩, 6, (Option.some Jvm.ClassFile.FieldType.int), 4, 1, 0)
abbrev aM_94 : aM := (prog_1_method_42_code, ⟨"PrimeProofs", "isPQ", "(I)Z"⟩, 1, (Option.some Jvm.ClassFile.FieldType.boolean), 1, 0, 0)
abbrev aM_95 : aM := (prog_1_method_7_code, ⟨"PrimeProofs", "alter", "(IZIII)I"⟩, 9, (Option.some Jvm.ClassFile.FieldType.int), 6, 1, 0)
abbrev aM_96 : aM := (prog_6_method_3_code, ⟨"PrimeProofs$Ledger", "hasRow", "(IZI)Z"⟩, 4, (Option.some Jvm.ClassFile.FieldType.boolean), 4, 1, 1)
abbrev aM_97 : aM := (prog_7_method_5_code, ⟨"PrimeProofs$Line", "side", "(Z)LPrimeProofs$Side;"⟩, 2, (Option.some (Jvm.ClassFile.FieldType.object "PrimeProofs$Side")), 2, 1, 6)
abbrev aM_98 : aM := (prog_9_method_3_code, ⟨"PrimeProofs$Side", "has", "(I)Z"⟩, 2, (Option.some Jvm.ClassFile.FieldType.boolean), 2, 1, 7)
abbrev aM_99 : aM := (prog_9_method_2_code, ⟨"PrimeProofs$Side", "fits", "(ZII)Z"⟩, 3, (Option.some Jvm.ClassFile.FieldType.boolean), 3, 0, 7)
abbrev aM_100 : aM := (prog_1_method_8_code, ⟨"PrimeProofs", "cut", "(IZI)I"⟩, 6, (Option.some Jvm.ClassFile.FieldType.int), 4, 1, 0)
abbrev aM_101 : aM := (prog_9_method_7_code, ⟨"PrimeProofs$Side", "takeOut", "(I)V"⟩, 3, (Option.none : Option Jvm.ClassFile.FieldType), 2, 1, 7)
abbrev aM_102 : aM := (prog_1_method_9_code, ⟨"PrimeProofs", "move", "(II)I"⟩, 3, (Option.some Jvm.ClassFile.FieldType.int), 3, 1, 0)
abbrev aM_103 : aM := (prog_6_method_12_code, ⟨"PrimeProofs$Ledger", "shift", "(II)V"⟩, 7, (Option.none : Option Jvm.ClassFile.FieldType), 3, 1, 1)
abbrev aM_104 : aM := (prog_15_method_59_code, ⟨"java/lang/Math", "abs", "(I)I"⟩, 1, (Option.some Jvm.ClassFile.FieldType.int), 1, 0, 11)
abbrev aM_105 : aM := (prog_1_method_10_code, ⟨"PrimeProofs", "mend", "(I)I"⟩, 4, (Option.some Jvm.ClassFile.FieldType.int), 2, 1, 0)
abbrev aM_106 : aM := (prog_5_method_5_code, ⟨"PrimeProofs$Finder", "foundAlone", "(II)LPrimeProofs$Line;"⟩, 4, (Option.some (Jvm.ClassFile.FieldType.object "PrimeProofs$Line")), 3, 1, 2)
abbrev aM_107 : aM := (prog_5_method_6_code, ⟨"PrimeProofs$Finder", "laidAlone", "(II)LPrimeProofs$Line;"⟩, 4, (Option.some (Jvm.ClassFile.FieldType.object "PrimeProofs$Line")), 3, 1, 2)
abbrev aM_108 : aM := (prog_1_method_11_code, ⟨"PrimeProofs", "prune", "(I)I"⟩, 2, (Option.some Jvm.ClassFile.FieldType.int), 2, 1, 0)
abbrev aM_109 : aM := (prog_6_method_13_code, ⟨"PrimeProofs$Ledger", "keepOnly", "(J)V"⟩, 6, (Option.none : Option Jvm.ClassFile.FieldType), 2, 1, 1)
abbrev aM_110 : aM := (prog_1_method_12_code, ⟨"PrimeProofs", "drop", "()I"⟩, 1, (Option.some Jvm.ClassFile.FieldType.int), 1, 1, 0)
abbrev aM_111 : aM := (prog_1_method_13_code, ⟨"PrimeProofs", "clear", "()I"⟩, 2, (Option.some Jvm.ClassFile.FieldType.int), 1, 1, 0)
abbrev aM_112 : aM := (prog_1_method_14_code, ⟨"PrimeProofs", "line", "(II)I"⟩, 4, (Option.some Jvm.ClassFile.FieldType.int), 3, 1, 0)
abbrev aM_113 : aM := (prog_1_method_15_code, ⟨"PrimeProofs", "row", "(IZII)I"⟩, 7, (Option.some Jvm.ClassFile.FieldType.int), 5, 1, 0)
abbrev aM_114 : aM := (prog_1_method_16_code, ⟨"PrimeProofs", "right", "()J"⟩, 1, (Option.some Jvm.ClassFile.FieldType.long), 1, 1, 0)
abbrev aM_115 : aM := (prog_1_method_17_code, ⟨"PrimeProofs", "rests", "(I)J"⟩, 2, (Option.some Jvm.ClassFile.FieldType.long), 2, 1, 0)
abbrev aM_116 : aM := (prog_1_method_18_code, ⟨"PrimeProofs", "deep", "(I)I"⟩, 2, (Option.some Jvm.ClassFile.FieldType.int), 2, 1, 0)
abbrev aM_117 : aM := (prog_1_method_19_code, ⟨"PrimeProofs", "falls", "(I)J"⟩, 2, (Option.some Jvm.ClassFile.FieldType.long), 2, 1, 0)
abbrev aM_118 : aM := (prog_6_method_18_code, ⟨"PrimeProofs$Ledger", "fallen", "(I)J"⟩, 5, (Option.some Jvm.ClassFile.FieldType.long), 2, 1, 1)
abbrev aM_119 : aM := (prog_1_method_20_code, ⟨"PrimeProofs", "cost", "(I)I"⟩, 2, (Option.some Jvm.ClassFile.FieldType.int), 2, 1, 0)
abbrev aM_120 : aM := (prog_3_method_10_code, ⟨"PrimeProofs$Checker", "costOf", "(LPrimeProofs$Line;)I"⟩, 5, (Option.some Jvm.ClassFile.FieldType.int), 1, 0, 10)
abbrev aM_121 : aM := (prog_3_method_11_code, ⟨"PrimeProofs$Checker", "powerCost", "(I)I"⟩, 3, (Option.some Jvm.ClassFile.FieldType.int), 1, 0, 10)
abbrev aM_122 : aM := (prog_1_method_21_code, ⟨"PrimeProofs", "loose", "(II)I"⟩, 3, (Option.some Jvm.ClassFile.FieldType.int), 3, 1, 0)
abbrev aM_123 : aM := (prog_3_method_12_code, ⟨"PrimeProofs$Checker", "goodBases", "(LPrimeProofs$Line;I)I"⟩, 5, (Option.some Jvm.ClassFile.FieldType.int), 2, 0, 10)
abbrev aM_124 : aM := (prog_1_method_22_code, ⟨"PrimeProofs", "shared", "(II)J"⟩, 3, (Option.some Jvm.ClassFile.FieldType.long), 3, 1, 0)
abbrev aM_125 : aM := (prog_1_method_23_code, ⟨"PrimeProofs", "spell", "(II)I"⟩, 3, (Option.some Jvm.ClassFile.FieldType.int), 3, 1, 0)
abbrev aM_126 : aM := (prog_10_method_3_code, ⟨"PrimeProofs$Speller", "write", "(LPrimeProofs$Line;)V"⟩, 2, (Option.none : Option Jvm.ClassFile.FieldType), 2, 1, 8)
abbrev aM_127 : aM := (prog_10_method_6_code, ⟨"PrimeProofs$Speller", "writeWord", "(Ljava/lang/String;)V"⟩, 3, (Option.none : Option Jvm.ClassFile.FieldType), 2, 1, 8)
abbrev aM_128 : aM := (prog_10_method_5_code, ⟨"PrimeProofs$Speller", "writeBlank", "()V"⟩, 1, (Option.none : Option Jvm.ClassFile.FieldType), 1, 1, 8)
abbrev aM_129 : aM := (prog_10_method_8_code, ⟨"PrimeProofs$Speller", "writeSign", "(C)V"⟩, 2, (Option.none : Option Jvm.ClassFile.FieldType), 2, 1, 8)
abbrev aM_130 : aM := (prog_10_method_7_code, ⟨"PrimeProofs$Speller", "writeInt", "(I)V"⟩, 5, (Option.none : Option Jvm.ClassFile.FieldType), 2, 1, 8)
abbrev aM_131 : aM := (prog_10_method_4_code, ⟨"PrimeProofs$Speller", "writeRows", "(LPrimeProofs$Side;Z)V"⟩, 4, (Option.none : Option Jvm.ClassFile.FieldType), 3, 1, 8)
abbrev aM_132 : aM := (prog_1_method_24_code, ⟨"PrimeProofs", "proof", "(I)I"⟩, 3, (Option.some Jvm.ClassFile.FieldType.int), 2, 1, 0)
abbrev aM_133 : aM := (prog_1_method_25_code, ⟨"PrimeProofs", "prime", "(II)I"⟩, 3, (Option.some Jvm.ClassFile.FieldType.int), 3, 1, 0)
abbrev aM_134 : aM := (prog_1_method_26_code, ⟨"PrimeProofs", "often", "(II)I"⟩, 3, (Option.some Jvm.ClassFile.FieldType.int), 3, 1, 0)
abbrev aM_135 : aM := (prog_1_method_27_code, ⟨"PrimeProofs", "needs", "(II)I"⟩, 4, (Option.some Jvm.ClassFile.FieldType.int), 3, 1, 0)
abbrev aM_136 : aM := (prog_1_method_28_code, ⟨"PrimeProofs", "fewest", "(I)I"⟩, 6, (Option.some Jvm.ClassFile.FieldType.int), 2, 1, 0)
abbrev aM_137 : aM := (prog_1_method_29_code, ⟨"PrimeProofs", "next", "(I)I"⟩, 3, (Option.some Jvm.ClassFile.FieldType.int), 2, 1, 0)
abbrev aM_138 : aM := (prog_1_method_30_code, ⟨"PrimeProofs", "smooth", "(II)I"⟩, 5, (Option.some Jvm.ClassFile.FieldType.int), 3, 1, 0)
abbrev aM_139 : aM := (prog_4_method_5_code, ⟨"PrimeProofs$Factors", "share", "(I)I"⟩, 4, (Option.some Jvm.ClassFile.FieldType.int), 2, 1, 3)
abbrev aM_140 : aM := (prog_1_method_31_code, ⟨"PrimeProofs", "bound", "(I)I"⟩, 5, (Option.some Jvm.ClassFile.FieldType.int), 2, 1, 0)
abbrev aM_141 : aM := (prog_1_method_32_code, ⟨"PrimeProofs", "chase", "(II)I"⟩, 10, (Option.some Jvm.ClassFile.FieldType.int), 3, 1, 0)
abbrev aM_142 : aM := (prog_15_method_61_code, ⟨"java/lang/Math", "abs", "(J)J"⟩, 2, (Option.some Jvm.ClassFile.FieldType.long), 1, 0, 11)
abbrev aM_143 : aM := (prog_1_method_33_code, ⟨"PrimeProofs", "primes", "(II)I"⟩, 5, (Option.some Jvm.ClassFile.FieldType.int), 3, 1, 0)
abbrev aM_144 : aM := (prog_1_method_34_code, ⟨"PrimeProofs", "passes", "(II)I"⟩, 3, (Option.some Jvm.ClassFile.FieldType.int), 3, 1, 0)
abbrev aM_145 : aM := (prog_1_method_43_code, ⟨"PrimeProofs", "isOddNumber", "(I)Z"⟩, 1, (Option.some Jvm.ClassFile.FieldType.boolean), 1, 0, 0)
abbrev aM_146 : aM := (prog_1_method_35_code, ⟨"PrimeProofs", "fools", "(II)I"⟩, 6, (Option.some Jvm.ClassFile.FieldType.int), 3, 1, 0)
abbrev aM_147 : aM := (prog_1_method_36_code, ⟨"PrimeProofs", "power", "(III)I"⟩, 4, (Option.some Jvm.ClassFile.FieldType.int), 4, 1, 0)
abbrev aM_148 : aM := (prog_1_method_37_code, ⟨"PrimeProofs", "order", "(II)I"⟩, 5, (Option.some Jvm.ClassFile.FieldType.int), 3, 1, 0)
abbrev aM_149 : aM := (prog_4_method_6_code, ⟨"PrimeProofs$Factors", "unitCount", "(I)I"⟩, 4, (Option.some Jvm.ClassFile.FieldType.int), 2, 1, 3)
abbrev aM_150 : aM := (prog_4_method_7_code, ⟨"PrimeProofs$Factors", "lessened", "(IIII)I"⟩, 8, (Option.some Jvm.ClassFile.FieldType.int), 5, 1, 3)
abbrev aM_151 : aM := (prog_1_method_38_code, ⟨"PrimeProofs", "jacobi", "(II)I"⟩, 3, (Option.some Jvm.ClassFile.FieldType.int), 3, 1, 0)
abbrev aM_152 : aM := (prog_1_method_39_code, ⟨"PrimeProofs", "u", "(IIII)I"⟩, 5, (Option.some Jvm.ClassFile.FieldType.int), 5, 1, 0)
abbrev aM_153 : aM := (prog_1_method_40_code, ⟨"PrimeProofs", "units", "(I)I"⟩, 2, (Option.some Jvm.ClassFile.FieldType.int), 2, 1, 0)
abbrev aM_154 : aM := (prog_1_method_41_code, ⟨"PrimeProofs", "count", "(I)I"⟩, 2, (Option.some Jvm.ClassFile.FieldType.int), 2, 1, 0)
abbrev aM_155 : aM := (prog_14_method_50_code, ⟨"java/lang/Long", "bitCount", "(J)I"⟩, 2, (Option.some Jvm.ClassFile.FieldType.int), 1, 0, 15)
abbrev aM_156 : aM := (prog_6_method_19_code, ⟨"PrimeProofs$Ledger", "rowsOfAll", "()I"⟩, 3, (Option.some Jvm.ClassFile.FieldType.int), 1, 1, 1)
abbrev aM_157 : aM := (prog_6_method_20_code, ⟨"PrimeProofs$Ledger", "greatestRight", "()I"⟩, 3, (Option.some Jvm.ClassFile.FieldType.int), 1, 1, 1)
abbrev aM_158 : aM := (prog_6_method_21_code, ⟨"PrimeProofs$Ledger", "deepestRight", "()I"⟩, 3, (Option.some Jvm.ClassFile.FieldType.int), 1, 1, 1)
abbrev aM_159 : aM := (prog_6_method_22_code, ⟨"PrimeProofs$Ledger", "costOfRight", "()I"⟩, 3, (Option.some Jvm.ClassFile.FieldType.int), 1, 1, 1)
abbrev aM_160 : aM := (prog_13_method_11_code, ⟨"PrimeProofsModel", "<init>", "()V"⟩, 1, (Option.none : Option Jvm.ClassFile.FieldType), 1, 1, 16)
abbrev aM_161 : aM := (prog_13_method_41_code, ⟨"PrimeProofsModel", "find", "(II)I"⟩, 9, (Option.some Jvm.ClassFile.FieldType.int), 3, 1, 16)
abbrev aM_162 : aM := (prog_13_method_2_code, ⟨"PrimeProofsModel", "in", "(JJJ)Z"⟩, 6, (Option.some Jvm.ClassFile.FieldType.boolean), 3, 0, 16)
abbrev aM_163 : aM := (prog_13_method_3_code, ⟨"PrimeProofsModel", "isNumber", "(J)Z"⟩, 2, (Option.some Jvm.ClassFile.FieldType.boolean), 1, 0, 16)
abbrev aM_164 : aM := (prog_13_method_32_code, ⟨"PrimeProofsModel", "laysRight", "()V"⟩, 2, (Option.none : Option Jvm.ClassFile.FieldType), 1, 1, 16)
abbrev aM_165 : aM := (prog_13_method_31_code, ⟨"PrimeProofsModel", "faultOf", "(I)I"⟩, 6, (Option.some Jvm.ClassFile.FieldType.int), 2, 1, 16)
abbrev aM_166 : aM := (prog_13_method_6_code, ⟨"PrimeProofsModel", "isPrime", "(J)Z"⟩, 4, (Option.some Jvm.ClassFile.FieldType.boolean), 1, 0, 16)
abbrev aM_167 : aM := (prog_13_method_23_code, ⟨"PrimeProofsModel", "areTwice", "([III)Z"⟩, 5, (Option.some Jvm.ClassFile.FieldType.boolean), 3, 0, 16)
abbrev aM_168 : aM := (prog_13_method_24_code, ⟨"PrimeProofsModel", "hasAll", "([IIII)Z"⟩, 6, (Option.some Jvm.ClassFile.FieldType.boolean), 5, 1, 16)
abbrev aM_169 : aM := (prog_13_method_22_code, ⟨"PrimeProofsModel", "lineFor", "(II)I"⟩, 4, (Option.some Jvm.ClassFile.FieldType.int), 3, 1, 16)
abbrev aM_170 : aM := (prog_13_method_26_code, ⟨"PrimeProofsModel", "isFit", "(I)Z"⟩, 8, (Option.some Jvm.ClassFile.FieldType.boolean), 2, 1, 16)
abbrev aM_171 : aM := (prog_13_method_20_code, ⟨"PrimeProofsModel", "below", "(I)J"⟩, 2, (Option.some Jvm.ClassFile.FieldType.long), 2, 1, 16)
abbrev aM_172 : aM := (prog_13_method_19_code, ⟨"PrimeProofsModel", "product", "([I[III)J"⟩, 9, (Option.some Jvm.ClassFile.FieldType.long), 5, 1, 16)
abbrev aM_173 : aM := (prog_13_method_21_code, ⟨"PrimeProofsModel", "above", "(I)J"⟩, 2, (Option.some Jvm.ClassFile.FieldType.long), 2, 1, 16)
abbrev aM_174 : aM := (prog_13_method_27_code, ⟨"PrimeProofsModel", "isEnough", "(I)Z"⟩, 4, (Option.some Jvm.ClassFile.FieldType.boolean), 2, 1, 16)
abbrev aM_175 : aM := (prog_13_method_25_code, ⟨"PrimeProofsModel", "isLittle", "(JJJ)Z"⟩, 10, (Option.some Jvm.ClassFile.FieldType.boolean), 3, 0, 16)
abbrev aM_176 : aM := (prog_13_method_4_code, ⟨"PrimeProofsModel", "common", "(JJ)J"⟩, 10, (Option.some Jvm.ClassFile.FieldType.long), 2, 0, 16)
abbrev aM_177 : aM := (prog_13_method_28_code, ⟨"PrimeProofsModel", "isOneBy", "(JJ)Z"⟩, 4, (Option.some Jvm.ClassFile.FieldType.boolean), 2, 0, 16)
abbrev aM_178 : aM := (prog_13_method_5_code, ⟨"PrimeProofsModel", "powerOf", "(JJJ)J"⟩, 12, (Option.some Jvm.ClassFile.FieldType.long), 3, 0, 16)
abbrev aM_179 : aM := (prog_13_method_29_code, ⟨"PrimeProofsModel", "isApartBy", "(JJJ)Z"⟩, 8, (Option.some Jvm.ClassFile.FieldType.boolean), 3, 0, 16)
abbrev aM_180 : aM := (prog_13_method_14_code, ⟨"PrimeProofsModel", "hasPair", "(I)Z"⟩, 1, (Option.some Jvm.ClassFile.FieldType.boolean), 1, 0, 16)
abbrev aM_181 : aM := (prog_13_method_30_code, ⟨"PrimeProofsModel", "wrongPair", "(IJJ)I"⟩, 9, (Option.some Jvm.ClassFile.FieldType.int), 4, 1, 16)
abbrev aM_182 : aM := (prog_13_method_7_code, ⟨"PrimeProofsModel", "signOf", "(JJ)I"⟩, 11, (Option.some Jvm.ClassFile.FieldType.int), 2, 0, 16)
abbrev aM_183 : aM := (prog_13_method_9_code, ⟨"PrimeProofsModel", "sequence", "(JJJJ)J"⟩, 11, (Option.some Jvm.ClassFile.FieldType.long), 5, 1, 16)
abbrev aM_184 : aM := (prog_13_method_8_code, ⟨"PrimeProofsModel", "times", "([J[JJ)V"⟩, 7, (Option.none : Option Jvm.ClassFile.FieldType), 4, 1, 16)
abbrev aM_185 : aM := (prog_13_method_39_code, ⟨"PrimeProofsModel", "works", "(II)Z"⟩, 3, (Option.some Jvm.ClassFile.FieldType.boolean), 3, 1, 16)
abbrev aM_186 : aM := (prog_13_method_15_code, ⟨"PrimeProofsModel", "begins", "(III)V"⟩, 4, (Option.none : Option Jvm.ClassFile.FieldType), 4, 1, 16)
abbrev aM_187 : aM := (prog_13_method_35_code, ⟨"PrimeProofsModel", "laysRows", "(I)V"⟩, 5, (Option.none : Option Jvm.ClassFile.FieldType), 2, 1, 16)
abbrev aM_188 : aM := (prog_13_method_10_code, ⟨"PrimeProofsModel", "laysFactors", "(J)V"⟩, 7, (Option.none : Option Jvm.ClassFile.FieldType), 2, 1, 16)
abbrev aM_189 : aM := (prog_13_method_34_code, ⟨"PrimeProofsModel", "rowsOf", "(IZII)V"⟩, 5, (Option.none : Option Jvm.ClassFile.FieldType), 5, 1, 16)
abbrev aM_190 : aM := (prog_13_method_17_code, ⟨"PrimeProofsModel", "addsUp", "(III)V"⟩, 5, (Option.none : Option Jvm.ClassFile.FieldType), 4, 1, 16)
abbrev aM_191 : aM := (prog_13_method_16_code, ⟨"PrimeProofsModel", "addsDown", "(IIII)V"⟩, 6, (Option.none : Option Jvm.ClassFile.FieldType), 5, 1, 16)
abbrev aM_192 : aM := (prog_13_method_36_code, ⟨"PrimeProofsModel", "turns", "(II)V"⟩, 7, (Option.none : Option Jvm.ClassFile.FieldType), 3, 1, 16)
abbrev aM_193 : aM := (prog_13_method_37_code, ⟨"PrimeProofsModel", "laysBases", "(I)Z"⟩, 7, (Option.some Jvm.ClassFile.FieldType.boolean), 2, 1, 16)
abbrev aM_194 : aM := (prog_13_method_38_code, ⟨"PrimeProofsModel", "laysPair", "(I)Z"⟩, 4, (Option.some Jvm.ClassFile.FieldType.boolean), 2, 1, 16)
abbrev aM_195 : aM := (prog_13_method_40_code, ⟨"PrimeProofsModel", "missing", "()I"⟩, 2, (Option.some Jvm.ClassFile.FieldType.int), 1, 1, 16)
abbrev aM_196 : aM := (prog_13_method_18_code, ⟨"PrimeProofsModel", "becomes", "(II)V"⟩, 4, (Option.none : Option Jvm.ClassFile.FieldType), 3, 1, 16)
abbrev aM_197 : aM := (prog_13_method_42_code, ⟨"PrimeProofsModel", "mend", "(I)I"⟩, 2, (Option.some Jvm.ClassFile.FieldType.int), 2, 1, 16)
abbrev aM_198 : aM := (prog_13_method_12_code, ⟨"PrimeProofsModel", "isLine", "(I)Z"⟩, 2, (Option.some Jvm.ClassFile.FieldType.boolean), 2, 1, 16)
abbrev aM_199 : aM := (prog_13_method_43_code, ⟨"PrimeProofsModel", "needs", "(II)I"⟩, 3, (Option.some Jvm.ClassFile.FieldType.int), 3, 1, 16)
abbrev aM_200 : aM := (prog_13_method_44_code, ⟨"PrimeProofsModel", "fewest", "(I)I"⟩, 7, (Option.some Jvm.ClassFile.FieldType.int), 2, 1, 16)
abbrev aM_201 : aM := (prog_13_method_45_code, ⟨"PrimeProofsModel", "feed", "(IIIII)I"⟩, 8, (Option.some Jvm.ClassFile.FieldType.int), 6, 1, 16)
abbrev aM_202 : aM := (prog_13_method_46_code, ⟨"PrimeProofsModel", "back", "(I)I"⟩, 2, (Option.some Jvm.ClassFile.FieldType.int), 2, 1, 16)
abbrev aM_203 : aM := (prog_13_method_58_code, ⟨"PrimeProofsModel", "read", "()I"⟩, 2, (Option.some Jvm.ClassFile.FieldType.int), 1, 1, 16)
abbrev aM_204 : aM := (prog_13_method_51_code, ⟨"PrimeProofsModel", "goesOn", "()V"⟩, 4, (Option.none : Option Jvm.ClassFile.FieldType), 1, 1, 16)
abbrev aM_205 : aM := (prog_13_method_47_code, ⟨"PrimeProofsModel", "isLetter", "(I)Z"⟩, 2, (Option.some Jvm.ClassFile.FieldType.boolean), 2, 1, 16)
abbrev aM_206 : aM := (prog_13_method_50_code, ⟨"PrimeProofsModel", "isWord", "(I)Z"⟩, 4, (Option.some Jvm.ClassFile.FieldType.boolean), 2, 1, 16)
abbrev aM_207 : aM := (prog_13_method_49_code, ⟨"PrimeProofsModel", "wordFrom", "(I)I"⟩, 4, (Option.some Jvm.ClassFile.FieldType.int), 2, 1, 16)
abbrev aM_208 : aM := (prog_13_method_48_code, ⟨"PrimeProofsModel", "isDigit", "(I)Z"⟩, 2, (Option.some Jvm.ClassFile.FieldType.boolean), 2, 1, 16)
abbrev aM_209 : aM := (prog_13_method_57_code, ⟨"PrimeProofsModel", "readsLine", "(I)V"⟩, 5, (Option.none : Option Jvm.ClassFile.FieldType), 2, 1, 16)
abbrev aM_210 : aM := (prog_13_method_52_code, ⟨"PrimeProofsModel", "fails", "()V"⟩, 1, (Option.none : Option Jvm.ClassFile.FieldType), 1, 1, 16)
abbrev aM_211 : aM := (prog_13_method_54_code, ⟨"PrimeProofsModel", "needsInt", "(II)I"⟩, 4, (Option.some Jvm.ClassFile.FieldType.int), 3, 1, 16)
abbrev aM_212 : aM := (prog_13_method_53_code, ⟨"PrimeProofsModel", "needsWord", "(I)V"⟩, 2, (Option.none : Option Jvm.ClassFile.FieldType), 2, 1, 16)
abbrev aM_213 : aM := (prog_13_method_13_code, ⟨"PrimeProofsModel", "hasDowns", "(I)Z"⟩, 1, (Option.some Jvm.ClassFile.FieldType.boolean), 1, 0, 16)
abbrev aM_214 : aM := (prog_13_method_55_code, ⟨"PrimeProofsModel", "readsDowns", "(II)V"⟩, 6, (Option.none : Option Jvm.ClassFile.FieldType), 3, 1, 16)
abbrev aM_215 : aM := (prog_13_method_56_code, ⟨"PrimeProofsModel", "readsUps", "(I)V"⟩, 4, (Option.none : Option Jvm.ClassFile.FieldType), 2, 1, 16)
abbrev aM_216 : aM := (prog_13_method_63_code, ⟨"PrimeProofsModel", "spell", "(II)I"⟩, 3, (Option.some Jvm.ClassFile.FieldType.int), 3, 1, 16)
abbrev aM_217 : aM := (prog_13_method_62_code, ⟨"PrimeProofsModel", "writesLine", "(I)V"⟩, 4, (Option.none : Option Jvm.ClassFile.FieldType), 2, 1, 16)
abbrev aM_218 : aM := (prog_13_method_59_code, ⟨"PrimeProofsModel", "writesWord", "(I)V"⟩, 3, (Option.none : Option Jvm.ClassFile.FieldType), 2, 1, 16)
abbrev aM_219 : aM := (prog_13_method_60_code, ⟨"PrimeProofsModel", "writesSign", "(I)V"⟩, 2, (Option.none : Option Jvm.ClassFile.FieldType), 2, 1, 16)
abbrev aM_220 : aM := (prog_13_method_61_code, ⟨"PrimeProofsModel", "writes", "(I)V"⟩, 3, (Option.none : Option Jvm.ClassFile.FieldType), 2, 1, 16)
abbrev aM_221 : aM := (prog_13_method_64_code, ⟨"PrimeProofsModel", "set", "(III)I"⟩, 5, (Option.some Jvm.ClassFile.FieldType.int), 4, 1, 16)
abbrev aM_222 : aM := (prog_13_method_67_code, ⟨"PrimeProofsModel", "alter", "(IZIII)I"⟩, 8, (Option.some Jvm.ClassFile.FieldType.int), 6, 1, 16)
abbrev aM_223 : aM := (prog_13_method_65_code, ⟨"PrimeProofsModel", "isRow", "(IZI)Z"⟩, 4, (Option.some Jvm.ClassFile.FieldType.boolean), 4, 1, 16)
abbrev aM_224 : aM := (prog_13_method_66_code, ⟨"PrimeProofsModel", "canBe", "(II)Z"⟩, 2, (Option.some Jvm.ClassFile.FieldType.boolean), 2, 0, 16)
abbrev aM_225 : aM := (prog_13_method_68_code, ⟨"PrimeProofsModel", "cut", "(IZI)I"⟩, 6, (Option.some Jvm.ClassFile.FieldType.int), 4, 1, 16)
abbrev aM_226 : aM := (prog_13_method_69_code, ⟨"PrimeProofsModel", "move", "(II)I"⟩, 4, (Option.some Jvm.ClassFile.FieldType.int), 3, 1, 16)
abbrev aM_227 : aM := (prog_13_method_33_code, ⟨"PrimeProofsModel", "isRightLine", "(I)Z"⟩, 2, (Option.some Jvm.ClassFile.FieldType.boolean), 2, 1, 16)
abbrev aM_228 : aM := (prog_13_method_70_code, ⟨"PrimeProofsModel", "prune", "(I)I"⟩, 6, (Option.some Jvm.ClassFile.FieldType.int), 2, 1, 16)
abbrev aM_229 : aM := (prog_13_method_75_code, ⟨"PrimeProofsModel", "restsOf", "(I)J"⟩, 5, (Option.some Jvm.ClassFile.FieldType.long), 2, 1, 16)
abbrev aM_230 : aM := (prog_13_method_73_code, ⟨"PrimeProofsModel", "has", "(JI)Z"⟩, 3, (Option.some Jvm.ClassFile.FieldType.boolean), 2, 0, 16)
abbrev aM_231 : aM := (prog_13_method_74_code, ⟨"PrimeProofsModel", "props", "(I)J"⟩, 5, (Option.some Jvm.ClassFile.FieldType.long), 2, 1, 16)
abbrev aM_232 : aM := (prog_13_method_71_code, ⟨"PrimeProofsModel", "drop", "()I"⟩, 1, (Option.some Jvm.ClassFile.FieldType.int), 1, 1, 16)
abbrev aM_233 : aM := (prog_13_method_72_code, ⟨"PrimeProofsModel", "clear", "()I"⟩, 2, (Option.some Jvm.ClassFile.FieldType.int), 1, 1, 16)
abbrev aM_234 : aM := (prog_13_method_79_code, ⟨"PrimeProofsModel", "line", "(II)I"⟩, 3, (Option.some Jvm.ClassFile.FieldType.int), 3, 1, 16)
abbrev aM_235 : aM := (prog_13_method_80_code, ⟨"PrimeProofsModel", "row", "(IZII)I"⟩, 7, (Option.some Jvm.ClassFile.FieldType.int), 5, 1, 16)
abbrev aM_236 : aM := (prog_13_method_81_code, ⟨"PrimeProofsModel", "right", "()J"⟩, 4, (Option.some Jvm.ClassFile.FieldType.long), 1, 1, 16)
abbrev aM_237 : aM := (prog_13_method_82_code, ⟨"PrimeProofsModel", "rests", "(I)J"⟩, 2, (Option.some Jvm.ClassFile.FieldType.long), 2, 1, 16)
abbrev aM_238 : aM := (prog_13_method_83_code, ⟨"PrimeProofsModel", "deep", "(I)I"⟩, 2, (Option.some Jvm.ClassFile.FieldType.int), 2, 1, 16)
abbrev aM_239 : aM := (prog_13_method_76_code, ⟨"PrimeProofsModel", "deepOf", "(I)I"⟩, 8, (Option.some Jvm.ClassFile.FieldType.int), 2, 1, 16)
abbrev aM_240 : aM := (prog_13_method_84_code, ⟨"PrimeProofsModel", "falls", "(I)J"⟩, 5, (Option.some Jvm.ClassFile.FieldType.long), 2, 1, 16)
abbrev aM_241 : aM := (prog_13_method_85_code, ⟨"PrimeProofsModel", "cost", "(I)I"⟩, 2, (Option.some Jvm.ClassFile.FieldType.int), 2, 1, 16)
abbrev aM_242 : aM := (prog_13_method_78_code, ⟨"PrimeProofsModel", "costsOf", "(I)I"⟩, 4, (Option.some Jvm.ClassFile.FieldType.int), 2, 1, 16)
abbrev aM_243 : aM := (prog_13_method_77_code, ⟨"PrimeProofsModel", "costOf", "(I)I"⟩, 3, (Option.some Jvm.ClassFile.FieldType.int), 1, 0, 16)
abbrev aM_244 : aM := (prog_13_method_86_code, ⟨"PrimeProofsModel", "loose", "(II)I"⟩, 5, (Option.some Jvm.ClassFile.FieldType.int), 3, 1, 16)
abbrev aM_245 : aM := (prog_13_method_87_code, ⟨"PrimeProofsModel", "shared", "(II)J"⟩, 3, (Option.some Jvm.ClassFile.FieldType.long), 3, 1, 16)
abbrev aM_246 : aM := (prog_13_method_88_code, ⟨"PrimeProofsModel", "proof", "(I)I"⟩, 3, (Option.some Jvm.ClassFile.FieldType.int), 2, 1, 16)
abbrev aM_247 : aM := (prog_13_method_89_code, ⟨"PrimeProofsModel", "prime", "(II)I"⟩, 3, (Option.some Jvm.ClassFile.FieldType.int), 3, 1, 16)
abbrev aM_248 : aM := (prog_13_method_90_code, ⟨"PrimeProofsModel", "often", "(II)I"⟩, 5, (Option.some Jvm.ClassFile.FieldType.int), 3, 1, 16)
abbrev aM_249 : aM := (prog_13_method_91_code, ⟨"PrimeProofsModel", "next", "(I)I"⟩, 3, (Option.some Jvm.ClassFile.FieldType.int), 2, 1, 16)
abbrev aM_250 : aM := (prog_13_method_93_code, ⟨"PrimeProofsModel", "smooth", "(II)I"⟩, 3, (Option.some Jvm.ClassFile.FieldType.int), 3, 1, 16)
abbrev aM_251 : aM := (prog_13_method_92_code, ⟨"PrimeProofsModel", "smoothBy", "(I)J"⟩, 6, (Option.some Jvm.ClassFile.FieldType.long), 2, 1, 16)
abbrev aM_252 : aM := (prog_13_method_94_code, ⟨"PrimeProofsModel", "bound", "(I)I"⟩, 3, (Option.some Jvm.ClassFile.FieldType.int), 2, 1, 16)
abbrev aM_253 : aM := (prog_13_method_95_code, ⟨"PrimeProofsModel", "chase", "(II)I"⟩, 10, (Option.some Jvm.ClassFile.FieldType.int), 3, 1, 16)
abbrev aM_254 : aM := (prog_13_method_96_code, ⟨"PrimeProofsModel", "primes", "(II)I"⟩, 5, (Option.some Jvm.ClassFile.FieldType.int), 3, 1, 16)
abbrev aM_255 : aM := (prog_13_method_99_code, ⟨"PrimeProofsModel", "passes", "(II)I"⟩, 3, (Option.some Jvm.ClassFile.FieldType.int), 3, 1, 16)
abbrev aM_256 : aM := (prog_13_method_97_code, ⟨"PrimeProofsModel", "isOdd", "(I)Z"⟩, 1, (Option.some Jvm.ClassFile.FieldType.boolean), 1, 0, 16)
abbrev aM_257 : aM := (prog_13_method_98_code, ⟨"PrimeProofsModel", "doesPass", "(JJ)Z"⟩, 8, (Option.some Jvm.ClassFile.FieldType.boolean), 2, 0, 16)
abbrev aM_258 : aM := (prog_13_method_100_code, ⟨"PrimeProofsModel", "fools", "(II)I"⟩, 6, (Option.some Jvm.ClassFile.FieldType.int), 3, 1, 16)
abbrev aM_259 : aM := (prog_13_method_101_code, ⟨"PrimeProofsModel", "power", "(III)I"⟩, 4, (Option.some Jvm.ClassFile.FieldType.int), 4, 1, 16)
abbrev aM_260 : aM := (prog_13_method_102_code, ⟨"PrimeProofsModel", "order", "(II)I"⟩, 6, (Option.some Jvm.ClassFile.FieldType.int), 3, 1, 16)
abbrev aM_261 : aM := (prog_13_method_103_code, ⟨"PrimeProofsModel", "jacobi", "(II)I"⟩, 3, (Option.some Jvm.ClassFile.FieldType.int), 3, 1, 16)
abbrev aM_262 : aM := (prog_13_method_104_code, ⟨"PrimeProofsModel", "u", "(IIII)I"⟩, 5, (Option.some Jvm.ClassFile.FieldType.int), 5, 1, 16)
abbrev aM_263 : aM := (prog_13_method_105_code, ⟨"PrimeProofsModel", "units", "(I)I"⟩, 5, (Option.some Jvm.ClassFile.FieldType.int), 2, 1, 16)
abbrev aM_264 : aM := (prog_13_method_106_code, ⟨"PrimeProofsModel", "count", "(I)I"⟩, 4, (Option.some Jvm.ClassFile.FieldType.int), 2, 1, 16)
abbrev aM_265 : aM := (code, ⟨"PrimeProofsLaw", "law", "([I)Z"⟩, 4, (Option.some Jvm.ClassFile.FieldType.boolean), 1, 0, 17)
def aMt0 : List aM := [aM_0, aM_1, aM_2, aM_3, aM_4, aM_5, aM_6, aM_7, aM_8, aM_9, aM_10, aM_11, aM_12, aM_13, aM_14, aM_15, aM_16, aM_17, aM_18, aM_19, aM_20, aM_21, aM_22, aM_23, aM_24, aM_25, aM_26, aM_27, aM_28, aM_29, aM_30, aM_31, aM_32, aM_33, aM_34, aM_35, aM_36, aM_37, aM_38, aM_39]
def aMt1 : List aM := [aM_40, aM_41, aM_42, aM_43, aM_44, aM_45, aM_46, aM_47, aM_48, aM_49, aM_50, aM_51, aM_52, aM_53, aM_54, aM_55, aM_56, aM_57, aM_58, aM_59, aM_60, aM_61, aM_62, aM_63, aM_64, aM_65, aM_66, aM_67, aM_68, aM_69, aM_70, aM_71, aM_72, aM_73, aM_74, aM_75, aM_76, aM_77, aM_78, aM_79]
def aMt2 : List aM := [aM_80, aM_81, aM_82, aM_83, aM_84, aM_85, aM_86, aM_87, aM_88, aM_89, aM_90, aM_91, aM_92, aM_93, aM_94, aM_95, aM_96, aM_97, aM_98, aM_99, aM_100, aM_101, aM_102, aM_103, aM_104, aM_105, aM_106, aM_107, aM_108, aM_109, aM_110, aM_111, aM_112, aM_113, aM_114, aM_115, aM_116, aM_117, aM_118, aM_119]
def aMt3 : List aM := [aM_120, aM_121, aM_122, aM_123, aM_124, aM_125, aM_126, aM_127, aM_128, aM_129, aM_130, aM_131, aM_132, aM_133, aM_134, aM_135, aM_136, aM_137, aM_138, aM_139, aM_140, aM_141, aM_142, aM_143, aM_144, aM_145, aM_146, aM_147, aM_148, aM_149, aM_150, aM_151, aM_152, aM_153, aM_154, aM_155, aM_156, aM_157, aM_158, aM_159]
def aMt4 : List aM := [aM_160, aM_161, aM_162, aM_163, aM_164, aM_165, aM_166, aM_167, aM_168, aM_169, aM_170, aM_171, aM_172, aM_173, aM_174, aM_175, aM_176, aM_177, aM_178, aM_179, aM_180, aM_181, aM_182, aM_183, aM_184, aM_185, aM_186, aM_187, aM_188, aM_189, aM_190, aM_191, aM_192, aM_193, aM_194, aM_195, aM_196, aM_197, aM_198, aM_199]
def aMt5 : List aM := [aM_200, aM_201, aM_202, aM_203, aM_204, aM_205, aM_206, aM_207, aM_208, aM_209, aM_210, aM_211, aM_212, aM_213, aM_214, aM_215, aM_216, aM_217, aM_218, aM_219, aM_220, aM_221, aM_222, aM_223, aM_224, aM_225, aM_226, aM_227, aM_228, aM_229, aM_230, aM_231, aM_232, aM_233, aM_234, aM_235, aM_236, aM_237, aM_238, aM_239]
def aMt6 : List aM := [aM_240, aM_241, aM_242, aM_243, aM_244, aM_245, aM_246, aM_247, aM_248, aM_249, aM_250, aM_251, aM_252, aM_253, aM_254, aM_255, aM_256, aM_257, aM_258, aM_259, aM_260, aM_261, aM_262, aM_263, aM_264, aM_265]
def aMt : List aM := aMt0 ++ (aMt1 ++ (aMt2 ++ (aMt3 ++ (aMt4 ++ (aMt5 ++ (aMt6))))))
def aCp : List String := ["PrimeProofs", "PrimeProofs$Ledger", "PrimeProofs$Finder", "PrimeProofs$Factors", "PrimeProofs$Tape", "PrimeProofs$Reader", "PrimeProofs$Line", "PrimeProofs$Side", "PrimeProofs$Speller", "PrimeProofs$Arithmetic", "PrimeProofs$Checker", "java/lang/Math", "java/lang/String", "java/lang/StringLatin1", "jdk/internal/util/Preconditions", "java/lang/Long", "PrimeProofsModel", "PrimeProofsLaw"]
set_option maxRecDepth 100000 in
def aLF0 : List (Nat × Nat × Nat × Nat × Nat × Nat) := [(90, 2, 0, 2, 1, 108), (163, 2, 1, 2, 1, 110), (167, 2, 2, 2, 1, 112), (197, 2, 3, 2, 1, 114), (185, 2, 4, 1, 0, 116), (79, 2, 5, 0, 0, 119), (230, 0, 0, 2, 1, 149), (229, 0, 2, 0, 0, 154), (75, 7, 1, 0, 0, 186), (139, 5, 1, 0, 0, 216), (178, 3, 0, 2, 1, 228), (182, 3, 1, 2, 1, 235), (94, 3, 2, 0, 0, 241), (152, 3, 3, 0, 0, 247), (106, 3, 4, 0, 0, 251), (109, 3, 5, 0, 0, 257), (112, 3, 6, 0, 0, 262), (218, 6, 0, 2, 1, 305), (217, 6, 1, 0, 0, 307), (10, 8, 0, 2, 1, 315), (21, 8, 1, 2, 1, 316), (28, 8, 2, 2, 1, 317), (37, 8, 3, 2, 1, 318), (44, 8, 4, 2, 1, 319), (51, 8, 5, 2, 1, 320)]
set_option maxRecDepth 100000 in
def aLF1 : List (Nat × Nat × Nat × Nat × Nat × Nat) := [(11, 2, 0, 2, 1, 107), (17, 2, 1, 2, 1, 109), (21, 2, 2, 2, 1, 111), (25, 2, 3, 2, 1, 113), (43, 2, 4, 1, 0, 115), (28, 2, 5, 0, 0, 118), (103, 3, 0, 2, 1, 229), (111, 3, 1, 2, 1, 236), (51, 3, 2, 0, 0, 240), (61, 3, 3, 0, 0, 246), (118, 3, 6, 0, 0, 263)]
set_option maxRecDepth 100000 in
def aLF2 : List (Nat × Nat × Nat × Nat × Nat × Nat) := [(31, 2, 5, 0, 0, 117), (110, 0, 0, 2, 1, 148), (114, 0, 1, 2, 1, 151), (98, 0, 2, 0, 0, 153), (27, 1, 0, 2, 1, 163), (12, 1, 1, 2, 1, 164), (18, 1, 2, 2, 1, 165), (23, 1, 3, 2, 1, 166), (140, 5, 1, 0, 0, 217), (90, 3, 0, 2, 1, 226), (103, 3, 1, 2, 1, 233), (147, 3, 2, 0, 0, 242), (128, 3, 3, 0, 0, 248), (160, 3, 4, 0, 0, 254), (163, 3, 5, 0, 0, 260)]
set_option maxRecDepth 100000 in
def aLF3 : List (Nat × Nat × Nat × Nat × Nat × Nat) := [(9, 0, 0, 2, 1, 147), (15, 0, 1, 2, 1, 150), (18, 0, 2, 0, 0, 152)]
set_option maxRecDepth 100000 in
def aLF4 : List (Nat × Nat × Nat × Nat × Nat × Nat) := [(9, 7, 0, 2, 1, 182), (15, 7, 1, 0, 0, 184)]
set_option maxRecDepth 100000 in
def aLF5 : List (Nat × Nat × Nat × Nat × Nat × Nat) := [(54, 7, 0, 2, 1, 183), (49, 7, 1, 0, 0, 185), (101, 3, 0, 2, 1, 227), (112, 3, 1, 2, 1, 234), (127, 3, 4, 0, 0, 253), (130, 3, 5, 0, 0, 259), (18, 4, 0, 2, 1, 279), (22, 4, 1, 2, 1, 280), (12, 4, 2, 2, 1, 281), (26, 4, 3, 0, 0, 282), (40, 4, 4, 0, 0, 283), (30, 4, 5, 0, 0, 284)]
set_option maxRecDepth 100000 in
def aLF6 : List (Nat × Nat × Nat × Nat × Nat × Nat) := [(37, 5, 1, 0, 0, 212), (12, 3, 0, 2, 1, 223), (18, 3, 1, 2, 1, 230), (25, 3, 2, 0, 0, 237), (28, 3, 3, 0, 0, 244), (31, 3, 4, 0, 0, 249), (34, 3, 5, 0, 0, 255), (21, 3, 6, 0, 0, 261)]
set_option maxRecDepth 100000 in
def aLF7 : List (Nat × Nat × Nat × Nat × Nat × Nat) := [(11, 5, 0, 2, 1, 211), (21, 5, 1, 0, 0, 213)]
set_option maxRecDepth 100000 in
def aLF8 : List (Nat × Nat × Nat × Nat × Nat × Nat) := [(67, 5, 1, 0, 0, 214), (63, 3, 0, 2, 1, 224), (81, 3, 1, 2, 1, 231), (42, 3, 2, 0, 0, 239), (29, 3, 3, 0, 0, 245), (55, 3, 4, 0, 0, 250), (58, 3, 5, 0, 0, 256), (11, 6, 0, 2, 1, 304), (25, 6, 1, 0, 0, 306)]
set_option maxRecDepth 100000 in
def aLF9 : List (Nat × Nat × Nat × Nat × Nat × Nat) := []
set_option maxRecDepth 100000 in
def aLF10 : List (Nat × Nat × Nat × Nat × Nat × Nat) := [(61, 5, 1, 0, 0, 215), (36, 3, 0, 2, 1, 225), (46, 3, 1, 2, 1, 232), (15, 3, 2, 0, 0, 238), (9, 3, 3, 0, 0, 243), (85, 3, 4, 0, 0, 252), (90, 3, 5, 0, 0, 258)]
set_option maxRecDepth 100000 in
def aLF11 : List (Nat × Nat × Nat × Nat × Nat × Nat) := []
set_option maxRecDepth 100000 in
def aLF12 : List (Nat × Nat × Nat × Nat × Nat × Nat) := []
set_option maxRecDepth 100000 in
def aLF13 : List (Nat × Nat × Nat × Nat × Nat × Nat) := []
set_option maxRecDepth 100000 in
def aLF14 : List (Nat × Nat × Nat × Nat × Nat × Nat) := []
set_option maxRecDepth 100000 in
def aLF15 : List (Nat × Nat × Nat × Nat × Nat × Nat) := []
set_option maxRecDepth 100000 in
def aLF16 : List (Nat × Nat × Nat × Nat × Nat × Nat) := [(27, 9, 1, 2, 1, 1018), (30, 9, 2, 2, 1, 1019), (23, 9, 3, 2, 1, 1020), (40, 9, 4, 2, 1, 1021), (44, 9, 5, 2, 1, 1022), (37, 9, 6, 0, 0, 1023), (112, 9, 7, 0, 0, 1024), (53, 9, 8, 2, 1, 1025), (56, 9, 9, 2, 1, 1026), (59, 9, 10, 2, 1, 1027), (62, 9, 11, 2, 1, 1028), (65, 9, 12, 2, 1, 1029), (68, 9, 13, 2, 1, 1030), (71, 9, 14, 2, 1, 1031), (74, 9, 15, 2, 1, 1032), (77, 9, 16, 2, 1, 1033), (80, 9, 17, 2, 1, 1034), (83, 9, 18, 2, 1, 1035), (86, 9, 19, 2, 1, 1036), (90, 9, 20, 2, 1, 1037), (93, 9, 21, 2, 1, 1038), (96, 9, 22, 2, 1, 1039), (99, 9, 23, 2, 1, 1040), (246, 9, 24, 0, 0, 1041), (266, 9, 25, 0, 0, 1042), (260, 9, 26, 0, 0, 1043), (269, 9, 27, 0, 0, 1044), (281, 9, 28, 1, 0, 1045), (263, 9, 29, 0, 0, 1046), (287, 9, 30, 0, 0, 1047), (102, 9, 31, 2, 1, 1048), (106, 9, 32, 2, 1, 1049), (315, 9, 33, 0, 0, 1050), (109, 9, 34, 2, 1, 1051)]
set_option maxRecDepth 100000 in
def aLF17 : List (Nat × Nat × Nat × Nat × Nat × Nat) := []
def aLF : List (List (Nat × Nat × Nat × Nat × Nat × Nat)) := [aLF0, aLF1, aLF2, aLF3, aLF4, aLF5, aLF6, aLF7, aLF8, aLF9, aLF10, aLF11, aLF12, aLF13, aLF14, aLF15, aLF16, aLF17]
set_option maxRecDepth 100000 in
def aLM0 : List (Nat × Nat × Nat × Nat × Nat × Nat × Nat × Nat) := [(1, 0, 9, 96, 97, 0, 0, 0), (9, 1, 5, 101, 102, 0, 73, 103), (18, 2, 4, 137, 138, 0, 74, 139), (27, 4, 5, 178, 179, 0, 76, 180), (34, 5, 4, 195, 196, 0, 77, 197), (43, 8, 5, 300, 301, 0, 80, 302), (50, 3, 5, 314, 144, 0, 75, 145), (55, 10, 0, 338, 339, 0, 82, 340), (61, 11, 2, 342, 343, 344, 73, 345), (65, 15, 2, 357, 358, 359, 74, 360), (68, 63, 2, 551, 552, 553, 76, 554), (71, 64, 2, 555, 556, 557, 76, 558), (80, 67, 2, 567, 568, 569, 77, 570), (84, 87, 2, 680, 681, 682, 73, 683), (87, 13, 2, 711, 351, 352, 73, 353), (99, 47, 2, 712, 478, 479, 78, 480), (103, 94, 0, 713, 714, 0, 72, 715), (115, 96, 2, 720, 721, 722, 73, 723), (119, 99, 0, 732, 733, 0, 79, 734), (125, 97, 2, 736, 725, 726, 78, 727), (129, 34, 2, 737, 432, 433, 79, 434), (132, 30, 2, 738, 417, 418, 79, 419), (136, 101, 2, 743, 744, 745, 79, 746), (140, 103, 2, 752, 753, 754, 73, 755), (144, 61, 0, 759, 545, 0, 84, 546), (149, 12, 2, 760, 347, 348, 73, 349), (155, 106, 2, 765, 766, 767, 74, 768), (159, 57, 2, 773, 522, 523, 78, 524), (171, 109, 2, 778, 779, 780, 73, 781), (175, 60, 2, 787, 541, 542, 73, 543), (189, 54, 2, 800, 509, 510, 73, 511), (200, 118, 2, 819, 820, 821, 73, 822), (204, 120, 0, 827, 828, 0, 83, 829), (210, 123, 0, 837, 838, 0, 83, 839), (214, 126, 2, 848, 849, 850, 80, 851), (222, 53, 2, 887, 505, 506, 73, 507), (226, 23, 2, 892, 391, 392, 75, 393), (233, 25, 0, 897, 400, 0, 82, 401), (236, 107, 2, 902, 770, 771, 74, 772), (239, 51, 2, 907, 496, 497, 78, 498), (244, 20, 0, 913, 379, 0, 82, 380), (247, 139, 2, 918, 919, 920, 75, 921), (252, 142, 0, 931, 932, 0, 84, 933), (256, 37, 0, 934, 443, 0, 82, 444), (261, 145, 0, 944, 945, 0, 72, 946), (264, 21, 0, 947, 384, 0, 82, 385), (268, 22, 0, 956, 387, 0, 82, 388), (273, 149, 2, 962, 963, 964, 75, 965), (276, 150, 2, 966, 967, 968, 75, 969), (280, 48, 0, 975, 483, 0, 82, 484), (284, 50, 0, 980, 493, 0, 82, 494), (288, 155, 0, 989, 990, 0, 90, 991), (294, 156, 2, 995, 996, 997, 73, 998), (297, 157, 2, 999, 1000, 1001, 73, 1002), (300, 158, 2, 1003, 1004, 1005, 73, 1006), (303, 159, 2, 1007, 1008, 1009, 73, 1010)]
set_option maxRecDepth 100000 in
def aLM1 : List (Nat × Nat × Nat × Nat × Nat × Nat × Nat × Nat) := [(3, 0, 9, 104, 97, 0, 0, 0), (58, 12, 2, 346, 347, 348, 73, 349), (32, 13, 2, 350, 351, 352, 73, 353), (47, 14, 0, 354, 355, 0, 73, 356), (54, 54, 2, 508, 509, 510, 73, 511), (69, 56, 2, 516, 517, 518, 73, 519), (64, 6, 5, 520, 202, 0, 78, 203), (65, 57, 2, 521, 522, 523, 78, 524), (73, 59, 2, 532, 534, 6, 73, 535), (124, 51, 2, 537, 496, 497, 78, 498), (128, 52, 2, 538, 500, 501, 78, 502), (83, 42, 0, 539, 461, 0, 84, 462), (77, 61, 0, 544, 545, 0, 84, 546), (94, 88, 2, 684, 686, 17, 73, 687), (97, 89, 0, 688, 689, 0, 83, 690), (107, 90, 2, 692, 693, 694, 79, 695), (114, 91, 2, 696, 698, 18, 73, 699), (121, 92, 0, 700, 701, 0, 83, 702), (36, 97, 2, 724, 725, 726, 78, 727), (40, 98, 2, 728, 729, 730, 79, 731), (86, 104, 0, 756, 757, 0, 84, 758), (90, 60, 2, 782, 541, 542, 73, 543), (133, 120, 0, 1011, 828, 0, 83, 829)]
set_option maxRecDepth 100000 in
def aLM2 : List (Nat × Nat × Nat × Nat × Nat × Nat × Nat × Nat) := [(3, 0, 9, 140, 97, 0, 0, 0), (11, 3, 5, 143, 144, 0, 75, 145), (37, 16, 2, 361, 363, 0, 74, 364), (45, 17, 2, 365, 367, 1, 74, 368), (72, 6, 5, 369, 202, 0, 78, 203), (49, 18, 2, 370, 372, 2, 74, 373), (77, 19, 2, 374, 375, 376, 78, 377), (81, 20, 0, 378, 379, 0, 82, 380), (87, 23, 2, 390, 391, 392, 75, 393), (94, 27, 0, 406, 407, 0, 74, 408), (106, 28, 0, 409, 410, 0, 74, 411), (117, 29, 2, 412, 413, 414, 79, 415), (99, 31, 2, 420, 422, 5, 74, 423), (123, 32, 0, 424, 425, 0, 83, 426), (53, 38, 0, 445, 446, 0, 74, 447), (131, 39, 0, 448, 449, 0, 74, 450), (141, 30, 2, 451, 417, 418, 79, 419), (144, 40, 0, 452, 453, 0, 83, 454), (134, 43, 0, 463, 464, 0, 74, 465), (150, 34, 2, 466, 432, 433, 79, 434), (154, 44, 0, 467, 468, 0, 74, 469), (157, 41, 0, 470, 457, 0, 83, 458), (137, 45, 0, 471, 472, 0, 74, 473), (166, 46, 0, 474, 475, 0, 83, 476), (57, 51, 2, 495, 496, 497, 78, 498), (61, 52, 2, 499, 500, 501, 78, 502), (65, 53, 2, 504, 505, 506, 73, 507), (68, 55, 2, 512, 513, 514, 73, 515), (41, 60, 2, 540, 541, 542, 73, 543), (73, 107, 2, 769, 770, 771, 74, 772)]
set_option maxRecDepth 100000 in
def aLM3 : List (Nat × Nat × Nat × Nat × Nat × Nat × Nat × Nat) := [(3, 0, 9, 146, 97, 0, 0, 0), (22, 20, 0, 394, 379, 0, 82, 380), (28, 24, 2, 395, 397, 3, 75, 398), (36, 25, 0, 399, 400, 0, 82, 401), (32, 26, 2, 402, 404, 4, 75, 405), (39, 22, 0, 970, 387, 0, 82, 388)]
set_option maxRecDepth 100000 in
def aLM4 : List (Nat × Nat × Nat × Nat × Nat × Nat × Nat × Nat) := [(3, 0, 9, 181, 97, 0, 0, 0)]
set_option maxRecDepth 100000 in
def aLM5 : List (Nat × Nat × Nat × Nat × Nat × Nat × Nat × Nat) := [(3, 0, 9, 198, 97, 0, 0, 0), (11, 6, 5, 201, 202, 0, 78, 203), (33, 68, 2, 571, 573, 7, 77, 574), (58, 69, 0, 575, 576, 0, 77, 577), (36, 70, 2, 578, 580, 8, 77, 581), (78, 71, 2, 582, 584, 9, 77, 585), (117, 72, 0, 586, 587, 0, 80, 588), (72, 73, 2, 594, 596, 10, 77, 597), (62, 74, 2, 598, 599, 600, 86, 601), (68, 76, 2, 608, 609, 610, 86, 611), (82, 81, 2, 647, 649, 11, 77, 650), (86, 19, 2, 652, 375, 376, 78, 377), (90, 82, 2, 653, 655, 12, 77, 656), (98, 83, 2, 658, 660, 13, 77, 661), (105, 84, 2, 663, 665, 14, 77, 666), (133, 29, 2, 667, 413, 414, 79, 415), (93, 85, 2, 668, 670, 15, 77, 671), (109, 86, 2, 672, 674, 16, 77, 675), (43, 56, 2, 679, 517, 518, 73, 519)]
set_option maxRecDepth 100000 in
def aLM6 : List (Nat × Nat × Nat × Nat × Nat × Nat × Nat × Nat) := [(3, 0, 9, 204, 97, 0, 0, 0), (11, 7, 5, 207, 208, 0, 79, 209), (44, 34, 2, 503, 432, 433, 79, 434), (40, 58, 2, 525, 526, 527, 79, 528)]
set_option maxRecDepth 100000 in
def aLM7 : List (Nat × Nat × Nat × Nat × Nat × Nat × Nat × Nat) := [(3, 0, 9, 210, 97, 0, 0, 0), (25, 30, 2, 416, 417, 418, 79, 419), (38, 34, 2, 431, 432, 433, 79, 434), (32, 0, 8, 529, 530, 531, 85, 0), (15, 10, 0, 735, 339, 0, 82, 340), (29, 98, 2, 747, 729, 730, 79, 731)]
set_option maxRecDepth 100000 in
def aLM8 : List (Nat × Nat × Nat × Nat × Nat × Nat × Nat × Nat) := [(3, 0, 9, 303, 97, 0, 0, 0), (34, 72, 0, 852, 587, 0, 80, 588), (38, 127, 2, 853, 855, 19, 80, 856), (89, 128, 2, 857, 859, 20, 80, 860), (85, 129, 2, 861, 863, 21, 80, 864), (92, 74, 2, 865, 599, 600, 86, 601), (98, 76, 2, 866, 609, 610, 86, 611), (45, 130, 2, 867, 869, 22, 80, 870), (49, 47, 2, 872, 478, 479, 78, 480), (70, 34, 2, 875, 432, 433, 79, 434), (75, 131, 2, 877, 879, 23, 80, 880)]
set_option maxRecDepth 100000 in
def aLM9 : List (Nat × Nat × Nat × Nat × Nat × Nat × Nat × Nat) := [(36, 21, 0, 383, 384, 0, 82, 385), (26, 22, 0, 386, 387, 0, 82, 388), (12, 49, 0, 485, 486, 0, 84, 487)]
set_option maxRecDepth 100000 in
def aLM10 : List (Nat × Nat × Nat × Nat × Nat × Nat × Nat × Nat) := [(40, 33, 2, 427, 428, 429, 79, 430), (49, 35, 0, 436, 437, 0, 83, 438), (53, 36, 0, 439, 440, 0, 83, 441), (57, 37, 0, 442, 443, 0, 82, 444), (64, 34, 2, 455, 432, 433, 79, 434), (68, 41, 0, 456, 457, 0, 83, 458), (77, 22, 0, 459, 387, 0, 82, 388), (72, 42, 0, 460, 461, 0, 84, 462), (81, 47, 2, 477, 478, 479, 78, 480), (93, 48, 0, 482, 483, 0, 82, 484), (97, 50, 0, 492, 493, 0, 82, 494), (18, 20, 0, 691, 379, 0, 82, 380), (24, 32, 0, 703, 425, 0, 83, 426), (30, 40, 0, 704, 453, 0, 83, 454), (33, 46, 0, 705, 475, 0, 83, 476), (101, 121, 0, 830, 831, 0, 83, 832)]
set_option maxRecDepth 100000 in
def aLM11 : List (Nat × Nat × Nat × Nat × Nat × Nat × Nat × Nat) := []
set_option maxRecDepth 100000 in
def aLM12 : List (Nat × Nat × Nat × Nat × Nat × Nat × Nat × Nat) := [(335, 75, 2, 602, 603, 604, 86, 605), (492, 77, 2, 612, 613, 614, 86, 615), (495, 78, 0, 616, 617, 0, 87, 618), (1059, 80, 0, 624, 625, 0, 88, 626)]
set_option maxRecDepth 100000 in
def aLM13 : List (Nat × Nat × Nat × Nat × Nat × Nat × Nat × Nat) := [(9, 79, 0, 619, 620, 0, 86, 621)]
set_option maxRecDepth 100000 in
def aLM14 : List (Nat × Nat × Nat × Nat × Nat × Nat × Nat × Nat) := []
set_option maxRecDepth 100000 in
def aLM15 : List (Nat × Nat × Nat × Nat × Nat × Nat × Nat × Nat) := []
set_option maxRecDepth 100000 in
def aLM16 : List (Nat × Nat × Nat × Nat × Nat × Nat × Nat × Nat) := [(47, 0, 9, 1017, 97, 0, 0, 0), (11, 162, 0, 1129, 1130, 0, 81, 1131), (226, 163, 0, 1132, 1133, 0, 81, 1134), (201, 164, 2, 1137, 1139, 24, 81, 1140), (197, 165, 2, 1141, 1143, 25, 81, 1144), (164, 166, 0, 1145, 1146, 0, 81, 1147), (168, 167, 0, 1148, 1149, 0, 81, 1150), (172, 168, 2, 1151, 1153, 26, 81, 1154), (132, 169, 2, 1155, 1157, 27, 81, 1158), (176, 170, 2, 1159, 1161, 28, 81, 1162), (142, 171, 2, 1163, 1165, 29, 81, 1166), (128, 172, 2, 1167, 1169, 30, 81, 1170), (146, 173, 2, 1172, 1174, 31, 81, 1175), (180, 174, 2, 1176, 1178, 32, 81, 1179), (149, 175, 0, 1180, 1181, 0, 81, 1182), (136, 176, 0, 1183, 1184, 0, 81, 1185), (183, 177, 0, 1187, 1188, 0, 81, 1189), (152, 178, 0, 1190, 1191, 0, 81, 1192), (187, 179, 0, 1193, 1194, 0, 81, 1195), (190, 180, 0, 1196, 1197, 0, 81, 1198), (193, 181, 2, 1199, 1201, 33, 81, 1202), (156, 182, 0, 1203, 1204, 0, 81, 1205), (160, 183, 2, 1209, 1211, 34, 81, 1212), (33, 184, 2, 1213, 1215, 35, 81, 1216), (229, 185, 2, 1217, 1219, 36, 81, 1220), (115, 186, 2, 1221, 1223, 37, 81, 1224), (216, 187, 2, 1225, 1227, 38, 81, 1228), (204, 188, 2, 1229, 1231, 39, 81, 1232), (208, 189, 2, 1233, 1235, 40, 81, 1236), (123, 190, 2, 1237, 1239, 41, 81, 1240), (119, 191, 2, 1241, 1243, 42, 81, 1244), (212, 192, 2, 1245, 1247, 43, 81, 1248), (220, 193, 2, 1249, 1251, 44, 81, 1252), (223, 194, 2, 1253, 1255, 45, 81, 1256), (233, 195, 2, 1257, 1259, 46, 81, 1260), (237, 196, 2, 1261, 1263, 47, 81, 1264), (240, 198, 2, 1269, 1271, 48, 81, 1272), (243, 199, 2, 1281, 1274, 1275, 81, 1276), (293, 204, 2, 1294, 1296, 49, 81, 1297), (272, 205, 2, 1298, 1300, 50, 81, 1301), (275, 206, 2, 1304, 1306, 51, 81, 1307), (257, 207, 2, 1308, 1310, 52, 81, 1311), (278, 208, 2, 1312, 1314, 53, 81, 1315), (312, 209, 2, 1319, 1321, 54, 81, 1322), (290, 210, 2, 1323, 1325, 55, 81, 1326), (297, 211, 2, 1328, 1330, 56, 81, 1331), (300, 212, 2, 1332, 1334, 57, 81, 1335), (303, 213, 0, 1336, 1337, 0, 81, 1338), (306, 214, 2, 1339, 1341, 58, 81, 1342), (309, 215, 2, 1343, 1345, 59, 81, 1346), (327, 217, 2, 1351, 1353, 60, 81, 1354), (321, 218, 2, 1355, 1357, 61, 81, 1358), (318, 219, 2, 1359, 1361, 62, 81, 1362), (324, 220, 2, 1363, 1365, 63, 81, 1366), (336, 223, 2, 1376, 1378, 64, 81, 1379), (340, 224, 0, 1380, 1381, 0, 81, 1382), (343, 227, 2, 1393, 1395, 65, 81, 1396), (346, 229, 2, 1401, 1403, 66, 81, 1404), (349, 230, 0, 1405, 1406, 0, 81, 1407), (353, 231, 2, 1408, 1410, 67, 81, 1411), (363, 239, 2, 1442, 1444, 68, 81, 1445), (366, 242, 2, 1454, 1456, 69, 81, 1457), (356, 243, 0, 1458, 1459, 0, 81, 1460), (371, 251, 2, 1490, 1492, 70, 81, 1493), (374, 256, 0, 1510, 1511, 0, 81, 1512), (377, 257, 0, 1513, 1514, 0, 81, 1515)]
set_option maxRecDepth 100000 in
def aLM17 : List (Nat × Nat × Nat × Nat × Nat × Nat × Nat × Nat) := [(9, 0, 4, 93, 94, 0, 72, 95), (13, 9, 2, 334, 335, 336, 72, 337), (18, 62, 2, 547, 548, 549, 72, 550), (23, 65, 2, 559, 560, 561, 72, 562), (28, 66, 2, 563, 564, 565, 72, 566), (33, 93, 2, 707, 708, 709, 72, 710), (38, 95, 2, 716, 717, 718, 72, 719), (43, 100, 2, 739, 740, 741, 72, 742), (48, 102, 2, 748, 749, 750, 72, 751), (52, 105, 2, 761, 762, 763, 72, 764), (56, 108, 2, 774, 775, 776, 72, 777), (60, 110, 2, 783, 784, 785, 72, 786), (64, 111, 2, 788, 789, 790, 72, 791), (68, 112, 2, 792, 793, 794, 72, 795), (72, 113, 2, 796, 797, 798, 72, 799), (77, 114, 2, 801, 802, 803, 72, 804), (82, 115, 2, 805, 806, 807, 72, 808), (87, 116, 2, 811, 812, 813, 72, 814), (91, 117, 2, 815, 816, 817, 72, 818), (95, 119, 2, 823, 824, 825, 72, 826), (99, 122, 2, 833, 834, 835, 72, 836), (103, 124, 2, 840, 841, 842, 72, 843), (108, 125, 2, 844, 845, 846, 72, 847), (112, 132, 2, 883, 884, 885, 72, 886), (116, 133, 2, 888, 889, 890, 72, 891), (120, 134, 2, 893, 894, 895, 72, 896), (124, 135, 2, 898, 899, 900, 72, 901), (128, 136, 2, 903, 904, 905, 72, 906), (132, 137, 2, 908, 909, 910, 72, 911), (136, 138, 2, 914, 915, 916, 72, 917), (140, 140, 2, 922, 923, 924, 72, 925), (144, 141, 2, 926, 927, 928, 72, 929), (148, 143, 2, 935, 936, 937, 72, 938), (152, 144, 2, 940, 941, 942, 72, 943), (156, 146, 2, 948, 949, 950, 72, 951), (160, 147, 2, 952, 953, 954, 72, 955), (164, 148, 2, 957, 958, 959, 72, 960), (168, 151, 2, 971, 972, 973, 72, 974), (172, 152, 2, 976, 977, 978, 72, 979), (177, 153, 2, 981, 982, 983, 72, 984), (181, 154, 2, 985, 986, 987, 72, 988), (12, 160, 4, 1014, 1015, 0, 81, 1016), (17, 161, 2, 1124, 1125, 1126, 81, 1127), (55, 197, 2, 1265, 1266, 1267, 81, 1268), (127, 199, 2, 1273, 1274, 1275, 81, 1276), (131, 200, 2, 1277, 1278, 1279, 81, 1280), (22, 201, 2, 1282, 1283, 1284, 81, 1285), (27, 202, 2, 1286, 1287, 1288, 81, 1289), (32, 203, 2, 1290, 1291, 1292, 81, 1293), (111, 216, 2, 1347, 1348, 1349, 81, 1350), (37, 221, 2, 1367, 1368, 1369, 81, 1370), (42, 222, 2, 1372, 1373, 1374, 81, 1375), (47, 225, 2, 1385, 1386, 1387, 81, 1388), (51, 226, 2, 1389, 1390, 1391, 81, 1392), (59, 228, 2, 1397, 1398, 1399, 81, 1400), (63, 232, 2, 1412, 1413, 1414, 81, 1415), (67, 233, 2, 1416, 1417, 1418, 81, 1419), (71, 234, 2, 1420, 1421, 1422, 81, 1423), (76, 235, 2, 1424, 1425, 1426, 81, 1427), (81, 236, 2, 1428, 1429, 1430, 81, 1431), (86, 237, 2, 1432, 1433, 1434, 81, 1435), (90, 238, 2, 1438, 1439, 1440, 81, 1441), (94, 240, 2, 1446, 1447, 1448, 81, 1449), (98, 241, 2, 1450, 1451, 1452, 81, 1453), (102, 244, 2, 1461, 1462, 1463, 81, 1464), (107, 245, 2, 1465, 1466, 1467, 81, 1468), (115, 246, 2, 1469, 1470, 1471, 81, 1472), (119, 247, 2, 1473, 1474, 1475, 81, 1476), (123, 248, 2, 1477, 1478, 1479, 81, 1480), (135, 249, 2, 1481, 1482, 1483, 81, 1484), (139, 250, 2, 1486, 1487, 1488, 81, 1489), (143, 252, 2, 1494, 1495, 1496, 81, 1497), (147, 253, 2, 1498, 1499, 1500, 81, 1501), (151, 254, 2, 1502, 1503, 1504, 81, 1505), (155, 255, 2, 1506, 1507, 1508, 81, 1509), (159, 258, 2, 1516, 1517, 1518, 81, 1519), (163, 259, 2, 1520, 1521, 1522, 81, 1523), (167, 260, 2, 1524, 1525, 1526, 81, 1527), (171, 261, 2, 1529, 1530, 1531, 81, 1532), (176, 262, 2, 1533, 1534, 1535, 81, 1536), (180, 263, 2, 1537, 1538, 1539, 81, 1540), (184, 264, 2, 1541, 1542, 1543, 81, 1544)]
def aLM : List (List (Nat × Nat × Nat × Nat × Nat × Nat × Nat × Nat)) := [aLM0, aLM1, aLM2, aLM3, aLM4, aLM5, aLM6, aLM7, aLM8, aLM9, aLM10, aLM11, aLM12, aLM13, aLM14, aLM15, aLM16, aLM17]
set_option maxRecDepth 100000 in
def aLC0 : List (Nat × Nat × Nat × Nat × Nat) := [(7, 2, 99, 100, 73), (16, 1, 135, 136, 74), (25, 7, 176, 177, 76), (32, 4, 193, 194, 77), (41, 6, 298, 299, 80), (48, 0, 313, 142, 75)]
set_option maxRecDepth 100000 in
def aLC1 : List (Nat × Nat × Nat × Nat × Nat) := [(9, 3, 105, 200, 78)]
set_option maxRecDepth 100000 in
def aLC2 : List (Nat × Nat × Nat × Nat × Nat) := [(9, 0, 141, 142, 75), (21, 3, 162, 200, 78)]
set_option maxRecDepth 100000 in
def aLC3 : List (Nat × Nat × Nat × Nat × Nat) := []
set_option maxRecDepth 100000 in
def aLC4 : List (Nat × Nat × Nat × Nat × Nat) := []
set_option maxRecDepth 100000 in
def aLC5 : List (Nat × Nat × Nat × Nat × Nat) := [(9, 3, 199, 200, 78)]
set_option maxRecDepth 100000 in
def aLC6 : List (Nat × Nat × Nat × Nat × Nat) := [(9, 5, 205, 206, 79)]
set_option maxRecDepth 100000 in
def aLC7 : List (Nat × Nat × Nat × Nat × Nat) := []
set_option maxRecDepth 100000 in
def aLC8 : List (Nat × Nat × Nat × Nat × Nat) := []
set_option maxRecDepth 100000 in
def aLC9 : List (Nat × Nat × Nat × Nat × Nat) := []
set_option maxRecDepth 100000 in
def aLC10 : List (Nat × Nat × Nat × Nat × Nat) := []
set_option maxRecDepth 100000 in
def aLC11 : List (Nat × Nat × Nat × Nat × Nat) := []
set_option maxRecDepth 100000 in
def aLC12 : List (Nat × Nat × Nat × Nat × Nat) := []
set_option maxRecDepth 100000 in
def aLC13 : List (Nat × Nat × Nat × Nat × Nat) := []
set_option maxRecDepth 100000 in
def aLC14 : List (Nat × Nat × Nat × Nat × Nat) := []
set_option maxRecDepth 100000 in
def aLC15 : List (Nat × Nat × Nat × Nat × Nat) := []
set_option maxRecDepth 100000 in
def aLC16 : List (Nat × Nat × Nat × Nat × Nat) := []
set_option maxRecDepth 100000 in
def aLC17 : List (Nat × Nat × Nat × Nat × Nat) := [(7, 8, 91, 92, 72), (10, 9, 1012, 1013, 81)]
def aLC : List (List (Nat × Nat × Nat × Nat × Nat)) := [aLC0, aLC1, aLC2, aLC3, aLC4, aLC5, aLC6, aLC7, aLC8, aLC9, aLC10, aLC11, aLC12, aLC13, aLC14, aLC15, aLC16, aLC17]
set_option maxRecDepth 100000 in
def aLK0 : List (Nat × Nat × Int × Nat) := [(193, 1, (-1), 809), (195, 1, (-2), 810), (243, 0, 999999937, 912), (250, 1, 2, 930), (260, 0, 1000000000, 939), (272, 0, 1000000, 961)]
set_option maxRecDepth 100000 in
def aLK1 : List (Nat × Nat × Int × Nat) := [(131, 1, (-1), 536)]
set_option maxRecDepth 100000 in
def aLK2 : List (Nat × Nat × Int × Nat) := []
set_option maxRecDepth 100000 in
def aLK3 : List (Nat × Nat × Int × Nat) := []
set_option maxRecDepth 100000 in
def aLK4 : List (Nat × Nat × Int × Nat) := []
set_option maxRecDepth 100000 in
def aLK5 : List (Nat × Nat × Int × Nat) := [(81, 0, 1000000000, 646), (76, 1, 10, 651), (123, 3, 5, 657), (96, 3, 6, 662), (125, 3, 7, 676), (115, 3, 8, 677), (116, 3, 9, 678)]
set_option maxRecDepth 100000 in
def aLK6 : List (Nat × Nat × Int × Nat) := []
set_option maxRecDepth 100000 in
def aLK7 : List (Nat × Nat × Int × Nat) := [(42, 1, 2000000000, 435)]
set_option maxRecDepth 100000 in
def aLK8 : List (Nat × Nat × Int × Nat) := [(15, 3, 0, 589), (17, 3, 1, 590), (19, 3, 2, 591), (21, 3, 3, 592), (23, 3, 4, 593), (102, 0, 1000000000, 871), (53, 3, 7, 873), (61, 3, 5, 874), (74, 3, 8, 876), (79, 3, 9, 881), (83, 3, 6, 882)]
set_option maxRecDepth 100000 in
def aLK9 : List (Nat × Nat × Int × Nat) := [(9, 0, 1000000000, 341), (10, 1, 2, 389), (18, 1, 8, 488), (20, 1, 3, 489), (22, 1, 5, 490), (24, 1, 4, 491)]
set_option maxRecDepth 100000 in
def aLK10 : List (Nat × Nat × Int × Nat) := [(88, 1, 4, 481)]
set_option maxRecDepth 100000 in
def aLK11 : List (Nat × Nat × Int × Nat) := []
set_option maxRecDepth 100000 in
def aLK12 : List (Nat × Nat × Int × Nat) := []
set_option maxRecDepth 100000 in
def aLK13 : List (Nat × Nat × Int × Nat) := []
set_option maxRecDepth 100000 in
def aLK14 : List (Nat × Nat × Int × Nat) := []
set_option maxRecDepth 100000 in
def aLK15 : List (Nat × Nat × Int × Nat) := [(314, 1, 6148914691236517205, 992), (316, 1, 3689348814741910323, 993), (318, 1, 1085102592571150095, 994)]
set_option maxRecDepth 100000 in
def aLK16 : List (Nat × Nat × Int × Nat) := [(21, 1, 4, 1128), (7, 1, 2, 1135), (9, 1, 1000000000, 1136), (126, 1, 4000000000, 1171), (140, 1, 40000, 1186), (15, 1, 8, 1206), (17, 1, 3, 1207), (19, 1, 5, 1208), (249, 1, 97, 1302), (251, 1, 122, 1303), (253, 1, 48, 1316), (255, 1, 57, 1317), (285, 1, 10, 1318), (296, 0, 1000000000, 1327), (330, 1, 99, 1371), (332, 1, 30, 1383), (334, 1, 999, 1384), (359, 1, (-1), 1436), (361, 1, (-2), 1437), (369, 1, 999999936, 1485), (380, 1, 1000000, 1528)]
set_option maxRecDepth 100000 in
def aLK17 : List (Nat × Nat × Int × Nat) := []
def aLK : List (List (Nat × Nat × Int × Nat)) := [aLK0, aLK1, aLK2, aLK3, aLK4, aLK5, aLK6, aLK7, aLK8, aLK9, aLK10, aLK11, aLK12, aLK13, aLK14, aLK15, aLK16, aLK17]
set_option maxRecDepth 100000 in
def aLS0 : List (Nat × Nat × Nat) := []
set_option maxRecDepth 100000 in
def aLS1 : List (Nat × Nat × Nat) := []
set_option maxRecDepth 100000 in
def aLS2 : List (Nat × Nat × Nat) := []
set_option maxRecDepth 100000 in
def aLS3 : List (Nat × Nat × Nat) := []
set_option maxRecDepth 100000 in
def aLS4 : List (Nat × Nat × Nat) := []
set_option maxRecDepth 100000 in
def aLS5 : List (Nat × Nat × Nat) := []
set_option maxRecDepth 100000 in
def aLS6 : List (Nat × Nat × Nat) := []
set_option maxRecDepth 100000 in
def aLS7 : List (Nat × Nat × Nat) := []
set_option maxRecDepth 100000 in
def aLS8 : List (Nat × Nat × Nat) := []
set_option maxRecDepth 100000 in
def aLS9 : List (Nat × Nat × Nat) := [(32, 0, 381)]
set_option maxRecDepth 100000 in
def aLS10 : List (Nat × Nat × Nat) := []
set_option maxRecDepth 100000 in
def aLS11 : List (Nat × Nat × Nat) := []
set_option maxRecDepth 100000 in
def aLS12 : List (Nat × Nat × Nat) := [(38, 1, 606), (1053, 2, 622), (9, 3, 1545), (15, 4, 1546)]
set_option maxRecDepth 100000 in
def aLS13 : List (Nat × Nat × Nat) := []
set_option maxRecDepth 100000 in
def aLS14 : List (Nat × Nat × Nat) := []
set_option maxRecDepth 100000 in
def aLS15 : List (Nat × Nat × Nat) := []
set_option maxRecDepth 100000 in
def aLS16 : List (Nat × Nat × Nat) := []
set_option maxRecDepth 100000 in
def aLS17 : List (Nat × Nat × Nat) := []
def aLS : List (List (Nat × Nat × Nat)) := [aLS0, aLS1, aLS2, aLS3, aLS4, aLS5, aLS6, aLS7, aLS8, aLS9, aLS10, aLS11, aLS12, aLS13, aLS14, aLS15, aLS16, aLS17]
def aStr : List (List Nat) := [[112, 114, 97, 116, 116], [112, 97, 114, 116], [108, 117, 99, 97, 115], [98, 111, 116, 104], [115, 109, 97, 108, 108], [98, 97, 115, 101], [98, 121], [119, 105, 116, 104], [100, 111, 119, 110], [117, 112]]
def aStrT : List String := ["pratt", "part", "lucas", "both", "small", "base", "by", "with", "down", "up"]
