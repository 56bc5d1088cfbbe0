-- ===== PART A: goes FIRST, ahead of the names: the tables' words, and 'selects' of the private methods out of them =====
/-- a private method of a class that the tables say can be made, by its rows of tables_1 -/
def lw_okq (q : MethodName × Nat) : Prop := (q.1.cls ≠ "java/lang/invoke/MethodHandle" ∧ q.1.cls ≠ "java/lang/invoke/VarHandle") ∧ Cond.instantiable q.1.cls q.2 ∈ tables_1 ∧ Cond.privateMethod q.1 ∈ tables_1 ∧ Cond.instanceMethod q.1 ∈ tables_1
theorem lw_p0 : lw_okq (⟨"SyllableMaker$Tape", "isBlank", "(I)Z"⟩, 7) := ⟨⟨by decide +kernel, by decide +kernel⟩, List.mem_of_getElem? (i := 29) (by decide +kernel), List.mem_of_getElem? (i := 461) (by decide +kernel), List.mem_of_getElem? (i := 462) (by decide +kernel)⟩
theorem lw_p1 : lw_okq (⟨"SyllableMaker$Tape", "countFrom", "(ICC)I"⟩, 7) := ⟨⟨by decide +kernel, by decide +kernel⟩, List.mem_of_getElem? (i := 29) (by decide +kernel), List.mem_of_getElem? (i := 465) (by decide +kernel), List.mem_of_getElem? (i := 466) (by decide +kernel)⟩
theorem lw_p2 : lw_okq (⟨"SyllableMaker$Reader", "readLine", "()V"⟩, 5) := ⟨⟨by decide +kernel, by decide +kernel⟩, List.mem_of_getElem? (i := 64) (by decide +kernel), List.mem_of_getElem? (i := 483) (by decide +kernel), List.mem_of_getElem? (i := 484) (by decide +kernel)⟩
theorem lw_p3 : lw_okq (⟨"SyllableMaker$Reader", "lineHere", "()I"⟩, 5) := ⟨⟨by decide +kernel, by decide +kernel⟩, List.mem_of_getElem? (i := 64) (by decide +kernel), List.mem_of_getElem? (i := 487) (by decide +kernel), List.mem_of_getElem? (i := 488) (by decide +kernel)⟩
theorem lw_p4 : lw_okq (⟨"SyllableMaker$Reader", "mostOf", "(I)I"⟩, 5) := ⟨⟨by decide +kernel, by decide +kernel⟩, List.mem_of_getElem? (i := 64) (by decide +kernel), List.mem_of_getElem? (i := 562) (by decide +kernel), List.mem_of_getElem? (i := 563) (by decide +kernel)⟩
theorem lw_p5 : lw_okq (⟨"SyllableMaker$Reader", "readRowLine", "(I)V"⟩, 5) := ⟨⟨by decide +kernel, by decide +kernel⟩, List.mem_of_getElem? (i := 64) (by decide +kernel), List.mem_of_getElem? (i := 568) (by decide +kernel), List.mem_of_getElem? (i := 569) (by decide +kernel)⟩
theorem lw_p6 : lw_okq (⟨"SyllableMaker$Reader", "readSound", "()V"⟩, 5) := ⟨⟨by decide +kernel, by decide +kernel⟩, List.mem_of_getElem? (i := 64) (by decide +kernel), List.mem_of_getElem? (i := 572) (by decide +kernel), List.mem_of_getElem? (i := 573) (by decide +kernel)⟩
theorem lw_p7 : lw_okq (⟨"SyllableMaker$Reader", "readNumber", "(II)I"⟩, 5) := ⟨⟨by decide +kernel, by decide +kernel⟩, List.mem_of_getElem? (i := 64) (by decide +kernel), List.mem_of_getElem? (i := 581) (by decide +kernel), List.mem_of_getElem? (i := 582) (by decide +kernel)⟩
theorem lw_p8 : lw_okq (⟨"SyllableMaker$Reader", "readOpen", "()V"⟩, 5) := ⟨⟨by decide +kernel, by decide +kernel⟩, List.mem_of_getElem? (i := 64) (by decide +kernel), List.mem_of_getElem? (i := 594) (by decide +kernel), List.mem_of_getElem? (i := 595) (by decide +kernel)⟩
theorem lw_p9 : lw_okq (⟨"SyllableMaker$Reader", "readRow", "(III)Z"⟩, 5) := ⟨⟨by decide +kernel, by decide +kernel⟩, List.mem_of_getElem? (i := 64) (by decide +kernel), List.mem_of_getElem? (i := 598) (by decide +kernel), List.mem_of_getElem? (i := 599) (by decide +kernel)⟩
theorem lw_p10 : lw_okq (⟨"SyllableMaker$Reader", "readGlide", "()V"⟩, 5) := ⟨⟨by decide +kernel, by decide +kernel⟩, List.mem_of_getElem? (i := 64) (by decide +kernel), List.mem_of_getElem? (i := 629) (by decide +kernel), List.mem_of_getElem? (i := 630) (by decide +kernel)⟩
theorem lw_p11 : lw_okq (⟨"SyllableMaker$Reader", "readNumbersLine", "(I)V"⟩, 5) := ⟨⟨by decide +kernel, by decide +kernel⟩, List.mem_of_getElem? (i := 64) (by decide +kernel), List.mem_of_getElem? (i := 657) (by decide +kernel), List.mem_of_getElem? (i := 658) (by decide +kernel)⟩
theorem lw_p12 : lw_okq (⟨"SyllableMaker$Reader", "readCost", "()V"⟩, 5) := ⟨⟨by decide +kernel, by decide +kernel⟩, List.mem_of_getElem? (i := 64) (by decide +kernel), List.mem_of_getElem? (i := 661) (by decide +kernel), List.mem_of_getElem? (i := 662) (by decide +kernel)⟩
theorem lw_p13 : lw_okq (⟨"SyllableMaker$Reader", "costHere", "()I"⟩, 5) := ⟨⟨by decide +kernel, by decide +kernel⟩, List.mem_of_getElem? (i := 64) (by decide +kernel), List.mem_of_getElem? (i := 665) (by decide +kernel), List.mem_of_getElem? (i := 666) (by decide +kernel)⟩
theorem lw_p14 : lw_okq (⟨"SyllableMaker$Reader", "readSign", "()V"⟩, 5) := ⟨⟨by decide +kernel, by decide +kernel⟩, List.mem_of_getElem? (i := 64) (by decide +kernel), List.mem_of_getElem? (i := 679) (by decide +kernel), List.mem_of_getElem? (i := 680) (by decide +kernel)⟩
theorem lw_p15 : lw_okq (⟨"SyllableMaker$Law", "isRising", "(J)Z"⟩, 18) := ⟨⟨by decide +kernel, by decide +kernel⟩, List.mem_of_getElem? (i := 266) (by decide +kernel), List.mem_of_getElem? (i := 742) (by decide +kernel), List.mem_of_getElem? (i := 743) (by decide +kernel)⟩
def lw_privs_1 : List (MethodName × Nat) := [(⟨"SyllableMaker$Tape", "isBlank", "(I)Z"⟩, 7), (⟨"SyllableMaker$Tape", "countFrom", "(ICC)I"⟩, 7), (⟨"SyllableMaker$Reader", "readLine", "()V"⟩, 5), (⟨"SyllableMaker$Reader", "lineHere", "()I"⟩, 5), (⟨"SyllableMaker$Reader", "mostOf", "(I)I"⟩, 5), (⟨"SyllableMaker$Reader", "readRowLine", "(I)V"⟩, 5), (⟨"SyllableMaker$Reader", "readSound", "()V"⟩, 5), (⟨"SyllableMaker$Reader", "readNumber", "(II)I"⟩, 5), (⟨"SyllableMaker$Reader", "readOpen", "()V"⟩, 5), (⟨"SyllableMaker$Reader", "readRow", "(III)Z"⟩, 5), (⟨"SyllableMaker$Reader", "readGlide", "()V"⟩, 5), (⟨"SyllableMaker$Reader", "readNumbersLine", "(I)V"⟩, 5), (⟨"SyllableMaker$Reader", "readCost", "()V"⟩, 5), (⟨"SyllableMaker$Reader", "costHere", "()I"⟩, 5), (⟨"SyllableMaker$Reader", "readSign", "()V"⟩, 5), (⟨"SyllableMaker$Law", "isRising", "(J)Z"⟩, 18)]
theorem lw_r1 : ∀ q ∈ lw_privs_1, lw_okq q := List.forall_mem_cons.mpr ⟨lw_p0, List.forall_mem_cons.mpr ⟨lw_p1, List.forall_mem_cons.mpr ⟨lw_p2, List.forall_mem_cons.mpr ⟨lw_p3, List.forall_mem_cons.mpr ⟨lw_p4, List.forall_mem_cons.mpr ⟨lw_p5, List.forall_mem_cons.mpr ⟨lw_p6, List.forall_mem_cons.mpr ⟨lw_p7, List.forall_mem_cons.mpr ⟨lw_p8, List.forall_mem_cons.mpr ⟨lw_p9, List.forall_mem_cons.mpr ⟨lw_p10, List.forall_mem_cons.mpr ⟨lw_p11, List.forall_mem_cons.mpr ⟨lw_p12, List.forall_mem_cons.mpr ⟨lw_p13, List.forall_mem_cons.mpr ⟨lw_p14, List.forall_mem_cons.mpr ⟨lw_p15, fun _ h => absurd h List.not_mem_nil⟩⟩⟩⟩⟩⟩⟩⟩⟩⟩⟩⟩⟩⟩⟩⟩
theorem lw_p16 : lw_okq (⟨"SyllableMaker", "rowOf", "(I)LSyllableMaker$Row;"⟩, 9) := ⟨⟨by decide +kernel, by decide +kernel⟩, List.mem_of_getElem? (i := 21) (by decide +kernel), List.mem_of_getElem? (i := 756) (by decide +kernel), List.mem_of_getElem? (i := 757) (by decide +kernel)⟩
theorem lw_p17 : lw_okq (⟨"SyllableMaker$Cut", "clearClosings", "()V"⟩, 10) := ⟨⟨by decide +kernel, by decide +kernel⟩, List.mem_of_getElem? (i := 114) (by decide +kernel), List.mem_of_getElem? (i := 776) (by decide +kernel), List.mem_of_getElem? (i := 777) (by decide +kernel)⟩
theorem lw_p18 : lw_okq (⟨"SyllableMaker$Cut", "heartEnd", "(I)I"⟩, 10) := ⟨⟨by decide +kernel, by decide +kernel⟩, List.mem_of_getElem? (i := 114) (by decide +kernel), List.mem_of_getElem? (i := 788) (by decide +kernel), List.mem_of_getElem? (i := 789) (by decide +kernel)⟩
theorem lw_p19 : lw_okq (⟨"SyllableMaker$Cut", "cutNext", "()Z"⟩, 10) := ⟨⟨by decide +kernel, by decide +kernel⟩, List.mem_of_getElem? (i := 114) (by decide +kernel), List.mem_of_getElem? (i := 854) (by decide +kernel), List.mem_of_getElem? (i := 855) (by decide +kernel)⟩
theorem lw_p20 : lw_okq (⟨"SyllableMaker", "tellSyllable", "(II)I"⟩, 9) := ⟨⟨by decide +kernel, by decide +kernel⟩, List.mem_of_getElem? (i := 21) (by decide +kernel), List.mem_of_getElem? (i := 900) (by decide +kernel), List.mem_of_getElem? (i := 901) (by decide +kernel)⟩
theorem lw_p21 : lw_okq (⟨"SyllableMaker$Mender", "fits", "(LSyllableMaker$Law;LSyllableMaker$Row;I)Z"⟩, 3) := ⟨⟨by decide +kernel, by decide +kernel⟩, List.mem_of_getElem? (i := 223) (by decide +kernel), List.mem_of_getElem? (i := 955) (by decide +kernel), List.mem_of_getElem? (i := 956) (by decide +kernel)⟩
theorem lw_p22 : lw_okq (⟨"SyllableMaker$Mender", "takeNextPlaces", "(II)Z"⟩, 3) := ⟨⟨by decide +kernel, by decide +kernel⟩, List.mem_of_getElem? (i := 223) (by decide +kernel), List.mem_of_getElem? (i := 966) (by decide +kernel), List.mem_of_getElem? (i := 967) (by decide +kernel)⟩
theorem lw_p23 : lw_okq (⟨"SyllableMaker$Sounds", "change", "(II)I"⟩, 7) := ⟨⟨by decide +kernel, by decide +kernel⟩, List.mem_of_getElem? (i := 272) (by decide +kernel), List.mem_of_getElem? (i := 984) (by decide +kernel), List.mem_of_getElem? (i := 985) (by decide +kernel)⟩
theorem lw_p24 : lw_okq (⟨"SyllableMaker$Words", "hasWord", "(J)Z"⟩, 3) := ⟨⟨by decide +kernel, by decide +kernel⟩, List.mem_of_getElem? (i := 161) (by decide +kernel), List.mem_of_getElem? (i := 1007) (by decide +kernel), List.mem_of_getElem? (i := 1008) (by decide +kernel)⟩
theorem lw_p25 : lw_okq (⟨"SyllableMaker$Sounds", "chainsBefore", "(II)I"⟩, 7) := ⟨⟨by decide +kernel, by decide +kernel⟩, List.mem_of_getElem? (i := 272) (by decide +kernel), List.mem_of_getElem? (i := 1087) (by decide +kernel), List.mem_of_getElem? (i := 1088) (by decide +kernel)⟩
theorem lw_p26 : lw_okq (⟨"SyllableMaker$Law", "leadAt", "(I)J"⟩, 18) := ⟨⟨by decide +kernel, by decide +kernel⟩, List.mem_of_getElem? (i := 266) (by decide +kernel), List.mem_of_getElem? (i := 1092) (by decide +kernel), List.mem_of_getElem? (i := 1093) (by decide +kernel)⟩
theorem lw_p27 : lw_okq (⟨"SyllableMaker$Law", "isNewLead", "(I)Z"⟩, 18) := ⟨⟨by decide +kernel, by decide +kernel⟩, List.mem_of_getElem? (i := 266) (by decide +kernel), List.mem_of_getElem? (i := 1097) (by decide +kernel), List.mem_of_getElem? (i := 1098) (by decide +kernel)⟩
theorem lw_p28 : lw_okq (⟨"SyllableMaker$Tally", "countSyllables", "()V"⟩, 5) := ⟨⟨by decide +kernel, by decide +kernel⟩, List.mem_of_getElem? (i := 196) (by decide +kernel), List.mem_of_getElem? (i := 1120) (by decide +kernel), List.mem_of_getElem? (i := 1121) (by decide +kernel)⟩
theorem lw_p29 : lw_okq (⟨"SyllableMaker$Tally", "count", "(IJ)V"⟩, 5) := ⟨⟨by decide +kernel, by decide +kernel⟩, List.mem_of_getElem? (i := 196) (by decide +kernel), List.mem_of_getElem? (i := 1125) (by decide +kernel), List.mem_of_getElem? (i := 1126) (by decide +kernel)⟩
theorem lw_p30 : lw_okq (⟨"SyllableMaker$Tally", "drawn", "(II)J"⟩, 5) := ⟨⟨by decide +kernel, by decide +kernel⟩, List.mem_of_getElem? (i := 196) (by decide +kernel), List.mem_of_getElem? (i := 1157) (by decide +kernel), List.mem_of_getElem? (i := 1158) (by decide +kernel)⟩
theorem lw_p31 : lw_okq (⟨"SyllableMaker$Acts", "dropOldest", "()V"⟩, 5) := ⟨⟨by decide +kernel, by decide +kernel⟩, List.mem_of_getElem? (i := 241) (by decide +kernel), List.mem_of_getElem? (i := 1170) (by decide +kernel), List.mem_of_getElem? (i := 1171) (by decide +kernel)⟩
def lw_privs_2 : List (MethodName × Nat) := [(⟨"SyllableMaker", "rowOf", "(I)LSyllableMaker$Row;"⟩, 9), (⟨"SyllableMaker$Cut", "clearClosings", "()V"⟩, 10), (⟨"SyllableMaker$Cut", "heartEnd", "(I)I"⟩, 10), (⟨"SyllableMaker$Cut", "cutNext", "()Z"⟩, 10), (⟨"SyllableMaker", "tellSyllable", "(II)I"⟩, 9), (⟨"SyllableMaker$Mender", "fits", "(LSyllableMaker$Law;LSyllableMaker$Row;I)Z"⟩, 3), (⟨"SyllableMaker$Mender", "takeNextPlaces", "(II)Z"⟩, 3), (⟨"SyllableMaker$Sounds", "change", "(II)I"⟩, 7), (⟨"SyllableMaker$Words", "hasWord", "(J)Z"⟩, 3), (⟨"SyllableMaker$Sounds", "chainsBefore", "(II)I"⟩, 7), (⟨"SyllableMaker$Law", "leadAt", "(I)J"⟩, 18), (⟨"SyllableMaker$Law", "isNewLead", "(I)Z"⟩, 18), (⟨"SyllableMaker$Tally", "countSyllables", "()V"⟩, 5), (⟨"SyllableMaker$Tally", "count", "(IJ)V"⟩, 5), (⟨"SyllableMaker$Tally", "drawn", "(II)J"⟩, 5), (⟨"SyllableMaker$Acts", "dropOldest", "()V"⟩, 5)]
theorem lw_r2 : ∀ q ∈ lw_privs_2, lw_okq q := List.forall_mem_cons.mpr ⟨lw_p16, List.forall_mem_cons.mpr ⟨lw_p17, List.forall_mem_cons.mpr ⟨lw_p18, List.forall_mem_cons.mpr ⟨lw_p19, List.forall_mem_cons.mpr ⟨lw_p20, List.forall_mem_cons.mpr ⟨lw_p21, List.forall_mem_cons.mpr ⟨lw_p22, List.forall_mem_cons.mpr ⟨lw_p23, List.forall_mem_cons.mpr ⟨lw_p24, List.forall_mem_cons.mpr ⟨lw_p25, List.forall_mem_cons.mpr ⟨lw_p26, List.forall_mem_cons.mpr ⟨lw_p27, List.forall_mem_cons.mpr ⟨lw_p28, List.forall_mem_cons.mpr ⟨lw_p29, List.forall_mem_cons.mpr ⟨lw_p30, List.forall_mem_cons.mpr ⟨lw_p31, fun _ h => absurd h List.not_mem_nil⟩⟩⟩⟩⟩⟩⟩⟩⟩⟩⟩⟩⟩⟩⟩⟩
theorem lw_p32 : lw_okq (⟨"SyllableMaker$Acts", "hasLatest", "()Z"⟩, 5) := ⟨⟨by decide +kernel, by decide +kernel⟩, List.mem_of_getElem? (i := 241) (by decide +kernel), List.mem_of_getElem? (i := 1201) (by decide +kernel), List.mem_of_getElem? (i := 1202) (by decide +kernel)⟩
theorem lw_p33 : lw_okq (⟨"SyllableMakerModel", "plainly", "()V"⟩, 88) := ⟨⟨by decide +kernel, by decide +kernel⟩, List.mem_of_getElem? (i := 1226) (by decide +kernel), List.mem_of_getElem? (i := 1232) (by decide +kernel), List.mem_of_getElem? (i := 1233) (by decide +kernel)⟩
theorem lw_p34 : lw_okq (⟨"SyllableMakerModel", "takes", "()V"⟩, 88) := ⟨⟨by decide +kernel, by decide +kernel⟩, List.mem_of_getElem? (i := 1226) (by decide +kernel), List.mem_of_getElem? (i := 1236) (by decide +kernel), List.mem_of_getElem? (i := 1237) (by decide +kernel)⟩
theorem lw_p35 : lw_okq (⟨"SyllableMakerModel", "forgets", "()V"⟩, 88) := ⟨⟨by decide +kernel, by decide +kernel⟩, List.mem_of_getElem? (i := 1226) (by decide +kernel), List.mem_of_getElem? (i := 1240) (by decide +kernel), List.mem_of_getElem? (i := 1241) (by decide +kernel)⟩
theorem lw_p36 : lw_okq (⟨"SyllableMakerModel", "four", "(I)V"⟩, 88) := ⟨⟨by decide +kernel, by decide +kernel⟩, List.mem_of_getElem? (i := 1226) (by decide +kernel), List.mem_of_getElem? (i := 1513) (by decide +kernel), List.mem_of_getElem? (i := 1514) (by decide +kernel)⟩
theorem lw_p37 : lw_okq (⟨"SyllableMakerModel", "begins", "()V"⟩, 88) := ⟨⟨by decide +kernel, by decide +kernel⟩, List.mem_of_getElem? (i := 1226) (by decide +kernel), List.mem_of_getElem? (i := 1528) (by decide +kernel), List.mem_of_getElem? (i := 1529) (by decide +kernel)⟩
theorem lw_p38 : lw_okq (⟨"SyllableMakerModel", "goOn", "()V"⟩, 88) := ⟨⟨by decide +kernel, by decide +kernel⟩, List.mem_of_getElem? (i := 1226) (by decide +kernel), List.mem_of_getElem? (i := 1532) (by decide +kernel), List.mem_of_getElem? (i := 1533) (by decide +kernel)⟩
theorem lw_p39 : lw_okq (⟨"SyllableMakerModel", "here", "(I)I"⟩, 88) := ⟨⟨by decide +kernel, by decide +kernel⟩, List.mem_of_getElem? (i := 1226) (by decide +kernel), List.mem_of_getElem? (i := 1536) (by decide +kernel), List.mem_of_getElem? (i := 1537) (by decide +kernel)⟩
theorem lw_p40 : lw_okq (⟨"SyllableMakerModel", "isGood", "()Z"⟩, 88) := ⟨⟨by decide +kernel, by decide +kernel⟩, List.mem_of_getElem? (i := 1226) (by decide +kernel), List.mem_of_getElem? (i := 1548) (by decide +kernel), List.mem_of_getElem? (i := 1549) (by decide +kernel)⟩
theorem lw_p41 : lw_okq (⟨"SyllableMakerModel", "line", "()V"⟩, 88) := ⟨⟨by decide +kernel, by decide +kernel⟩, List.mem_of_getElem? (i := 1226) (by decide +kernel), List.mem_of_getElem? (i := 1552) (by decide +kernel), List.mem_of_getElem? (i := 1553) (by decide +kernel)⟩
theorem lw_p42 : lw_okq (⟨"SyllableMakerModel", "isWord", "(J)Z"⟩, 88) := ⟨⟨by decide +kernel, by decide +kernel⟩, List.mem_of_getElem? (i := 1226) (by decide +kernel), List.mem_of_getElem? (i := 1558) (by decide +kernel), List.mem_of_getElem? (i := 1559) (by decide +kernel)⟩
theorem lw_p43 : lw_okq (⟨"SyllableMakerModel", "soundLine", "()V"⟩, 88) := ⟨⟨by decide +kernel, by decide +kernel⟩, List.mem_of_getElem? (i := 1226) (by decide +kernel), List.mem_of_getElem? (i := 1562) (by decide +kernel), List.mem_of_getElem? (i := 1563) (by decide +kernel)⟩
theorem lw_p44 : lw_okq (⟨"SyllableMakerModel", "wrong", "(I)V"⟩, 88) := ⟨⟨by decide +kernel, by decide +kernel⟩, List.mem_of_getElem? (i := 1226) (by decide +kernel), List.mem_of_getElem? (i := 1566) (by decide +kernel), List.mem_of_getElem? (i := 1567) (by decide +kernel)⟩
theorem lw_p45 : lw_okq (⟨"SyllableMakerModel", "number", "(II)I"⟩, 88) := ⟨⟨by decide +kernel, by decide +kernel⟩, List.mem_of_getElem? (i := 1226) (by decide +kernel), List.mem_of_getElem? (i := 1570) (by decide +kernel), List.mem_of_getElem? (i := 1571) (by decide +kernel)⟩
theorem lw_p46 : lw_okq (⟨"SyllableMakerModel", "openLine", "()V"⟩, 88) := ⟨⟨by decide +kernel, by decide +kernel⟩, List.mem_of_getElem? (i := 1226) (by decide +kernel), List.mem_of_getElem? (i := 1581) (by decide +kernel), List.mem_of_getElem? (i := 1582) (by decide +kernel)⟩
theorem lw_p47 : lw_okq (⟨"SyllableMakerModel", "soundsHere", "(I)V"⟩, 88) := ⟨⟨by decide +kernel, by decide +kernel⟩, List.mem_of_getElem? (i := 1226) (by decide +kernel), List.mem_of_getElem? (i := 1585) (by decide +kernel), List.mem_of_getElem? (i := 1586) (by decide +kernel)⟩
def lw_privs_3 : List (MethodName × Nat) := [(⟨"SyllableMaker$Acts", "hasLatest", "()Z"⟩, 5), (⟨"SyllableMakerModel", "plainly", "()V"⟩, 88), (⟨"SyllableMakerModel", "takes", "()V"⟩, 88), (⟨"SyllableMakerModel", "forgets", "()V"⟩, 88), (⟨"SyllableMakerModel", "four", "(I)V"⟩, 88), (⟨"SyllableMakerModel", "begins", "()V"⟩, 88), (⟨"SyllableMakerModel", "goOn", "()V"⟩, 88), (⟨"SyllableMakerModel", "here", "(I)I"⟩, 88), (⟨"SyllableMakerModel", "isGood", "()Z"⟩, 88), (⟨"SyllableMakerModel", "line", "()V"⟩, 88), (⟨"SyllableMakerModel", "isWord", "(J)Z"⟩, 88), (⟨"SyllableMakerModel", "soundLine", "()V"⟩, 88), (⟨"SyllableMakerModel", "wrong", "(I)V"⟩, 88), (⟨"SyllableMakerModel", "number", "(II)I"⟩, 88), (⟨"SyllableMakerModel", "openLine", "()V"⟩, 88), (⟨"SyllableMakerModel", "soundsHere", "(I)V"⟩, 88)]
theorem lw_r3 : ∀ q ∈ lw_privs_3, lw_okq q := List.forall_mem_cons.mpr ⟨lw_p32, List.forall_mem_cons.mpr ⟨lw_p33, List.forall_mem_cons.mpr ⟨lw_p34, List.forall_mem_cons.mpr ⟨lw_p35, List.forall_mem_cons.mpr ⟨lw_p36, List.forall_mem_cons.mpr ⟨lw_p37, List.forall_mem_cons.mpr ⟨lw_p38, List.forall_mem_cons.mpr ⟨lw_p39, List.forall_mem_cons.mpr ⟨lw_p40, List.forall_mem_cons.mpr ⟨lw_p41, List.forall_mem_cons.mpr ⟨lw_p42, List.forall_mem_cons.mpr ⟨lw_p43, List.forall_mem_cons.mpr ⟨lw_p44, List.forall_mem_cons.mpr ⟨lw_p45, List.forall_mem_cons.mpr ⟨lw_p46, List.forall_mem_cons.mpr ⟨lw_p47, fun _ h => absurd h List.not_mem_nil⟩⟩⟩⟩⟩⟩⟩⟩⟩⟩⟩⟩⟩⟩⟩⟩
theorem lw_p48 : lw_okq (⟨"SyllableMakerModel", "glideLine", "()V"⟩, 88) := ⟨⟨by decide +kernel, by decide +kernel⟩, List.mem_of_getElem? (i := 1226) (by decide +kernel), List.mem_of_getElem? (i := 1593) (by decide +kernel), List.mem_of_getElem? (i := 1594) (by decide +kernel)⟩
theorem lw_p49 : lw_okq (⟨"SyllableMakerModel", "riseLine", "()V"⟩, 88) := ⟨⟨by decide +kernel, by decide +kernel⟩, List.mem_of_getElem? (i := 1226) (by decide +kernel), List.mem_of_getElem? (i := 1599) (by decide +kernel), List.mem_of_getElem? (i := 1600) (by decide +kernel)⟩
theorem lw_p50 : lw_okq (⟨"SyllableMakerModel", "once", "(I)V"⟩, 88) := ⟨⟨by decide +kernel, by decide +kernel⟩, List.mem_of_getElem? (i := 1226) (by decide +kernel), List.mem_of_getElem? (i := 1603) (by decide +kernel), List.mem_of_getElem? (i := 1604) (by decide +kernel)⟩
theorem lw_p51 : lw_okq (⟨"SyllableMakerModel", "closeLine", "()V"⟩, 88) := ⟨⟨by decide +kernel, by decide +kernel⟩, List.mem_of_getElem? (i := 1226) (by decide +kernel), List.mem_of_getElem? (i := 1609) (by decide +kernel), List.mem_of_getElem? (i := 1610) (by decide +kernel)⟩
theorem lw_p52 : lw_okq (⟨"SyllableMakerModel", "costLine", "()V"⟩, 88) := ⟨⟨by decide +kernel, by decide +kernel⟩, List.mem_of_getElem? (i := 1226) (by decide +kernel), List.mem_of_getElem? (i := 1615) (by decide +kernel), List.mem_of_getElem? (i := 1616) (by decide +kernel)⟩
theorem lw_p53 : lw_okq (⟨"SyllableMakerModel", "weighLine", "()V"⟩, 88) := ⟨⟨by decide +kernel, by decide +kernel⟩, List.mem_of_getElem? (i := 1226) (by decide +kernel), List.mem_of_getElem? (i := 1633) (by decide +kernel), List.mem_of_getElem? (i := 1634) (by decide +kernel)⟩
theorem lw_p54 : lw_okq (⟨"SyllableMakerModel", "stressLine", "()V"⟩, 88) := ⟨⟨by decide +kernel, by decide +kernel⟩, List.mem_of_getElem? (i := 1226) (by decide +kernel), List.mem_of_getElem? (i := 1639) (by decide +kernel), List.mem_of_getElem? (i := 1640) (by decide +kernel)⟩
theorem lw_p55 : lw_okq (⟨"SyllableMakerModel", "helpLine", "()V"⟩, 88) := ⟨⟨by decide +kernel, by decide +kernel⟩, List.mem_of_getElem? (i := 1226) (by decide +kernel), List.mem_of_getElem? (i := 1645) (by decide +kernel), List.mem_of_getElem? (i := 1646) (by decide +kernel)⟩
theorem lw_p56 : lw_okq (⟨"SyllableMakerModel", "moveLine", "()V"⟩, 88) := ⟨⟨by decide +kernel, by decide +kernel⟩, List.mem_of_getElem? (i := 1226) (by decide +kernel), List.mem_of_getElem? (i := 1651) (by decide +kernel), List.mem_of_getElem? (i := 1652) (by decide +kernel)⟩
theorem lw_p57 : lw_okq (⟨"SyllableMakerModel", "wordLine", "()V"⟩, 88) := ⟨⟨by decide +kernel, by decide +kernel⟩, List.mem_of_getElem? (i := 1226) (by decide +kernel), List.mem_of_getElem? (i := 1657) (by decide +kernel), List.mem_of_getElem? (i := 1658) (by decide +kernel)⟩
theorem lw_p58 : lw_okq (⟨"SyllableMakerModel", "must", "(I)V"⟩, 88) := ⟨⟨by decide +kernel, by decide +kernel⟩, List.mem_of_getElem? (i := 1226) (by decide +kernel), List.mem_of_getElem? (i := 1661) (by decide +kernel), List.mem_of_getElem? (i := 1662) (by decide +kernel)⟩
theorem lw_p59 : lw_okq (⟨"SyllableMakerModel", "act", "()V"⟩, 88) := ⟨⟨by decide +kernel, by decide +kernel⟩, List.mem_of_getElem? (i := 1226) (by decide +kernel), List.mem_of_getElem? (i := 1681) (by decide +kernel), List.mem_of_getElem? (i := 1682) (by decide +kernel)⟩
theorem lw_p60 : lw_okq (⟨"SyllableMakerModel", "isThere", "(I)Z"⟩, 88) := ⟨⟨by decide +kernel, by decide +kernel⟩, List.mem_of_getElem? (i := 1226) (by decide +kernel), List.mem_of_getElem? (i := 1699) (by decide +kernel), List.mem_of_getElem? (i := 1700) (by decide +kernel)⟩
theorem lw_p61 : lw_okq (⟨"SyllableMakerModel", "longOf", "(I)I"⟩, 88) := ⟨⟨by decide +kernel, by decide +kernel⟩, List.mem_of_getElem? (i := 1226) (by decide +kernel), List.mem_of_getElem? (i := 1704) (by decide +kernel), List.mem_of_getElem? (i := 1705) (by decide +kernel)⟩
theorem lw_p62 : lw_okq (⟨"SyllableMakerModel", "soundAt", "(II)I"⟩, 88) := ⟨⟨by decide +kernel, by decide +kernel⟩, List.mem_of_getElem? (i := 1226) (by decide +kernel), List.mem_of_getElem? (i := 1708) (by decide +kernel), List.mem_of_getElem? (i := 1709) (by decide +kernel)⟩
theorem lw_p63 : lw_okq (⟨"SyllableMakerModel", "isPeak", "(I)Z"⟩, 88) := ⟨⟨by decide +kernel, by decide +kernel⟩, List.mem_of_getElem? (i := 1226) (by decide +kernel), List.mem_of_getElem? (i := 1720) (by decide +kernel), List.mem_of_getElem? (i := 1721) (by decide +kernel)⟩
def lw_privs_4 : List (MethodName × Nat) := [(⟨"SyllableMakerModel", "glideLine", "()V"⟩, 88), (⟨"SyllableMakerModel", "riseLine", "()V"⟩, 88), (⟨"SyllableMakerModel", "once", "(I)V"⟩, 88), (⟨"SyllableMakerModel", "closeLine", "()V"⟩, 88), (⟨"SyllableMakerModel", "costLine", "()V"⟩, 88), (⟨"SyllableMakerModel", "weighLine", "()V"⟩, 88), (⟨"SyllableMakerModel", "stressLine", "()V"⟩, 88), (⟨"SyllableMakerModel", "helpLine", "()V"⟩, 88), (⟨"SyllableMakerModel", "moveLine", "()V"⟩, 88), (⟨"SyllableMakerModel", "wordLine", "()V"⟩, 88), (⟨"SyllableMakerModel", "must", "(I)V"⟩, 88), (⟨"SyllableMakerModel", "act", "()V"⟩, 88), (⟨"SyllableMakerModel", "isThere", "(I)Z"⟩, 88), (⟨"SyllableMakerModel", "longOf", "(I)I"⟩, 88), (⟨"SyllableMakerModel", "soundAt", "(II)I"⟩, 88), (⟨"SyllableMakerModel", "isPeak", "(I)Z"⟩, 88)]
theorem lw_r4 : ∀ q ∈ lw_privs_4, lw_okq q := List.forall_mem_cons.mpr ⟨lw_p48, List.forall_mem_cons.mpr ⟨lw_p49, List.forall_mem_cons.mpr ⟨lw_p50, List.forall_mem_cons.mpr ⟨lw_p51, List.forall_mem_cons.mpr ⟨lw_p52, List.forall_mem_cons.mpr ⟨lw_p53, List.forall_mem_cons.mpr ⟨lw_p54, List.forall_mem_cons.mpr ⟨lw_p55, List.forall_mem_cons.mpr ⟨lw_p56, List.forall_mem_cons.mpr ⟨lw_p57, List.forall_mem_cons.mpr ⟨lw_p58, List.forall_mem_cons.mpr ⟨lw_p59, List.forall_mem_cons.mpr ⟨lw_p60, List.forall_mem_cons.mpr ⟨lw_p61, List.forall_mem_cons.mpr ⟨lw_p62, List.forall_mem_cons.mpr ⟨lw_p63, fun _ h => absurd h List.not_mem_nil⟩⟩⟩⟩⟩⟩⟩⟩⟩⟩⟩⟩⟩⟩⟩⟩
theorem lw_p64 : lw_okq (⟨"SyllableMakerModel", "openingKind", "([III)I"⟩, 88) := ⟨⟨by decide +kernel, by decide +kernel⟩, List.mem_of_getElem? (i := 1226) (by decide +kernel), List.mem_of_getElem? (i := 1724) (by decide +kernel), List.mem_of_getElem? (i := 1725) (by decide +kernel)⟩
theorem lw_p65 : lw_okq (⟨"SyllableMakerModel", "isTold", "([III)Z"⟩, 88) := ⟨⟨by decide +kernel, by decide +kernel⟩, List.mem_of_getElem? (i := 1226) (by decide +kernel), List.mem_of_getElem? (i := 1728) (by decide +kernel), List.mem_of_getElem? (i := 1729) (by decide +kernel)⟩
theorem lw_p66 : lw_okq (⟨"SyllableMakerModel", "isLearnt", "([III)Z"⟩, 88) := ⟨⟨by decide +kernel, by decide +kernel⟩, List.mem_of_getElem? (i := 1226) (by decide +kernel), List.mem_of_getElem? (i := 1732) (by decide +kernel), List.mem_of_getElem? (i := 1733) (by decide +kernel)⟩
theorem lw_p67 : lw_okq (⟨"SyllableMakerModel", "aheadOf", "(I)I"⟩, 88) := ⟨⟨by decide +kernel, by decide +kernel⟩, List.mem_of_getElem? (i := 1226) (by decide +kernel), List.mem_of_getElem? (i := 1736) (by decide +kernel), List.mem_of_getElem? (i := 1737) (by decide +kernel)⟩
theorem lw_p68 : lw_okq (⟨"SyllableMakerModel", "isRising", "([III)Z"⟩, 88) := ⟨⟨by decide +kernel, by decide +kernel⟩, List.mem_of_getElem? (i := 1226) (by decide +kernel), List.mem_of_getElem? (i := 1740) (by decide +kernel), List.mem_of_getElem? (i := 1741) (by decide +kernel)⟩
theorem lw_p69 : lw_okq (⟨"SyllableMakerModel", "looksAt", "(I)V"⟩, 88) := ⟨⟨by decide +kernel, by decide +kernel⟩, List.mem_of_getElem? (i := 1226) (by decide +kernel), List.mem_of_getElem? (i := 1748) (by decide +kernel), List.mem_of_getElem? (i := 1749) (by decide +kernel)⟩
theorem lw_p70 : lw_okq (⟨"SyllableMakerModel", "laysHearts", "()V"⟩, 88) := ⟨⟨by decide +kernel, by decide +kernel⟩, List.mem_of_getElem? (i := 1226) (by decide +kernel), List.mem_of_getElem? (i := 1752) (by decide +kernel), List.mem_of_getElem? (i := 1753) (by decide +kernel)⟩
theorem lw_p71 : lw_okq (⟨"SyllableMakerModel", "areOne", "(II)Z"⟩, 88) := ⟨⟨by decide +kernel, by decide +kernel⟩, List.mem_of_getElem? (i := 1226) (by decide +kernel), List.mem_of_getElem? (i := 1756) (by decide +kernel), List.mem_of_getElem? (i := 1757) (by decide +kernel)⟩
theorem lw_p72 : lw_okq (⟨"SyllableMakerModel", "ways", "()I"⟩, 88) := ⟨⟨by decide +kernel, by decide +kernel⟩, List.mem_of_getElem? (i := 1226) (by decide +kernel), List.mem_of_getElem? (i := 1760) (by decide +kernel), List.mem_of_getElem? (i := 1761) (by decide +kernel)⟩
theorem lw_p73 : lw_okq (⟨"SyllableMakerModel", "gap", "(I)I"⟩, 88) := ⟨⟨by decide +kernel, by decide +kernel⟩, List.mem_of_getElem? (i := 1226) (by decide +kernel), List.mem_of_getElem? (i := 1764) (by decide +kernel), List.mem_of_getElem? (i := 1765) (by decide +kernel)⟩
theorem lw_p74 : lw_okq (⟨"SyllableMakerModel", "endOf", "(I)I"⟩, 88) := ⟨⟨by decide +kernel, by decide +kernel⟩, List.mem_of_getElem? (i := 1226) (by decide +kernel), List.mem_of_getElem? (i := 1768) (by decide +kernel), List.mem_of_getElem? (i := 1769) (by decide +kernel)⟩
theorem lw_p75 : lw_okq (⟨"SyllableMakerModel", "cutsCheaply", "()I"⟩, 88) := ⟨⟨by decide +kernel, by decide +kernel⟩, List.mem_of_getElem? (i := 1226) (by decide +kernel), List.mem_of_getElem? (i := 1772) (by decide +kernel), List.mem_of_getElem? (i := 1773) (by decide +kernel)⟩
theorem lw_p76 : lw_okq (⟨"SyllableMakerModel", "firstCut", "()V"⟩, 88) := ⟨⟨by decide +kernel, by decide +kernel⟩, List.mem_of_getElem? (i := 1226) (by decide +kernel), List.mem_of_getElem? (i := 1776) (by decide +kernel), List.mem_of_getElem? (i := 1777) (by decide +kernel)⟩
theorem lw_p77 : lw_okq (⟨"SyllableMakerModel", "costAll", "()I"⟩, 88) := ⟨⟨by decide +kernel, by decide +kernel⟩, List.mem_of_getElem? (i := 1226) (by decide +kernel), List.mem_of_getElem? (i := 1780) (by decide +kernel), List.mem_of_getElem? (i := 1781) (by decide +kernel)⟩
theorem lw_p78 : lw_okq (⟨"SyllableMakerModel", "costAt", "(I)I"⟩, 88) := ⟨⟨by decide +kernel, by decide +kernel⟩, List.mem_of_getElem? (i := 1226) (by decide +kernel), List.mem_of_getElem? (i := 1784) (by decide +kernel), List.mem_of_getElem? (i := 1785) (by decide +kernel)⟩
theorem lw_p79 : lw_okq (⟨"SyllableMakerModel", "openingSize", "(I)I"⟩, 88) := ⟨⟨by decide +kernel, by decide +kernel⟩, List.mem_of_getElem? (i := 1226) (by decide +kernel), List.mem_of_getElem? (i := 1788) (by decide +kernel), List.mem_of_getElem? (i := 1789) (by decide +kernel)⟩
def lw_privs_5 : List (MethodName × Nat) := [(⟨"SyllableMakerModel", "openingKind", "([III)I"⟩, 88), (⟨"SyllableMakerModel", "isTold", "([III)Z"⟩, 88), (⟨"SyllableMakerModel", "isLearnt", "([III)Z"⟩, 88), (⟨"SyllableMakerModel", "aheadOf", "(I)I"⟩, 88), (⟨"SyllableMakerModel", "isRising", "([III)Z"⟩, 88), (⟨"SyllableMakerModel", "looksAt", "(I)V"⟩, 88), (⟨"SyllableMakerModel", "laysHearts", "()V"⟩, 88), (⟨"SyllableMakerModel", "areOne", "(II)Z"⟩, 88), (⟨"SyllableMakerModel", "ways", "()I"⟩, 88), (⟨"SyllableMakerModel", "gap", "(I)I"⟩, 88), (⟨"SyllableMakerModel", "endOf", "(I)I"⟩, 88), (⟨"SyllableMakerModel", "cutsCheaply", "()I"⟩, 88), (⟨"SyllableMakerModel", "firstCut", "()V"⟩, 88), (⟨"SyllableMakerModel", "costAll", "()I"⟩, 88), (⟨"SyllableMakerModel", "costAt", "(I)I"⟩, 88), (⟨"SyllableMakerModel", "openingSize", "(I)I"⟩, 88)]
theorem lw_r5 : ∀ q ∈ lw_privs_5, lw_okq q := List.forall_mem_cons.mpr ⟨lw_p64, List.forall_mem_cons.mpr ⟨lw_p65, List.forall_mem_cons.mpr ⟨lw_p66, List.forall_mem_cons.mpr ⟨lw_p67, List.forall_mem_cons.mpr ⟨lw_p68, List.forall_mem_cons.mpr ⟨lw_p69, List.forall_mem_cons.mpr ⟨lw_p70, List.forall_mem_cons.mpr ⟨lw_p71, List.forall_mem_cons.mpr ⟨lw_p72, List.forall_mem_cons.mpr ⟨lw_p73, List.forall_mem_cons.mpr ⟨lw_p74, List.forall_mem_cons.mpr ⟨lw_p75, List.forall_mem_cons.mpr ⟨lw_p76, List.forall_mem_cons.mpr ⟨lw_p77, List.forall_mem_cons.mpr ⟨lw_p78, List.forall_mem_cons.mpr ⟨lw_p79, fun _ h => absurd h List.not_mem_nil⟩⟩⟩⟩⟩⟩⟩⟩⟩⟩⟩⟩⟩⟩⟩⟩
theorem lw_p80 : lw_okq (⟨"SyllableMakerModel", "openingFrom", "(I)I"⟩, 88) := ⟨⟨by decide +kernel, by decide +kernel⟩, List.mem_of_getElem? (i := 1226) (by decide +kernel), List.mem_of_getElem? (i := 1792) (by decide +kernel), List.mem_of_getElem? (i := 1793) (by decide +kernel)⟩
theorem lw_p81 : lw_okq (⟨"SyllableMakerModel", "closingSize", "(I)I"⟩, 88) := ⟨⟨by decide +kernel, by decide +kernel⟩, List.mem_of_getElem? (i := 1226) (by decide +kernel), List.mem_of_getElem? (i := 1796) (by decide +kernel), List.mem_of_getElem? (i := 1797) (by decide +kernel)⟩
theorem lw_p82 : lw_okq (⟨"SyllableMakerModel", "isClosing", "([III)Z"⟩, 88) := ⟨⟨by decide +kernel, by decide +kernel⟩, List.mem_of_getElem? (i := 1226) (by decide +kernel), List.mem_of_getElem? (i := 1800) (by decide +kernel), List.mem_of_getElem? (i := 1801) (by decide +kernel)⟩
theorem lw_p83 : lw_okq (⟨"SyllableMakerModel", "costBy", "(IIIZ)I"⟩, 88) := ⟨⟨by decide +kernel, by decide +kernel⟩, List.mem_of_getElem? (i := 1226) (by decide +kernel), List.mem_of_getElem? (i := 1804) (by decide +kernel), List.mem_of_getElem? (i := 1805) (by decide +kernel)⟩
theorem lw_p84 : lw_okq (⟨"SyllableMakerModel", "costOf", "(I)I"⟩, 88) := ⟨⟨by decide +kernel, by decide +kernel⟩, List.mem_of_getElem? (i := 1226) (by decide +kernel), List.mem_of_getElem? (i := 1808) (by decide +kernel), List.mem_of_getElem? (i := 1809) (by decide +kernel)⟩
theorem lw_p85 : lw_okq (⟨"SyllableMakerModel", "isHeavy", "(I)Z"⟩, 88) := ⟨⟨by decide +kernel, by decide +kernel⟩, List.mem_of_getElem? (i := 1226) (by decide +kernel), List.mem_of_getElem? (i := 1812) (by decide +kernel), List.mem_of_getElem? (i := 1813) (by decide +kernel)⟩
theorem lw_p86 : lw_okq (⟨"SyllableMakerModel", "weightOf", "(I)I"⟩, 88) := ⟨⟨by decide +kernel, by decide +kernel⟩, List.mem_of_getElem? (i := 1226) (by decide +kernel), List.mem_of_getElem? (i := 1816) (by decide +kernel), List.mem_of_getElem? (i := 1817) (by decide +kernel)⟩
theorem lw_p87 : lw_okq (⟨"SyllableMakerModel", "nextCut", "()Z"⟩, 88) := ⟨⟨by decide +kernel, by decide +kernel⟩, List.mem_of_getElem? (i := 1226) (by decide +kernel), List.mem_of_getElem? (i := 1820) (by decide +kernel), List.mem_of_getElem? (i := 1821) (by decide +kernel)⟩
theorem lw_p88 : lw_okq (⟨"SyllableMakerModel", "cutsPlainly", "()V"⟩, 88) := ⟨⟨by decide +kernel, by decide +kernel⟩, List.mem_of_getElem? (i := 1226) (by decide +kernel), List.mem_of_getElem? (i := 1824) (by decide +kernel), List.mem_of_getElem? (i := 1825) (by decide +kernel)⟩
theorem lw_p89 : lw_okq (⟨"SyllableMakerModel", "stress", "()I"⟩, 88) := ⟨⟨by decide +kernel, by decide +kernel⟩, List.mem_of_getElem? (i := 1226) (by decide +kernel), List.mem_of_getElem? (i := 1831) (by decide +kernel), List.mem_of_getElem? (i := 1832) (by decide +kernel)⟩
theorem lw_p90 : lw_okq (⟨"SyllableMakerModel", "cutsUpTo", "(I)I"⟩, 88) := ⟨⟨by decide +kernel, by decide +kernel⟩, List.mem_of_getElem? (i := 1226) (by decide +kernel), List.mem_of_getElem? (i := 1846) (by decide +kernel), List.mem_of_getElem? (i := 1847) (by decide +kernel)⟩
theorem lw_p91 : lw_okq (⟨"SyllableMakerModel", "isSaid", "(I)Z"⟩, 88) := ⟨⟨by decide +kernel, by decide +kernel⟩, List.mem_of_getElem? (i := 1226) (by decide +kernel), List.mem_of_getElem? (i := 1859) (by decide +kernel), List.mem_of_getElem? (i := 1860) (by decide +kernel)⟩
theorem lw_p92 : lw_okq (⟨"SyllableMakerModel", "over", "(I)I"⟩, 88) := ⟨⟨by decide +kernel, by decide +kernel⟩, List.mem_of_getElem? (i := 1226) (by decide +kernel), List.mem_of_getElem? (i := 1863) (by decide +kernel), List.mem_of_getElem? (i := 1864) (by decide +kernel)⟩
theorem lw_p93 : lw_okq (⟨"SyllableMakerModel", "joinedAt", "(IIIII)I"⟩, 88) := ⟨⟨by decide +kernel, by decide +kernel⟩, List.mem_of_getElem? (i := 1226) (by decide +kernel), List.mem_of_getElem? (i := 1872) (by decide +kernel), List.mem_of_getElem? (i := 1873) (by decide +kernel)⟩
theorem lw_p94 : lw_okq (⟨"SyllableMakerModel", "mendedBy", "(I)I"⟩, 88) := ⟨⟨by decide +kernel, by decide +kernel⟩, List.mem_of_getElem? (i := 1226) (by decide +kernel), List.mem_of_getElem? (i := 1888) (by decide +kernel), List.mem_of_getElem? (i := 1889) (by decide +kernel)⟩
theorem lw_p95 : lw_okq (⟨"SyllableMakerModel", "isMendedBy", "(II)Z"⟩, 88) := ⟨⟨by decide +kernel, by decide +kernel⟩, List.mem_of_getElem? (i := 1226) (by decide +kernel), List.mem_of_getElem? (i := 1895) (by decide +kernel), List.mem_of_getElem? (i := 1896) (by decide +kernel)⟩
def lw_privs_6 : List (MethodName × Nat) := [(⟨"SyllableMakerModel", "openingFrom", "(I)I"⟩, 88), (⟨"SyllableMakerModel", "closingSize", "(I)I"⟩, 88), (⟨"SyllableMakerModel", "isClosing", "([III)Z"⟩, 88), (⟨"SyllableMakerModel", "costBy", "(IIIZ)I"⟩, 88), (⟨"SyllableMakerModel", "costOf", "(I)I"⟩, 88), (⟨"SyllableMakerModel", "isHeavy", "(I)Z"⟩, 88), (⟨"SyllableMakerModel", "weightOf", "(I)I"⟩, 88), (⟨"SyllableMakerModel", "nextCut", "()Z"⟩, 88), (⟨"SyllableMakerModel", "cutsPlainly", "()V"⟩, 88), (⟨"SyllableMakerModel", "stress", "()I"⟩, 88), (⟨"SyllableMakerModel", "cutsUpTo", "(I)I"⟩, 88), (⟨"SyllableMakerModel", "isSaid", "(I)Z"⟩, 88), (⟨"SyllableMakerModel", "over", "(I)I"⟩, 88), (⟨"SyllableMakerModel", "joinedAt", "(IIIII)I"⟩, 88), (⟨"SyllableMakerModel", "mendedBy", "(I)I"⟩, 88), (⟨"SyllableMakerModel", "isMendedBy", "(II)Z"⟩, 88)]
theorem lw_r6 : ∀ q ∈ lw_privs_6, lw_okq q := List.forall_mem_cons.mpr ⟨lw_p80, List.forall_mem_cons.mpr ⟨lw_p81, List.forall_mem_cons.mpr ⟨lw_p82, List.forall_mem_cons.mpr ⟨lw_p83, List.forall_mem_cons.mpr ⟨lw_p84, List.forall_mem_cons.mpr ⟨lw_p85, List.forall_mem_cons.mpr ⟨lw_p86, List.forall_mem_cons.mpr ⟨lw_p87, List.forall_mem_cons.mpr ⟨lw_p88, List.forall_mem_cons.mpr ⟨lw_p89, List.forall_mem_cons.mpr ⟨lw_p90, List.forall_mem_cons.mpr ⟨lw_p91, List.forall_mem_cons.mpr ⟨lw_p92, List.forall_mem_cons.mpr ⟨lw_p93, List.forall_mem_cons.mpr ⟨lw_p94, List.forall_mem_cons.mpr ⟨lw_p95, fun _ h => absurd h List.not_mem_nil⟩⟩⟩⟩⟩⟩⟩⟩⟩⟩⟩⟩⟩⟩⟩⟩
theorem lw_p96 : lw_okq (⟨"SyllableMakerModel", "farOf", "(II)I"⟩, 88) := ⟨⟨by decide +kernel, by decide +kernel⟩, List.mem_of_getElem? (i := 1226) (by decide +kernel), List.mem_of_getElem? (i := 1903) (by decide +kernel), List.mem_of_getElem? (i := 1904) (by decide +kernel)⟩
theorem lw_p97 : lw_okq (⟨"SyllableMakerModel", "unlike", "(II)I"⟩, 88) := ⟨⟨by decide +kernel, by decide +kernel⟩, List.mem_of_getElem? (i := 1226) (by decide +kernel), List.mem_of_getElem? (i := 1907) (by decide +kernel), List.mem_of_getElem? (i := 1908) (by decide +kernel)⟩
theorem lw_p98 : lw_okq (⟨"SyllableMakerModel", "isPart", "(III)Z"⟩, 88) := ⟨⟨by decide +kernel, by decide +kernel⟩, List.mem_of_getElem? (i := 1226) (by decide +kernel), List.mem_of_getElem? (i := 1919) (by decide +kernel), List.mem_of_getElem? (i := 1920) (by decide +kernel)⟩
theorem lw_p99 : lw_okq (⟨"SyllableMakerModel", "areAlike", "(II)Z"⟩, 88) := ⟨⟨by decide +kernel, by decide +kernel⟩, List.mem_of_getElem? (i := 1226) (by decide +kernel), List.mem_of_getElem? (i := 1923) (by decide +kernel), List.mem_of_getElem? (i := 1924) (by decide +kernel)⟩
theorem lw_p100 : lw_okq (⟨"SyllableMakerModel", "syllablesSaid", "()I"⟩, 88) := ⟨⟨by decide +kernel, by decide +kernel⟩, List.mem_of_getElem? (i := 1226) (by decide +kernel), List.mem_of_getElem? (i := 1932) (by decide +kernel), List.mem_of_getElem? (i := 1933) (by decide +kernel)⟩
theorem lw_p101 : lw_okq (⟨"SyllableMakerModel", "misfitsBy", "(II)I"⟩, 88) := ⟨⟨by decide +kernel, by decide +kernel⟩, List.mem_of_getElem? (i := 1226) (by decide +kernel), List.mem_of_getElem? (i := 1936) (by decide +kernel), List.mem_of_getElem? (i := 1937) (by decide +kernel)⟩
theorem lw_p102 : lw_okq (⟨"SyllableMakerModel", "openingsOf", "(I)J"⟩, 88) := ⟨⟨by decide +kernel, by decide +kernel⟩, List.mem_of_getElem? (i := 1226) (by decide +kernel), List.mem_of_getElem? (i := 1948) (by decide +kernel), List.mem_of_getElem? (i := 1949) (by decide +kernel)⟩
theorem lw_p103 : lw_okq (⟨"SyllableMakerModel", "slopes", "(IZ)J"⟩, 88) := ⟨⟨by decide +kernel, by decide +kernel⟩, List.mem_of_getElem? (i := 1226) (by decide +kernel), List.mem_of_getElem? (i := 1952) (by decide +kernel), List.mem_of_getElem? (i := 1953) (by decide +kernel)⟩
theorem lw_p104 : lw_okq (⟨"SyllableMakerModel", "isOpeningLearnt", "(I)Z"⟩, 88) := ⟨⟨by decide +kernel, by decide +kernel⟩, List.mem_of_getElem? (i := 1226) (by decide +kernel), List.mem_of_getElem? (i := 1956) (by decide +kernel), List.mem_of_getElem? (i := 1957) (by decide +kernel)⟩
theorem lw_p105 : lw_okq (⟨"SyllableMakerModel", "tallies", "()V"⟩, 88) := ⟨⟨by decide +kernel, by decide +kernel⟩, List.mem_of_getElem? (i := 1226) (by decide +kernel), List.mem_of_getElem? (i := 1964) (by decide +kernel), List.mem_of_getElem? (i := 1965) (by decide +kernel)⟩
theorem lw_p106 : lw_okq (⟨"SyllableMakerModel", "counts", "(IIII)V"⟩, 88) := ⟨⟨by decide +kernel, by decide +kernel⟩, List.mem_of_getElem? (i := 1226) (by decide +kernel), List.mem_of_getElem? (i := 1968) (by decide +kernel), List.mem_of_getElem? (i := 1969) (by decide +kernel)⟩
theorem lw_p107 : lw_okq (⟨"SyllableMakerModel", "isRow", "(IIII)Z"⟩, 88) := ⟨⟨by decide +kernel, by decide +kernel⟩, List.mem_of_getElem? (i := 1226) (by decide +kernel), List.mem_of_getElem? (i := 1972) (by decide +kernel), List.mem_of_getElem? (i := 1973) (by decide +kernel)⟩
theorem lw_p108 : lw_okq (⟨"SyllableMakerModel", "tallied", "()I"⟩, 88) := ⟨⟨by decide +kernel, by decide +kernel⟩, List.mem_of_getElem? (i := 1226) (by decide +kernel), List.mem_of_getElem? (i := 1980) (by decide +kernel), List.mem_of_getElem? (i := 1981) (by decide +kernel)⟩
theorem lw_p109 : lw_okq (⟨"SyllableMakerModel", "makes", "(II)V"⟩, 88) := ⟨⟨by decide +kernel, by decide +kernel⟩, List.mem_of_getElem? (i := 1226) (by decide +kernel), List.mem_of_getElem? (i := 1984) (by decide +kernel), List.mem_of_getElem? (i := 1985) (by decide +kernel)⟩
def lw_privs_7 : List (MethodName × Nat) := [(⟨"SyllableMakerModel", "farOf", "(II)I"⟩, 88), (⟨"SyllableMakerModel", "unlike", "(II)I"⟩, 88), (⟨"SyllableMakerModel", "isPart", "(III)Z"⟩, 88), (⟨"SyllableMakerModel", "areAlike", "(II)Z"⟩, 88), (⟨"SyllableMakerModel", "syllablesSaid", "()I"⟩, 88), (⟨"SyllableMakerModel", "misfitsBy", "(II)I"⟩, 88), (⟨"SyllableMakerModel", "openingsOf", "(I)J"⟩, 88), (⟨"SyllableMakerModel", "slopes", "(IZ)J"⟩, 88), (⟨"SyllableMakerModel", "isOpeningLearnt", "(I)Z"⟩, 88), (⟨"SyllableMakerModel", "tallies", "()V"⟩, 88), (⟨"SyllableMakerModel", "counts", "(IIII)V"⟩, 88), (⟨"SyllableMakerModel", "isRow", "(IIII)Z"⟩, 88), (⟨"SyllableMakerModel", "tallied", "()I"⟩, 88), (⟨"SyllableMakerModel", "makes", "(II)V"⟩, 88)]
theorem lw_r7 : ∀ q ∈ lw_privs_7, lw_okq q := List.forall_mem_cons.mpr ⟨lw_p96, List.forall_mem_cons.mpr ⟨lw_p97, List.forall_mem_cons.mpr ⟨lw_p98, List.forall_mem_cons.mpr ⟨lw_p99, List.forall_mem_cons.mpr ⟨lw_p100, List.forall_mem_cons.mpr ⟨lw_p101, List.forall_mem_cons.mpr ⟨lw_p102, List.forall_mem_cons.mpr ⟨lw_p103, List.forall_mem_cons.mpr ⟨lw_p104, List.forall_mem_cons.mpr ⟨lw_p105, List.forall_mem_cons.mpr ⟨lw_p106, List.forall_mem_cons.mpr ⟨lw_p107, List.forall_mem_cons.mpr ⟨lw_p108, List.forall_mem_cons.mpr ⟨lw_p109, fun _ h => absurd h List.not_mem_nil⟩⟩⟩⟩⟩⟩⟩⟩⟩⟩⟩⟩⟩⟩
def lw_privs : List (MethodName × Nat) := lw_privs_1 ++ (lw_privs_2 ++ (lw_privs_3 ++ (lw_privs_4 ++ (lw_privs_5 ++ (lw_privs_6 ++ (lw_privs_7))))))
def lw_tbl : List Cond := k2_sels lw_privs ++ tables_1
theorem lw_privs_ok : ∀ q ∈ lw_privs, lw_okq q := by
  show ∀ q ∈ lw_privs_1 ++ (lw_privs_2 ++ (lw_privs_3 ++ (lw_privs_4 ++ (lw_privs_5 ++ (lw_privs_6 ++ (lw_privs_7)))))), lw_okq q
  exact List.forall_mem_append.mpr ⟨lw_r1, List.forall_mem_append.mpr ⟨lw_r2, List.forall_mem_append.mpr ⟨lw_r3, List.forall_mem_append.mpr ⟨lw_r4, List.forall_mem_append.mpr ⟨lw_r5, List.forall_mem_append.mpr ⟨lw_r6, lw_r7⟩⟩⟩⟩⟩⟩
/-- the tables say which array is over arrays of that type -/
def va_AOA (ty : FieldType) (U : State) : Prop := (Cond.arrayOver (.array ty)).before #[] U = true
theorem va_AOA.of {ty : FieldType} {A : Array Value} {U : State} (h : (Cond.arrayOver (.array ty)).before A U = true) : va_AOA ty U := h
theorem va_AOA.use {ty : FieldType} {A : Array Value} {U : State} (h : va_AOA ty U) : (Cond.arrayOver (.array ty)).before A U = true := h
/-! ===== BEGIN new T[n][m]: the outer array a place, the inner ones among the pooled ===== -/
/-- f, but v at every address of l -/
def vr_up {α : Type} (f : Nat → α) (l : List Nat) (v : α) : Nat → α := fun a => if a ∈ l then v else f a
theorem vr_up_in {α : Type} {f : Nat → α} {l : List Nat} {v : α} {a : Nat} (h : a ∈ l) : vr_up f l v a = v := if_pos h
theorem vr_up_ne {α : Type} {f : Nat → α} {l : List Nat} {v : α} {a : Nat} (h : a ∉ l) : vr_up f l v a = f a := if_neg h
theorem vr_rows {L l : List Nat} {f : Nat → va_E} {e : va_E} (h : ∀ a, a ∈ l → a ∉ L) : va_pl L f ++ l.map (fun a => (a, e)) = va_pl (L ++ l) (vr_up f l e) := by
  unfold va_pl
  rw [List.map_append]
  congr 1
  · apply List.map_congr_left
    intro a ha
    rw [vr_up_ne (fun q => h a q ha)]
  · apply List.map_congr_left
    intro a ha
    rw [vr_up_in ha]
theorem vr_lay {X rows : va_W} {x : Nat × va_E} {pl : va_W} {D : va_G} {cl : List vw_C} {H : Heap} (hP : va_P D cl (((X ++ pl) ++ [x]) ++ rows) H) : va_P D cl ((X ++ [x]) ++ (pl ++ rows)) H := by
  rw [List.append_assoc (X ++ pl)] at hP
  have h := va_P.swap hP
  rw [← List.append_assoc X] at h
  have h2 := va_P.swap h
  rw [List.append_assoc (X ++ [x])] at h2
  exact h2
theorem vr_layD {X rows : va_W} {x : Nat × va_E} {pl : va_W} {A : Nat → Prop} (hD : va_D A (((X ++ pl) ++ [x]) ++ rows)) : va_D A ((X ++ [x]) ++ (pl ++ rows)) := by
  rw [List.append_assoc (X ++ pl)] at hD
  have h := va_D.swap hD
  rw [← List.append_assoc X] at h
  have h2 := va_D.swap h
  rw [List.append_assoc (X ++ [x])] at h2
  exact h2
theorem vr_outer (c : ClassId) (N h0 : Nat) : ∀ i : Nat, Jvm.Free.Multi.outerC c N h0 i = arrV c N (fun j => va_rf (if j < i then some (h0 + 1 + j) else none))
  | 0 => by
    show ({ cls := c, slots := Array.replicate N .null, vm := .none } : Cell) = _
    rw [arrV_new]
    refine congrArg (arrV c N) (funext fun j => ?_)
    simp [va_rf]
  | i + 1 => by
    show (Jvm.Free.Multi.outerC c N h0 i).setSlot i (.ref (h0 + 1 + i)) = _
    rw [vr_outer c N h0 i, arrV_store]
    refine congrArg (arrV c N) (funext fun j => ?_)
    by_cases e : j = i
    · subst e
      simp [updV, va_rf]
    · by_cases h : j < i
      · simp [updV, e, h, Nat.lt_succ_of_lt h]
      · simp [updV, e, h, show ¬ j < i + 1 by omega]
section VGM
variable {p : Program} {l : Launch} {e : Env} {R : Room} {s : State} {m : MethodId} {args : Array Value} {below : List Frame} {meth : Method} {c : Code} {H : Heap} {locs : List Loc} {cells slots : Nat} {Q : State → Prop}
variable {cc : ByteArray} {pc : Nat} {ls : Array Slot} {rest : List Value} {D : va_G} {cl : List vw_C} {A : Nat → Prop} {a : Nat} {tys : List (ClassId × FieldType)} {ws : va_W} {H0 : Heap}
theorem va_mna {X : va_W} {L : List Nat} {f : Nat → va_E} {cc : ByteArray} (hexec : p.tables.exec = Jvm.exec) (hb : c.code = cc) {own : String} {index : Nat} {ty : FieldType} {cy : ClassId} (hown : s.vm.findClass own = some m.cls) (hclink : (Cond.classLink own index ("[" ++ (FieldType.array ty).toString)).before args s = true) (hover : va_AOA ty s) (harr : (Cond.arrayClass ty).before args s = true) (hcy : s.vm.findClass (FieldType.array ty).toString = some cy)
    (hK : va_K D cl tys s) (hP : va_P D cl (X ++ va_pl L f) H) (hD : va_D A (X ++ va_pl L f)) (hS : va_S A H0 H locs) (hA : ∀ q, H0.size ≤ q → A q) {n k : Int32} {N' K' : Nat} {z : vp_A} (hn : ¬ n < 0) (hk : ¬ k < 0) (hN : n.toNatClampNeg = N') (hM : k.toNatClampNeg = K')
    (hb1 : N' * 4 ≤ 536870912) (hb2 : K' * componentBytes ty ≤ 536870912) (hb3 : K' ≤ 536870912) (hdf : fits ty (defaultValue ty) = true) (hdd : (defaultValue ty).isDefault = true) (hcells : cells + (1 + N') ≤ R.cells) (hslots : slots + (N' + N' * K') ≤ R.slots) (hz : ∀ c : ClassId, Jvm.Free.Multi.innerC c K' (defaultValue ty) = vp_cell c z) (hdg : decode cc pc = .ok (.multianewarray index 2, 4))
    (kk : ∀ (q : Nat) (r : Nat → Nat) (cA : ClassId) (H1 : Heap), (∀ i j : Nat, i < N' → j < N' → r i = r j → i = j) → (∀ i : Nat, i < N' → r i ∉ L) → va_K D cl (tys ++ [(cA, .array ty)]) s →
      va_P D cl ((X ++ [(q, .inl (cA, N', .inr (.inr (.inr (.inr (fun i => if i < N' then some (r i) else none))))))]) ++ va_pl (L ++ (List.range N').map r) (vr_up f ((List.range N').map r) (.inl (cy, z)))) H1 → va_D A ((X ++ [(q, .inl (cA, N', .inr (.inr (.inr (.inr (fun i => if i < N' then some (r i) else none))))))]) ++ va_pl (L ++ (List.range N').map r) (vr_up f ((List.range N').map r) (.inl (cy, z)))) → va_S A H0 H1 locs →
      W p l e R s m args below meth c H1 locs (cells + 1 + N') (slots + N' + N' * K') Q (F0 m (pc + 4) ls (.ref q :: rest))) : W p l e R s m args below meth c H locs cells slots Q (F0 m pc ls (.int k :: .int n :: rest)) := by
  subst hN
  subst hM
  intro T hT Xs
  obtain ⟨vm₁, cA, comp, -, fA, fC, hO, -, X', step⟩ := Xs.multianewarray2F hexec hown hclink (va_AOA.use hover) harr (g := F0 m pc ls (.int k :: .int n :: rest)) rfl (by rw [hb]; exact hdg) rfl hn hk hb1 hb2 hb3 hdf hdd hcells hslots
  have ec : some cy = some comp := hcy.symm.trans fC
  cases ec
  generalize hF : Jvm.Free.Multi.fill (T.setVm vm₁) cA cy n.toNatClampNeg k.toNatClampNeg (defaultValue ty) n.toNatClampNeg = F at X' step
  have hTh : (T.setVm vm₁).heap = H := hT
  obtain ⟨f1, f2, -, -⟩ := Jvm.Free.Multi.fill_facts (T.setVm vm₁) cA cy n.toNatClampNeg k.toNatClampNeg (defaultValue ty) n.toNatClampNeg
  rw [hF, hTh] at f1 f2
  have hold : ∀ x : Nat, x < H.size → F.heap[x]? = H[x]? := fun x hx => by
    have := Jvm.Free.Multi.fill_old (T.setVm vm₁) cA cy n.toNatClampNeg k.toNatClampNeg (defaultValue ty) (a := x) (by rw [hTh]; exact hx) n.toNatClampNeg
    rw [hF, hTh] at this
    exact this
  have hrow : ∀ j : Nat, j < n.toNatClampNeg → F.heap[H.size + 1 + j]? = some (vp_cell cy z) := fun j hj => by
    have := Jvm.Free.Multi.fill_inner (T.setVm vm₁) cA cy n.toNatClampNeg k.toNatClampNeg (defaultValue ty) n.toNatClampNeg j hj
    rw [hF, hTh, hz] at this
    exact this
  have hout : Jvm.Free.Multi.outerC cA n.toNatClampNeg H.size n.toNatClampNeg = vp_cell cA (n.toNatClampNeg, .inr (.inr (.inr (.inr (fun i => if i < n.toNatClampNeg then some (H.size + 1 + i) else none))))) := by
    rw [vp_cell_q]
    exact vr_outer cA n.toNatClampNeg H.size n.toNatClampNeg
  rw [hout] at f2
  have hlt : ∀ a, a ∈ L → a < H.size := fun a ha => by
    obtain ⟨k9, hk9⟩ := va_pl_get (X := X) (f := f) ha
    exact (hP k9 _ hk9).lt
  have hnl : ∀ i : Nat, i < n.toNatClampNeg → H.size + 1 + i ∉ L := fun i _ h => by
    have := hlt _ h
    omega
  have hnm : ∀ a, a ∈ (List.range n.toNatClampNeg).map (fun i => H.size + 1 + i) → a ∉ L := fun a ha h => by
    obtain ⟨i, -, rfl⟩ := List.mem_map.mp ha
    have := hlt _ h
    omega
  have hP0 : va_P D cl (X ++ va_pl L f) F.heap := hP.kept (fun k9 x hx => hold x.1 ((hP k9 x hx).lt))
  have hP1 : va_P D cl ((X ++ va_pl L f) ++ [(H.size, .inl (cA, n.toNatClampNeg, .inr (.inr (.inr (.inr (fun i => if i < n.toNatClampNeg then some (H.size + 1 + i) else none))))))]) F.heap := hP0.app (fun k9 x hx => by
    have h0 : k9 < 1 := (List.getElem?_eq_some_iff.mp hx).1
    rw [show k9 = 0 by omega] at hx
    cases hx
    exact f2)
  have hP2 : va_P D cl (((X ++ va_pl L f) ++ [(H.size, .inl (cA, n.toNatClampNeg, .inr (.inr (.inr (.inr (fun i => if i < n.toNatClampNeg then some (H.size + 1 + i) else none))))))]) ++ ((List.range n.toNatClampNeg).map (fun i => H.size + 1 + i)).map (fun a => (a, .inl (cy, z)))) F.heap := hP1.app (fun k9 x hx => by
    obtain ⟨a, ha, rfl⟩ := List.mem_map.mp (List.mem_of_getElem? hx)
    obtain ⟨i, hi, rfl⟩ := List.mem_map.mp ha
    exact hrow i (List.mem_range.mp hi))
  have hD2 : va_D A (((X ++ va_pl L f) ++ [(H.size, .inl (cA, n.toNatClampNeg, .inr (.inr (.inr (.inr (fun i => if i < n.toNatClampNeg then some (H.size + 1 + i) else none))))))]) ++ ((List.range n.toNatClampNeg).map (fun i => H.size + 1 + i)).map (fun a => (a, .inl (cy, z)))) := by
    have hD1 := hD.push (e := .inl (cA, n.toNatClampNeg, .inr (.inr (.inr (.inr (fun i => if i < n.toNatClampNeg then some (H.size + 1 + i) else none)))))) hP rfl (hA _ hS.1)
    generalize hW1 : (X ++ va_pl L f) ++ [(H.size, .inl (cA, n.toNatClampNeg, .inr (.inr (.inr (.inr (fun i => if i < n.toNatClampNeg then some (H.size + 1 + i) else none))))))] = W1 at hD1 hP1 ⊢
    have hle : ∀ (k9 : Nat) (x : Nat × va_E), W1[k9]? = some x → x.1 ≤ H.size := fun k9 x hx => by
      rw [← hW1] at hx
      by_cases hl : k9 < (X ++ va_pl L f).length
      · rw [List.getElem?_append_left hl] at hx
        exact Nat.le_of_lt ((hP k9 x hx).lt)
      · rw [List.getElem?_append_right (by omega)] at hx
        have h0 : k9 - (X ++ va_pl L f).length < 1 := (List.getElem?_eq_some_iff.mp hx).1
        rw [show k9 - (X ++ va_pl L f).length = 0 by omega] at hx
        cases hx
        exact Nat.le_refl _
    have hr : ∀ (k9 : Nat) (x : Nat × va_E), (((List.range n.toNatClampNeg).map (fun i => H.size + 1 + i)).map (fun a => ((a, .inl (cy, z)) : Nat × va_E)))[k9]? = some x → x.1 = H.size + 1 + k9 := fun k9 x hx => by
      rw [List.getElem?_map, List.getElem?_map] at hx
      by_cases h9 : k9 < n.toNatClampNeg
      · rw [List.getElem?_range h9] at hx
        cases hx
        rfl
      · have hn0 : (List.range n.toNatClampNeg)[k9]? = none := List.getElem?_eq_none (by rw [List.length_range]; omega)
        rw [hn0] at hx
        cases hx
    refine ⟨fun i j x y hi hj hxy => ?_, fun k9 x hx => ?_⟩
    · by_cases h1 : i < W1.length <;> by_cases h2 : j < W1.length
      · rw [List.getElem?_append_left h1] at hi
        rw [List.getElem?_append_left h2] at hj
        exact hD1.1 i j x y hi hj hxy
      · rw [List.getElem?_append_left h1] at hi
        rw [List.getElem?_append_right (by omega)] at hj
        have := hle _ _ hi
        have := hr _ _ hj
        omega
      · rw [List.getElem?_append_right (by omega)] at hi
        rw [List.getElem?_append_left h2] at hj
        have := hle _ _ hj
        have := hr _ _ hi
        omega
      · rw [List.getElem?_append_right (by omega)] at hi hj
        have := hr _ _ hi
        have := hr _ _ hj
        omega
    · by_cases h1 : k9 < W1.length
      · rw [List.getElem?_append_left h1] at hx
        exact hD1.2 k9 x hx
      · rw [List.getElem?_append_right (by omega)] at hx
        have := hr _ _ hx
        exact hA _ (by have := hS.1; omega)
  have hAr : ArrOfT s cA (.array ty) := fun N9 z9 => by
    obtain ⟨-, k9, hk9, cm9, hkk9⟩ := (hO 0 0 0).1
    exact ⟨(fun q hq => by cases hq), k9, hk9, cm9, hkk9⟩
  have hK2 : va_K D cl (tys ++ [(cA, .array ty)]) s := ⟨hK.1, fun k9 x hx => by
    by_cases hl : k9 < tys.length
    · rw [List.getElem?_append_left hl] at hx
      exact hK.2 k9 x hx
    · rw [List.getElem?_append_right (by omega)] at hx
      have h0 : k9 - tys.length < 1 := (List.getElem?_eq_some_iff.mp hx).1
      rw [show k9 - tys.length = 0 by omega] at hx
      cases hx
      exact ⟨hAr, fA⟩⟩
  obtain ⟨t, a1, b1⟩ := kk H.size (fun i => H.size + 1 + i) cA F.heap (fun i j _ _ h => by have h9 : H.size + 1 + i = H.size + 1 + j := h; omega) hnl hK2 (by rw [← vr_rows hnm]; exact vr_lay hP2) (by rw [← vr_rows hnm]; exact vr_layD hD2) ⟨by rw [f1]; have := hS.1; omega, fun x h1 h2 => (hold x (Nat.lt_of_lt_of_le h1 hS.1)).trans (hS.2.1 x h1 h2), hS.2.2⟩ F rfl X'
  refine ⟨t, step t ?_, b1⟩
  have e : T.heap.size = H.size := by rw [hT]
  rw [e]
  exact a1
end VGM
/-! ===== END ===== -/

/-! ===== BEGIN printed: names, fields, word lists, decode rows ===== -/
def RX0 : String := "SyllableMaker$Acts"
def TX0 : u_T := fun k => match k with
  | 0 => ("SyllableMaker$Acts", "kinds", "[I", true)
  | 1 => ("SyllableMaker$Acts", "places", "[I", true)
  | 2 => ("SyllableMaker$Acts", "costs", "[I", true)
  | 3 => ("SyllableMaker$Acts", "rows", "[LSyllableMaker$Row;", true)
  | _ => ("SyllableMaker$Acts", "count", "I", false)
def tyX0 : Nat → FieldType := fun k => match k with
  | 0 => .array .int
  | 1 => .array .int
  | 2 => .array .int
  | 3 => .array (.object "SyllableMaker$Row")
  | _ => .int
abbrev wsX00 : List Cond := u_ws RX0 TX0 5
theorem nmX0 : ∀ a, a < 5 → ∀ b, b < 5 → a ≠ b → (TX0 a).2.1 ≠ (TX0 b).2.1 := by decide +kernel
theorem tyX0_ok : ∀ k, k < 5 → parseFieldDescriptor (TX0 k).2.2.1 = some (tyX0 k) := by decide +kernel
abbrev cX0_init : ByteArray := prog_2_method_1_code
def yX0_init : MethodName := ⟨RX0, "<init>", "()V"⟩
abbrev cX0_clear : ByteArray := prog_2_method_2_code
def yX0_clear : MethodName := ⟨RX0, "clear", "()V"⟩
abbrev cX0_note : ByteArray := prog_2_method_3_code
def yX0_note : MethodName := ⟨RX0, "note", "(IIILSyllableMaker$Row;)V"⟩
abbrev cX0_dropOldest : ByteArray := prog_2_method_4_code
def yX0_dropOldest : MethodName := ⟨RX0, "dropOldest", "()V"⟩
abbrev cX0_takeLatest : ByteArray := prog_2_method_5_code
def yX0_takeLatest : MethodName := ⟨RX0, "takeLatest", "()Z"⟩
abbrev cX0_hasLatest : ByteArray := prog_2_method_6_code
def yX0_hasLatest : MethodName := ⟨RX0, "hasLatest", "()Z"⟩
abbrev cX0_latestKind : ByteArray := prog_2_method_7_code
def yX0_latestKind : MethodName := ⟨RX0, "latestKind", "()I"⟩
abbrev cX0_latestPlace : ByteArray := prog_2_method_8_code
def yX0_latestPlace : MethodName := ⟨RX0, "latestPlace", "()I"⟩
abbrev cX0_latestCost : ByteArray := prog_2_method_9_code
def yX0_latestCost : MethodName := ⟨RX0, "latestCost", "()I"⟩
abbrev cX0_latestRow : ByteArray := prog_2_method_10_code
def yX0_latestRow : MethodName := ⟨RX0, "latestRow", "()LSyllableMaker$Row;"⟩
def RX1 : String := "SyllableMaker$Cut"
def TX1 : u_T := fun k => match k with
  | 0 => ("SyllableMaker$Cut", "heartAt", "[I", true)
  | 1 => ("SyllableMaker$Cut", "heartSizes", "[I", true)
  | 2 => ("SyllableMaker$Cut", "closings", "[I", true)
  | 3 => ("SyllableMaker$Cut", "best", "[I", true)
  | 4 => ("SyllableMaker$Cut", "law", "LSyllableMaker$Law;", false)
  | 5 => ("SyllableMaker$Cut", "row", "LSyllableMaker$Row;", false)
  | 6 => ("SyllableMaker$Cut", "ahead", "LSyllableMaker$Row;", false)
  | 7 => ("SyllableMaker$Cut", "came", "I", false)
  | 8 => ("SyllableMaker$Cut", "went", "I", false)
  | _ => ("SyllableMaker$Cut", "count", "I", false)
def tyX1 : Nat → FieldType := fun k => match k with
  | 0 => .array .int
  | 1 => .array .int
  | 2 => .array .int
  | 3 => .array .int
  | 4 => .object "SyllableMaker$Law"
  | 5 => .object "SyllableMaker$Row"
  | 6 => .object "SyllableMaker$Row"
  | 7 => .int
  | 8 => .int
  | _ => .int
abbrev wsX10 : List Cond := u_ws RX1 TX1 10
theorem nmX1 : ∀ a, a < 10 → ∀ b, b < 10 → a ≠ b → (TX1 a).2.1 ≠ (TX1 b).2.1 := by decide +kernel
theorem tyX1_ok : ∀ k, k < 10 → parseFieldDescriptor (TX1 k).2.2.1 = some (tyX1 k) := by decide +kernel
abbrev cX1_init : ByteArray := prog_3_method_1_code
def yX1_init : MethodName := ⟨RX1, "<init>", "()V"⟩
abbrev cX1_start : ByteArray := prog_3_method_2_code
def yX1_start : MethodName := ⟨RX1, "start", "(LSyllableMaker$Law;LSyllableMaker$Row;)V"⟩
abbrev cX1_clearClosings : ByteArray := prog_3_method_3_code
def yX1_clearClosings : MethodName := ⟨RX1, "clearClosings", "()V"⟩
abbrev cX1_has : ByteArray := prog_3_method_4_code
def yX1_has : MethodName := ⟨RX1, "has", "(I)Z"⟩
abbrev cX1_heartEnd : ByteArray := prog_3_method_5_code
def yX1_heartEnd : MethodName := ⟨RX1, "heartEnd", "(I)I"⟩
abbrev cX1_behind : ByteArray := prog_3_method_6_code
def yX1_behind : MethodName := ⟨RX1, "behind", "(I)I"⟩
abbrev cX1_ways : ByteArray := prog_3_method_7_code
def yX1_ways : MethodName := ⟨RX1, "ways", "()I"⟩
abbrev cX1_cutPlain : ByteArray := prog_3_method_8_code
def yX1_cutPlain : MethodName := ⟨RX1, "cutPlain", "()V"⟩
abbrev cX1_cutCheapest : ByteArray := prog_3_method_9_code
def yX1_cutCheapest : MethodName := ⟨RX1, "cutCheapest", "()I"⟩
abbrev cX1_cutNext : ByteArray := prog_3_method_10_code
def yX1_cutNext : MethodName := ⟨RX1, "cutNext", "()Z"⟩
abbrev cX1_countUpTo : ByteArray := prog_3_method_11_code
def yX1_countUpTo : MethodName := ⟨RX1, "countUpTo", "(I)I"⟩
abbrev cX1_cutAsTold : ByteArray := prog_3_method_12_code
def yX1_cutAsTold : MethodName := ⟨RX1, "cutAsTold", "(J)Z"⟩
abbrev cX1_join : ByteArray := prog_3_method_13_code
def yX1_join : MethodName := ⟨RX1, "join", "(LSyllableMaker$Row;II)V"⟩
abbrev cX1_isChanged : ByteArray := prog_3_method_14_code
def yX1_isChanged : MethodName := ⟨RX1, "isChanged", "(I)Z"⟩
abbrev cX1_begin : ByteArray := prog_3_method_15_code
def yX1_begin : MethodName := ⟨RX1, "begin", "(I)I"⟩
abbrev cX1_openingSize : ByteArray := prog_3_method_16_code
def yX1_openingSize : MethodName := ⟨RX1, "openingSize", "(I)I"⟩
abbrev cX1_heartSize : ByteArray := prog_3_method_17_code
def yX1_heartSize : MethodName := ⟨RX1, "heartSize", "(I)I"⟩
abbrev cX1_closingSize : ByteArray := prog_3_method_18_code
def yX1_closingSize : MethodName := ⟨RX1, "closingSize", "(I)I"⟩
abbrev cX1_openingKey : ByteArray := prog_3_method_19_code
def yX1_openingKey : MethodName := ⟨RX1, "openingKey", "(I)J"⟩
abbrev cX1_heartKey : ByteArray := prog_3_method_20_code
def yX1_heartKey : MethodName := ⟨RX1, "heartKey", "(I)J"⟩
abbrev cX1_closingKey : ByteArray := prog_3_method_21_code
def yX1_closingKey : MethodName := ⟨RX1, "closingKey", "(I)J"⟩
abbrev cX1_endKey : ByteArray := prog_3_method_22_code
def yX1_endKey : MethodName := ⟨RX1, "endKey", "(I)J"⟩
abbrev cX1_weight : ByteArray := prog_3_method_23_code
def yX1_weight : MethodName := ⟨RX1, "weight", "(I)I"⟩
abbrev cX1_isHeavy : ByteArray := prog_3_method_24_code
def yX1_isHeavy : MethodName := ⟨RX1, "isHeavy", "(I)Z"⟩
abbrev cX1_countHeavy : ByteArray := prog_3_method_25_code
def yX1_countHeavy : MethodName := ⟨RX1, "countHeavy", "()I"⟩
abbrev cX1_costOf : ByteArray := prog_3_method_26_code
def yX1_costOf : MethodName := ⟨RX1, "costOf", "(I)I"⟩
abbrev cX1_total : ByteArray := prog_3_method_27_code
def yX1_total : MethodName := ⟨RX1, "total", "()I"⟩
abbrev cX1_firstNotLegal : ByteArray := prog_3_method_28_code
def yX1_firstNotLegal : MethodName := ⟨RX1, "firstNotLegal", "()I"⟩
abbrev cX1_stressed : ByteArray := prog_3_method_29_code
def yX1_stressed : MethodName := ⟨RX1, "stressed", "()I"⟩
def RX2 : String := "SyllableMaker$Law"
def TX2 : u_T := fun k => match k with
  | 0 => ("SyllableMaker$Law", "sounds", "LSyllableMaker$Sounds;", true)
  | 1 => ("SyllableMaker$Law", "learnt", "LSyllableMaker$Words;", true)
  | 2 => ("SyllableMaker$Law", "told", "[J", true)
  | 3 => ("SyllableMaker$Law", "glides", "[I", true)
  | 4 => ("SyllableMaker$Law", "costs", "[I", true)
  | 5 => ("SyllableMaker$Law", "toldCount", "I", false)
  | 6 => ("SyllableMaker$Law", "glideCount", "I", false)
  | 7 => ("SyllableMaker$Law", "rise", "I", false)
  | 8 => ("SyllableMaker$Law", "closeMost", "I", false)
  | 9 => ("SyllableMaker$Law", "closeFall", "I", false)
  | 10 => ("SyllableMaker$Law", "shortWeight", "I", false)
  | 11 => ("SyllableMaker$Law", "longWeight", "I", false)
  | 12 => ("SyllableMaker$Law", "closingWeight", "I", false)
  | 13 => ("SyllableMaker$Law", "heavyFrom", "I", false)
  | 14 => ("SyllableMaker$Law", "stressBack", "I", false)
  | 15 => ("SyllableMaker$Law", "stressWindow", "I", false)
  | 16 => ("SyllableMaker$Law", "help", "I", false)
  | _ => ("SyllableMaker$Law", "move", "I", false)
def tyX2 : Nat → FieldType := fun k => match k with
  | 0 => .object "SyllableMaker$Sounds"
  | 1 => .object "SyllableMaker$Words"
  | 2 => .array .long
  | 3 => .array .int
  | 4 => .array .int
  | 5 => .int
  | 6 => .int
  | 7 => .int
  | 8 => .int
  | 9 => .int
  | 10 => .int
  | 11 => .int
  | 12 => .int
  | 13 => .int
  | 14 => .int
  | 15 => .int
  | 16 => .int
  | _ => .int
abbrev wsX20 : List Cond := u_ws RX2 TX2 18
theorem nmX2 : ∀ a, a < 18 → ∀ b, b < 18 → a ≠ b → (TX2 a).2.1 ≠ (TX2 b).2.1 := by decide +kernel
theorem tyX2_ok : ∀ k, k < 18 → parseFieldDescriptor (TX2 k).2.2.1 = some (tyX2 k) := by decide +kernel
abbrev cX2_init : ByteArray := prog_4_method_1_code
def yX2_init : MethodName := ⟨RX2, "<init>", "()V"⟩
abbrev cX2_clear : ByteArray := prog_4_method_2_code
def yX2_clear : MethodName := ⟨RX2, "clear", "()V"⟩
abbrev cX2_costAt : ByteArray := prog_4_method_3_code
def yX2_costAt : MethodName := ⟨RX2, "costAt", "(I)I"⟩
abbrev cX2_putCost : ByteArray := prog_4_method_4_code
def yX2_putCost : MethodName := ⟨RX2, "putCost", "(II)V"⟩
abbrev cX2_addTold : ByteArray := prog_4_method_5_code
def yX2_addTold : MethodName := ⟨RX2, "addTold", "(J)V"⟩
abbrev cX2_isTold : ByteArray := prog_4_method_6_code
def yX2_isTold : MethodName := ⟨RX2, "isTold", "(J)Z"⟩
abbrev cX2_addGlide : ByteArray := prog_4_method_7_code
def yX2_addGlide : MethodName := ⟨RX2, "addGlide", "(II)V"⟩
abbrev cX2_isGlide : ByteArray := prog_4_method_8_code
def yX2_isGlide : MethodName := ⟨RX2, "isGlide", "(II)Z"⟩
abbrev cX2_isLongHeart : ByteArray := prog_4_method_9_code
def yX2_isLongHeart : MethodName := ⟨RX2, "isLongHeart", "(II)Z"⟩
abbrev cX2_openingKind : ByteArray := prog_4_method_10_code
def yX2_openingKind : MethodName := ⟨RX2, "openingKind", "(J)I"⟩
abbrev cX2_isRising : ByteArray := prog_4_method_11_code
def yX2_isRising : MethodName := ⟨RX2, "isRising", "(J)Z"⟩
abbrev cX2_isLegalClosing : ByteArray := prog_4_method_12_code
def yX2_isLegalClosing : MethodName := ⟨RX2, "isLegalClosing", "(J)Z"⟩
abbrev cX2_countLearntOpenings : ByteArray := prog_4_method_13_code
def yX2_countLearntOpenings : MethodName := ⟨RX2, "countLearntOpenings", "()I"⟩
abbrev cX2_isNewLead : ByteArray := prog_4_method_14_code
def yX2_isNewLead : MethodName := ⟨RX2, "isNewLead", "(I)Z"⟩
abbrev cX2_leadAt : ByteArray := prog_4_method_15_code
def yX2_leadAt : MethodName := ⟨RX2, "leadAt", "(I)J"⟩
abbrev cX2_countOpenings : ByteArray := prog_4_method_16_code
def yX2_countOpenings : MethodName := ⟨RX2, "countOpenings", "(I)I"⟩
abbrev cX2_countHearts : ByteArray := prog_4_method_17_code
def yX2_countHearts : MethodName := ⟨RX2, "countHearts", "(I)I"⟩
abbrev cX2_countClosings : ByteArray := prog_4_method_18_code
def yX2_countClosings : MethodName := ⟨RX2, "countClosings", "(I)I"⟩
def RX3 : String := "SyllableMaker$Mender"
def TX3 : u_T := fun k => match k with
  | 0 => ("SyllableMaker$Mender", "cut", "LSyllableMaker$Cut;", true)
  | 1 => ("SyllableMaker$Mender", "mended", "LSyllableMaker$Row;", true)
  | _ => ("SyllableMaker$Mender", "places", "[I", true)
def tyX3 : Nat → FieldType := fun k => match k with
  | 0 => .object "SyllableMaker$Cut"
  | 1 => .object "SyllableMaker$Row"
  | _ => .array .int
abbrev wsX30 : List Cond := u_ws RX3 TX3 3
theorem nmX3 : ∀ a, a < 3 → ∀ b, b < 3 → a ≠ b → (TX3 a).2.1 ≠ (TX3 b).2.1 := by decide +kernel
theorem tyX3_ok : ∀ k, k < 3 → parseFieldDescriptor (TX3 k).2.2.1 = some (tyX3 k) := by decide +kernel
abbrev cX3_init : ByteArray := prog_5_method_1_code
def yX3_init : MethodName := ⟨RX3, "<init>", "(LSyllableMaker$Cut;)V"⟩
abbrev cX3_seek : ByteArray := prog_5_method_2_code
def yX3_seek : MethodName := ⟨RX3, "seek", "(LSyllableMaker$Law;LSyllableMaker$Row;)I"⟩
abbrev cX3_takeNextPlaces : ByteArray := prog_5_method_3_code
def yX3_takeNextPlaces : MethodName := ⟨RX3, "takeNextPlaces", "(II)Z"⟩
abbrev cX3_fits : ByteArray := prog_5_method_4_code
def yX3_fits : MethodName := ⟨RX3, "fits", "(LSyllableMaker$Law;LSyllableMaker$Row;I)Z"⟩
abbrev cX3_placeOf : ByteArray := prog_5_method_5_code
def yX3_placeOf : MethodName := ⟨RX3, "placeOf", "(I)I"⟩
def RX4 : String := "SyllableMaker$Reader"
def TX4 : u_T := fun k => match k with
  | 0 => ("SyllableMaker$Reader", "tape", "LSyllableMaker$Tape;", true)
  | 1 => ("SyllableMaker$Reader", "row", "LSyllableMaker$Row;", true)
  | 2 => ("SyllableMaker$Reader", "lines", "[I", true)
  | 3 => ("SyllableMaker$Reader", "named", "[Z", true)
  | _ => ("SyllableMaker$Reader", "target", "LSyllableMaker$Law;", false)
def tyX4 : Nat → FieldType := fun k => match k with
  | 0 => .object "SyllableMaker$Tape"
  | 1 => .object "SyllableMaker$Row"
  | 2 => .array .int
  | 3 => .array .boolean
  | _ => .object "SyllableMaker$Law"
abbrev wsX40 : List Cond := u_ws RX4 TX4 5
theorem nmX4 : ∀ a, a < 5 → ∀ b, b < 5 → a ≠ b → (TX4 a).2.1 ≠ (TX4 b).2.1 := by decide +kernel
theorem tyX4_ok : ∀ k, k < 5 → parseFieldDescriptor (TX4 k).2.2.1 = some (tyX4 k) := by decide +kernel
abbrev cX4_init : ByteArray := prog_6_method_1_code
def yX4_init : MethodName := ⟨RX4, "<init>", "(LSyllableMaker$Tape;)V"⟩
abbrev cX4_readLaw : ByteArray := prog_6_method_2_code
def yX4_readLaw : MethodName := ⟨RX4, "readLaw", "(LSyllableMaker$Law;)Z"⟩
abbrev cX4_readSpeech : ByteArray := prog_6_method_3_code
def yX4_readSpeech : MethodName := ⟨RX4, "readSpeech", "(LSyllableMaker$Words;LSyllableMaker$Law;)Z"⟩
abbrev cX4_readLine : ByteArray := prog_6_method_4_code
def yX4_readLine : MethodName := ⟨RX4, "readLine", "()V"⟩
abbrev cX4_lineHere : ByteArray := prog_6_method_5_code
def yX4_lineHere : MethodName := ⟨RX4, "lineHere", "()I"⟩
abbrev cX4_mostOf : ByteArray := prog_6_method_6_code
def yX4_mostOf : MethodName := ⟨RX4, "mostOf", "(I)I"⟩
abbrev cX4_readRowLine : ByteArray := prog_6_method_7_code
def yX4_readRowLine : MethodName := ⟨RX4, "readRowLine", "(I)V"⟩
abbrev cX4_readNumbersLine : ByteArray := prog_6_method_8_code
def yX4_readNumbersLine : MethodName := ⟨RX4, "readNumbersLine", "(I)V"⟩
abbrev cX4_readSound : ByteArray := prog_6_method_9_code
def yX4_readSound : MethodName := ⟨RX4, "readSound", "()V"⟩
abbrev cX4_readOpen : ByteArray := prog_6_method_10_code
def yX4_readOpen : MethodName := ⟨RX4, "readOpen", "()V"⟩
abbrev cX4_readGlide : ByteArray := prog_6_method_11_code
def yX4_readGlide : MethodName := ⟨RX4, "readGlide", "()V"⟩
abbrev cX4_readCost : ByteArray := prog_6_method_12_code
def yX4_readCost : MethodName := ⟨RX4, "readCost", "()V"⟩
abbrev cX4_costHere : ByteArray := prog_6_method_13_code
def yX4_costHere : MethodName := ⟨RX4, "costHere", "()I"⟩
abbrev cX4_readRow : ByteArray := prog_6_method_14_code
def yX4_readRow : MethodName := ⟨RX4, "readRow", "(III)Z"⟩
abbrev cX4_readNumber : ByteArray := prog_6_method_15_code
def yX4_readNumber : MethodName := ⟨RX4, "readNumber", "(II)I"⟩
abbrev cX4_readSign : ByteArray := prog_6_method_16_code
def yX4_readSign : MethodName := ⟨RX4, "readSign", "()V"⟩
def RX5 : String := "SyllableMaker$Row"
def TX5 : u_T := fun k => match k with
  | 0 => ("SyllableMaker$Row", "sounds", "[I", true)
  | 1 => ("SyllableMaker$Row", "size", "I", false)
  | _ => ("SyllableMaker$Row", "lead", "J", false)
def tyX5 : Nat → FieldType := fun k => match k with
  | 0 => .array .int
  | 1 => .int
  | _ => .long
abbrev wsX50 : List Cond := u_ws RX5 TX5 3
theorem nmX5 : ∀ a, a < 3 → ∀ b, b < 3 → a ≠ b → (TX5 a).2.1 ≠ (TX5 b).2.1 := by decide +kernel
theorem tyX5_ok : ∀ k, k < 3 → parseFieldDescriptor (TX5 k).2.2.1 = some (tyX5 k) := by decide +kernel
abbrev cX5_init : ByteArray := prog_7_method_1_code
def yX5_init : MethodName := ⟨RX5, "<init>", "()V"⟩
abbrev cX5_clear : ByteArray := prog_7_method_2_code
def yX5_clear : MethodName := ⟨RX5, "clear", "()V"⟩
abbrev cX5_add : ByteArray := prog_7_method_3_code
def yX5_add : MethodName := ⟨RX5, "add", "(IZ)V"⟩
abbrev cX5_copy : ByteArray := prog_7_method_4_code
def yX5_copy : MethodName := ⟨RX5, "copy", "(LSyllableMaker$Row;)V"⟩
abbrev cX5_soundAt : ByteArray := prog_7_method_5_code
def yX5_soundAt : MethodName := ⟨RX5, "soundAt", "(I)I"⟩
abbrev cX5_key : ByteArray := prog_7_method_6_code
def yX5_key : MethodName := ⟨RX5, "key", "(II)J"⟩
abbrev cX5_longer : ByteArray := prog_7_method_7_code
def yX5_longer : MethodName := ⟨RX5, "longer", "(JI)J"⟩
abbrev cX5_sizeOf : ByteArray := prog_7_method_8_code
def yX5_sizeOf : MethodName := ⟨RX5, "sizeOf", "(J)I"⟩
abbrev cX5_soundIn : ByteArray := prog_7_method_9_code
def yX5_soundIn : MethodName := ⟨RX5, "soundIn", "(JI)I"⟩
def RX6 : String := "SyllableMaker$Sounds"
def TX6 : u_T := fun k => match k with
  | 0 => ("SyllableMaker$Sounds", "letters", "[I", true)
  | 1 => ("SyllableMaker$Sounds", "opens", "[I", true)
  | 2 => ("SyllableMaker$Sounds", "peaks", "[Z", true)
  | 3 => ("SyllableMaker$Sounds", "sums", "[I", true)
  | 4 => ("SyllableMaker$Sounds", "chains", "[I", true)
  | 5 => ("SyllableMaker$Sounds", "longerChains", "[I", true)
  | _ => ("SyllableMaker$Sounds", "count", "I", false)
def tyX6 : Nat → FieldType := fun k => match k with
  | 0 => .array .int
  | 1 => .array .int
  | 2 => .array .boolean
  | 3 => .array .int
  | 4 => .array .int
  | 5 => .array .int
  | _ => .int
abbrev wsX60 : List Cond := u_ws RX6 TX6 7
theorem nmX6 : ∀ a, a < 7 → ∀ b, b < 7 → a ≠ b → (TX6 a).2.1 ≠ (TX6 b).2.1 := by decide +kernel
theorem tyX6_ok : ∀ k, k < 7 → parseFieldDescriptor (TX6 k).2.2.1 = some (tyX6 k) := by decide +kernel
abbrev cX6_init : ByteArray := prog_8_method_1_code
def yX6_init : MethodName := ⟨RX6, "<init>", "()V"⟩
abbrev cX6_clear : ByteArray := prog_8_method_2_code
def yX6_clear : MethodName := ⟨RX6, "clear", "()V"⟩
abbrev cX6_add : ByteArray := prog_8_method_3_code
def yX6_add : MethodName := ⟨RX6, "add", "(IIZ)V"⟩
abbrev cX6_has : ByteArray := prog_8_method_4_code
def yX6_has : MethodName := ⟨RX6, "has", "(I)Z"⟩
abbrev cX6_numberOf : ByteArray := prog_8_method_5_code
def yX6_numberOf : MethodName := ⟨RX6, "numberOf", "(I)I"⟩
abbrev cX6_letterOf : ByteArray := prog_8_method_6_code
def yX6_letterOf : MethodName := ⟨RX6, "letterOf", "(I)I"⟩
abbrev cX6_openOf : ByteArray := prog_8_method_7_code
def yX6_openOf : MethodName := ⟨RX6, "openOf", "(I)I"⟩
abbrev cX6_isPeak : ByteArray := prog_8_method_8_code
def yX6_isPeak : MethodName := ⟨RX6, "isPeak", "(I)Z"⟩
abbrev cX6_countPeaks : ByteArray := prog_8_method_9_code
def yX6_countPeaks : MethodName := ⟨RX6, "countPeaks", "()I"⟩
abbrev cX6_distance : ByteArray := prog_8_method_10_code
def yX6_distance : MethodName := ⟨RX6, "distance", "(LSyllableMaker$Row;LSyllableMaker$Row;)I"⟩
abbrev cX6_change : ByteArray := prog_8_method_11_code
def yX6_change : MethodName := ⟨RX6, "change", "(II)I"⟩
abbrev cX6_countHills : ByteArray := prog_8_method_12_code
def yX6_countHills : MethodName := ⟨RX6, "countHills", "(LSyllableMaker$Row;)I"⟩
abbrev cX6_climbs : ByteArray := prog_8_method_13_code
def yX6_climbs : MethodName := ⟨RX6, "climbs", "(JIZ)Z"⟩
abbrev cX6_countChains : ByteArray := prog_8_method_14_code
def yX6_countChains : MethodName := ⟨RX6, "countChains", "(II)I"⟩
abbrev cX6_chainsBefore : ByteArray := prog_8_method_15_code
def yX6_chainsBefore : MethodName := ⟨RX6, "chainsBefore", "(II)I"⟩
def RX7 : String := "SyllableMaker$Speech"
def TX7 : u_T := fun k => match k with
  | 0 => ("SyllableMaker$Speech", "cut", "LSyllableMaker$Cut;", true)
  | 1 => ("SyllableMaker$Speech", "words", "LSyllableMaker$Words;", false)
  | _ => ("SyllableMaker$Speech", "spare", "LSyllableMaker$Words;", false)
def tyX7 : Nat → FieldType := fun k => match k with
  | 0 => .object "SyllableMaker$Cut"
  | 1 => .object "SyllableMaker$Words"
  | _ => .object "SyllableMaker$Words"
abbrev wsX70 : List Cond := u_ws RX7 TX7 3
theorem nmX7 : ∀ a, a < 3 → ∀ b, b < 3 → a ≠ b → (TX7 a).2.1 ≠ (TX7 b).2.1 := by decide +kernel
theorem tyX7_ok : ∀ k, k < 3 → parseFieldDescriptor (TX7 k).2.2.1 = some (tyX7 k) := by decide +kernel
abbrev cX7_init : ByteArray := prog_9_method_1_code
def yX7_init : MethodName := ⟨RX7, "<init>", "(LSyllableMaker$Cut;)V"⟩
abbrev cX7_takeSpare : ByteArray := prog_9_method_2_code
def yX7_takeSpare : MethodName := ⟨RX7, "takeSpare", "()V"⟩
abbrev cX7_hasSyllables : ByteArray := prog_9_method_3_code
def yX7_hasSyllables : MethodName := ⟨RX7, "hasSyllables", "()Z"⟩
abbrev cX7_goingOver : ByteArray := prog_9_method_4_code
def yX7_goingOver : MethodName := ⟨RX7, "goingOver", "(LSyllableMaker$Law;I)I"⟩
abbrev cX7_cutPlain : ByteArray := prog_9_method_5_code
def yX7_cutPlain : MethodName := ⟨RX7, "cutPlain", "(LSyllableMaker$Law;I)Z"⟩
abbrev cX7_cutJoined : ByteArray := prog_9_method_6_code
def yX7_cutJoined : MethodName := ⟨RX7, "cutJoined", "(LSyllableMaker$Law;I)Z"⟩
abbrev cX7_heavyJoined : ByteArray := prog_9_method_7_code
def yX7_heavyJoined : MethodName := ⟨RX7, "heavyJoined", "(LSyllableMaker$Law;)I"⟩
abbrev cX7_heavyPlain : ByteArray := prog_9_method_8_code
def yX7_heavyPlain : MethodName := ⟨RX7, "heavyPlain", "(LSyllableMaker$Law;)I"⟩
abbrev cX7_changed : ByteArray := prog_9_method_9_code
def yX7_changed : MethodName := ⟨RX7, "changed", "(LSyllableMaker$Law;)I"⟩
abbrev cX7_countMisfits : ByteArray := prog_9_method_10_code
def yX7_countMisfits : MethodName := ⟨RX7, "countMisfits", "(LSyllableMaker$Law;II)I"⟩
abbrev cX7_stressedEnd : ByteArray := prog_9_method_11_code
def yX7_stressedEnd : MethodName := ⟨RX7, "stressedEnd", "(LSyllableMaker$Law;LSyllableMaker$Row;)J"⟩
def RX8 : String := "SyllableMaker$Tally"
def TX8 : u_T := fun k => match k with
  | 0 => ("SyllableMaker$Tally", "cut", "LSyllableMaker$Cut;", true)
  | 1 => ("SyllableMaker$Tally", "keys", "[[J", true)
  | 2 => ("SyllableMaker$Tally", "times", "[[I", true)
  | 3 => ("SyllableMaker$Tally", "sizes", "[I", true)
  | _ => ("SyllableMaker$Tally", "syllables", "I", false)
def tyX8 : Nat → FieldType := fun k => match k with
  | 0 => .object "SyllableMaker$Cut"
  | 1 => .array (.array .long)
  | 2 => .array (.array .int)
  | 3 => .array .int
  | _ => .int
abbrev wsX80 : List Cond := u_ws RX8 TX8 5
theorem nmX8 : ∀ a, a < 5 → ∀ b, b < 5 → a ≠ b → (TX8 a).2.1 ≠ (TX8 b).2.1 := by decide +kernel
theorem tyX8_ok : ∀ k, k < 5 → parseFieldDescriptor (TX8 k).2.2.1 = some (tyX8 k) := by decide +kernel
abbrev cX8_init : ByteArray := prog_10_method_1_code
def yX8_init : MethodName := ⟨RX8, "<init>", "(LSyllableMaker$Cut;)V"⟩
abbrev cX8_fill : ByteArray := prog_10_method_2_code
def yX8_fill : MethodName := ⟨RX8, "fill", "(LSyllableMaker$Law;)V"⟩
abbrev cX8_countSyllables : ByteArray := prog_10_method_3_code
def yX8_countSyllables : MethodName := ⟨RX8, "countSyllables", "()V"⟩
abbrev cX8_count : ByteArray := prog_10_method_4_code
def yX8_count : MethodName := ⟨RX8, "count", "(IJ)V"⟩
abbrev cX8_unlike : ByteArray := prog_10_method_5_code
def yX8_unlike : MethodName := ⟨RX8, "unlike", "(I)I"⟩
abbrev cX8_tell : ByteArray := prog_10_method_6_code
def yX8_tell : MethodName := ⟨RX8, "tell", "(III)I"⟩
abbrev cX8_make : ByteArray := prog_10_method_7_code
def yX8_make : MethodName := ⟨RX8, "make", "(III)I"⟩
abbrev cX8_drawn : ByteArray := prog_10_method_8_code
def yX8_drawn : MethodName := ⟨RX8, "drawn", "(II)J"⟩
def RX9 : String := "SyllableMaker$Tape"
def TX9 : u_T := fun k => match k with
  | 0 => ("SyllableMaker$Tape", "bytes", "[B", true)
  | 1 => ("SyllableMaker$Tape", "size", "I", false)
  | 2 => ("SyllableMaker$Tape", "kind", "I", false)
  | 3 => ("SyllableMaker$Tape", "place", "I", false)
  | 4 => ("SyllableMaker$Tape", "length", "I", false)
  | 5 => ("SyllableMaker$Tape", "fault", "I", false)
  | _ => ("SyllableMaker$Tape", "faultPlace", "I", false)
def tyX9 : Nat → FieldType := fun k => match k with
  | 0 => .array .byte
  | 1 => .int
  | 2 => .int
  | 3 => .int
  | 4 => .int
  | 5 => .int
  | _ => .int
abbrev wsX90 : List Cond := u_ws RX9 TX9 7
theorem nmX9 : ∀ a, a < 7 → ∀ b, b < 7 → a ≠ b → (TX9 a).2.1 ≠ (TX9 b).2.1 := by decide +kernel
theorem tyX9_ok : ∀ k, k < 7 → parseFieldDescriptor (TX9 k).2.2.1 = some (tyX9 k) := by decide +kernel
abbrev cX9_init : ByteArray := prog_11_method_1_code
def yX9_init : MethodName := ⟨RX9, "<init>", "()V"⟩
abbrev cX9_hasRoomFor : ByteArray := prog_11_method_2_code
def yX9_hasRoomFor : MethodName := ⟨RX9, "hasRoomFor", "(I)Z"⟩
abbrev cX9_put : ByteArray := prog_11_method_3_code
def yX9_put : MethodName := ⟨RX9, "put", "(I)V"⟩
abbrev cX9_startReading : ByteArray := prog_11_method_4_code
def yX9_startReading : MethodName := ⟨RX9, "startReading", "()V"⟩
abbrev cX9_fail : ByteArray := prog_11_method_5_code
def yX9_fail : MethodName := ⟨RX9, "fail", "(I)V"⟩
abbrev cX9_refuse : ByteArray := prog_11_method_6_code
def yX9_refuse : MethodName := ⟨RX9, "refuse", "()V"⟩
abbrev cX9_goesOn : ByteArray := prog_11_method_7_code
def yX9_goesOn : MethodName := ⟨RX9, "goesOn", "()Z"⟩
abbrev cX9_advance : ByteArray := prog_11_method_8_code
def yX9_advance : MethodName := ⟨RX9, "advance", "()V"⟩
abbrev cX9_isBlank : ByteArray := prog_11_method_9_code
def yX9_isBlank : MethodName := ⟨RX9, "isBlank", "(I)Z"⟩
abbrev cX9_countFrom : ByteArray := prog_11_method_10_code
def yX9_countFrom : MethodName := ⟨RX9, "countFrom", "(ICC)I"⟩
abbrev cX9_valueHere : ByteArray := prog_11_method_11_code
def yX9_valueHere : MethodName := ⟨RX9, "valueHere", "()I"⟩
abbrev cX9_letterAt : ByteArray := prog_11_method_12_code
def yX9_letterAt : MethodName := ⟨RX9, "letterAt", "(I)I"⟩
abbrev cX9_spells : ByteArray := prog_11_method_13_code
def yX9_spells : MethodName := ⟨RX9, "spells", "(Ljava/lang/String;)Z"⟩
def RX10 : String := "SyllableMaker$Words"
def TX10 : u_T := fun k => match k with
  | 0 => ("SyllableMaker$Words", "rows", "[LSyllableMaker$Row;", true)
  | 1 => ("SyllableMaker$Words", "ways", "[I", true)
  | _ => ("SyllableMaker$Words", "count", "I", false)
def tyX10 : Nat → FieldType := fun k => match k with
  | 0 => .array (.object "SyllableMaker$Row")
  | 1 => .array .int
  | _ => .int
abbrev wsX100 : List Cond := u_ws RX10 TX10 3
theorem nmX10 : ∀ a, a < 3 → ∀ b, b < 3 → a ≠ b → (TX10 a).2.1 ≠ (TX10 b).2.1 := by decide +kernel
theorem tyX10_ok : ∀ k, k < 3 → parseFieldDescriptor (TX10 k).2.2.1 = some (tyX10 k) := by decide +kernel
abbrev cX10_init : ByteArray := prog_12_method_1_code
def yX10_init : MethodName := ⟨RX10, "<init>", "(I)V"⟩
abbrev cX10_clear : ByteArray := prog_12_method_2_code
def yX10_clear : MethodName := ⟨RX10, "clear", "()V"⟩
abbrev cX10_rowAt : ByteArray := prog_12_method_3_code
def yX10_rowAt : MethodName := ⟨RX10, "rowAt", "(I)LSyllableMaker$Row;"⟩
abbrev cX10_add : ByteArray := prog_12_method_4_code
def yX10_add : MethodName := ⟨RX10, "add", "(LSyllableMaker$Row;)Z"⟩
abbrev cX10_putIn : ByteArray := prog_12_method_5_code
def yX10_putIn : MethodName := ⟨RX10, "putIn", "(ILSyllableMaker$Row;)Z"⟩
abbrev cX10_takeOut : ByteArray := prog_12_method_6_code
def yX10_takeOut : MethodName := ⟨RX10, "takeOut", "(I)V"⟩
abbrev cX10_hasLead : ByteArray := prog_12_method_7_code
def yX10_hasLead : MethodName := ⟨RX10, "hasLead", "(J)Z"⟩
abbrev cX10_rowsThatMake : ByteArray := prog_12_method_8_code
def yX10_rowsThatMake : MethodName := ⟨RX10, "rowsThatMake", "(LSyllableMaker$Row;)I"⟩
abbrev cX10_hasWord : ByteArray := prog_12_method_9_code
def yX10_hasWord : MethodName := ⟨RX10, "hasWord", "(J)Z"⟩
def RX11 : String := "SyllableMaker"
def TX11 : u_T := fun k => match k with
  | 0 => ("SyllableMaker", "tape", "LSyllableMaker$Tape;", true)
  | 1 => ("SyllableMaker", "reader", "LSyllableMaker$Reader;", true)
  | 2 => ("SyllableMaker", "cutter", "LSyllableMaker$Cut;", true)
  | 3 => ("SyllableMaker", "spoken", "LSyllableMaker$Speech;", true)
  | 4 => ("SyllableMaker", "counts", "LSyllableMaker$Tally;", true)
  | 5 => ("SyllableMaker", "mender", "LSyllableMaker$Mender;", true)
  | 6 => ("SyllableMaker", "acts", "LSyllableMaker$Acts;", true)
  | 7 => ("SyllableMaker", "rules", "LSyllableMaker$Law;", false)
  | _ => ("SyllableMaker", "spare", "LSyllableMaker$Law;", false)
def tyX11 : Nat → FieldType := fun k => match k with
  | 0 => .object "SyllableMaker$Tape"
  | 1 => .object "SyllableMaker$Reader"
  | 2 => .object "SyllableMaker$Cut"
  | 3 => .object "SyllableMaker$Speech"
  | 4 => .object "SyllableMaker$Tally"
  | 5 => .object "SyllableMaker$Mender"
  | 6 => .object "SyllableMaker$Acts"
  | 7 => .object "SyllableMaker$Law"
  | _ => .object "SyllableMaker$Law"
abbrev wsX110 : List Cond := u_ws RX11 TX11 9
theorem nmX11 : ∀ a, a < 9 → ∀ b, b < 9 → a ≠ b → (TX11 a).2.1 ≠ (TX11 b).2.1 := by decide +kernel
theorem tyX11_ok : ∀ k, k < 9 → parseFieldDescriptor (TX11 k).2.2.1 = some (tyX11 k) := by decide +kernel
abbrev cX11_init : ByteArray := prog_1_method_1_code
def yX11_init : MethodName := ⟨RX11, "<init>", "()V"⟩
abbrev cX11_feed : ByteArray := prog_1_method_2_code
def yX11_feed : MethodName := ⟨RX11, "feed", "(IIIII)I"⟩
abbrev cX11_end : ByteArray := prog_1_method_3_code
def yX11_end : MethodName := ⟨RX11, "end", "(I)I"⟩
abbrev cX11_law : ByteArray := prog_1_method_4_code
def yX11_law : MethodName := ⟨RX11, "law", "()I"⟩
abbrev cX11_say : ByteArray := prog_1_method_5_code
def yX11_say : MethodName := ⟨RX11, "say", "()I"⟩
abbrev cX11_fault : ByteArray := prog_1_method_6_code
def yX11_fault : MethodName := ⟨RX11, "fault", "(I)I"⟩
abbrev cX11_sound : ByteArray := prog_1_method_7_code
def yX11_sound : MethodName := ⟨RX11, "sound", "(II)I"⟩
abbrev cX11_opening : ByteArray := prog_1_method_8_code
def yX11_opening : MethodName := ⟨RX11, "opening", "(IIII)I"⟩
abbrev cX11_word : ByteArray := prog_1_method_9_code
def yX11_word : MethodName := ⟨RX11, "word", "(II)I"⟩
abbrev cX11_at : ByteArray := prog_1_method_10_code
def yX11_at : MethodName := ⟨RX11, "at", "(II)I"⟩
abbrev cX11_syllable : ByteArray := prog_1_method_11_code
def yX11_syllable : MethodName := ⟨RX11, "syllable", "(IIII)I"⟩
abbrev cX11_tellSyllable : ByteArray := prog_1_method_12_code
def yX11_tellSyllable : MethodName := ⟨RX11, "tellSyllable", "(II)I"⟩
abbrev cX11_judge : ByteArray := prog_1_method_13_code
def yX11_judge : MethodName := ⟨RX11, "judge", "(IJI)I"⟩
abbrev cX11_within : ByteArray := prog_1_method_14_code
def yX11_within : MethodName := ⟨RX11, "within", "(II)I"⟩
abbrev cX11_rhyme : ByteArray := prog_1_method_15_code
def yX11_rhyme : MethodName := ⟨RX11, "rhyme", "(II)I"⟩
abbrev cX11_mend : ByteArray := prog_1_method_16_code
def yX11_mend : MethodName := ⟨RX11, "mend", "(II)I"⟩
abbrev cX11_far : ByteArray := prog_1_method_17_code
def yX11_far : MethodName := ⟨RX11, "far", "(II)I"⟩
abbrev cX11_nearest : ByteArray := prog_1_method_18_code
def yX11_nearest : MethodName := ⟨RX11, "nearest", "(I)I"⟩
abbrev cX11_parts : ByteArray := prog_1_method_19_code
def yX11_parts : MethodName := ⟨RX11, "parts", "(I)I"⟩
abbrev cX11_hills : ByteArray := prog_1_method_20_code
def yX11_hills : MethodName := ⟨RX11, "hills", "(I)I"⟩
abbrev cX11_joins : ByteArray := prog_1_method_21_code
def yX11_joins : MethodName := ⟨RX11, "joins", "(I)I"⟩
abbrev cX11_speech : ByteArray := prog_1_method_22_code
def yX11_speech : MethodName := ⟨RX11, "speech", "(I)I"⟩
abbrev cX11_misfits : ByteArray := prog_1_method_23_code
def yX11_misfits : MethodName := ⟨RX11, "misfits", "(II)I"⟩
abbrev cX11_beat : ByteArray := prog_1_method_24_code
def yX11_beat : MethodName := ⟨RX11, "beat", "(I)I"⟩
abbrev cX11_possible : ByteArray := prog_1_method_25_code
def yX11_possible : MethodName := ⟨RX11, "possible", "(I)I"⟩
abbrev cX11_tally : ByteArray := prog_1_method_26_code
def yX11_tally : MethodName := ⟨RX11, "tally", "(III)I"⟩
abbrev cX11_made : ByteArray := prog_1_method_27_code
def yX11_made : MethodName := ⟨RX11, "made", "(III)I"⟩
abbrev cX11_learn : ByteArray := prog_1_method_28_code
def yX11_learn : MethodName := ⟨RX11, "learn", "(I)I"⟩
abbrev cX11_forget : ByteArray := prog_1_method_29_code
def yX11_forget : MethodName := ⟨RX11, "forget", "(I)I"⟩
abbrev cX11_cost : ByteArray := prog_1_method_30_code
def yX11_cost : MethodName := ⟨RX11, "cost", "(II)I"⟩
abbrev cX11_undo : ByteArray := prog_1_method_31_code
def yX11_undo : MethodName := ⟨RX11, "undo", "()I"⟩
abbrev cX11_about : ByteArray := prog_1_method_32_code
def yX11_about : MethodName := ⟨RX11, "about", "(I)I"⟩
abbrev cX11_rowOf : ByteArray := prog_1_method_33_code
def yX11_rowOf : MethodName := ⟨RX11, "rowOf", "(I)LSyllableMaker$Row;"⟩
def RX12 : String := "SyllableMakerModel"
def TX12 : u_T := fun k => match k with
  | 0 => ("SyllableMakerModel", "tape", "[I", true)
  | 1 => ("SyllableMakerModel", "taped", "I", false)
  | 2 => ("SyllableMakerModel", "bytes", "I", false)
  | 3 => ("SyllableMakerModel", "at", "I", false)
  | 4 => ("SyllableMakerModel", "place", "I", false)
  | 5 => ("SyllableMakerModel", "sort", "I", false)
  | 6 => ("SyllableMakerModel", "value", "I", false)
  | 7 => ("SyllableMakerModel", "rowMany", "I", false)
  | 8 => ("SyllableMakerModel", "fault", "I", false)
  | 9 => ("SyllableMakerModel", "faultPlace", "I", false)
  | 10 => ("SyllableMakerModel", "toldFault", "I", false)
  | 11 => ("SyllableMakerModel", "toldPlace", "I", false)
  | 12 => ("SyllableMakerModel", "row", "[I", true)
  | 13 => ("SyllableMakerModel", "code", "J", false)
  | 14 => ("SyllableMakerModel", "rSounds", "I", false)
  | 15 => ("SyllableMakerModel", "rOpenings", "I", false)
  | 16 => ("SyllableMakerModel", "rGlides", "I", false)
  | 17 => ("SyllableMakerModel", "rWords", "I", false)
  | 18 => ("SyllableMakerModel", "rRise", "I", false)
  | 19 => ("SyllableMakerModel", "rCloseMany", "I", false)
  | 20 => ("SyllableMakerModel", "rCloseFall", "I", false)
  | 21 => ("SyllableMakerModel", "rHelp", "I", false)
  | 22 => ("SyllableMakerModel", "rMove", "I", false)
  | 23 => ("SyllableMakerModel", "rStress", "I", false)
  | 24 => ("SyllableMakerModel", "rHeavy", "I", false)
  | 25 => ("SyllableMakerModel", "onceTold", "I", false)
  | 26 => ("SyllableMakerModel", "costTold", "I", false)
  | 27 => ("SyllableMakerModel", "rSoundOf", "[I", true)
  | 28 => ("SyllableMakerModel", "rLetter", "[I", true)
  | 29 => ("SyllableMakerModel", "rOpen", "[I", true)
  | 30 => ("SyllableMakerModel", "rPeak", "[I", true)
  | 31 => ("SyllableMakerModel", "rOpening", "[I", true)
  | 32 => ("SyllableMakerModel", "rOpeningLong", "[I", true)
  | 33 => ("SyllableMakerModel", "rGlide", "[I", true)
  | 34 => ("SyllableMakerModel", "rWord", "[I", true)
  | 35 => ("SyllableMakerModel", "rWordLong", "[I", true)
  | 36 => ("SyllableMakerModel", "rCost", "[I", true)
  | 37 => ("SyllableMakerModel", "rWeigh", "[I", true)
  | 38 => ("SyllableMakerModel", "sounds", "I", false)
  | 39 => ("SyllableMakerModel", "openings", "I", false)
  | 40 => ("SyllableMakerModel", "glides", "I", false)
  | 41 => ("SyllableMakerModel", "rise", "I", false)
  | 42 => ("SyllableMakerModel", "closeMany", "I", false)
  | 43 => ("SyllableMakerModel", "closeFall", "I", false)
  | 44 => ("SyllableMakerModel", "help", "I", false)
  | 45 => ("SyllableMakerModel", "move", "I", false)
  | 46 => ("SyllableMakerModel", "stressFrom", "I", false)
  | 47 => ("SyllableMakerModel", "stressHeavy", "I", false)
  | 48 => ("SyllableMakerModel", "soundOf", "[I", true)
  | 49 => ("SyllableMakerModel", "letter", "[I", true)
  | 50 => ("SyllableMakerModel", "open", "[I", true)
  | 51 => ("SyllableMakerModel", "peak", "[I", true)
  | 52 => ("SyllableMakerModel", "told", "[I", true)
  | 53 => ("SyllableMakerModel", "toldLong", "[I", true)
  | 54 => ("SyllableMakerModel", "glide", "[I", true)
  | 55 => ("SyllableMakerModel", "weigh", "[I", true)
  | 56 => ("SyllableMakerModel", "spoken", "I", false)
  | 57 => ("SyllableMakerModel", "speech", "[I", true)
  | 58 => ("SyllableMakerModel", "speechLong", "[I", true)
  | 59 => ("SyllableMakerModel", "said", "[I", true)
  | 60 => ("SyllableMakerModel", "saidLong", "[I", true)
  | 61 => ("SyllableMakerModel", "now", "[I", true)
  | 62 => ("SyllableMakerModel", "past", "[I", true)
  | 63 => ("SyllableMakerModel", "acts", "I", false)
  | 64 => ("SyllableMakerModel", "sounds1", "[I", true)
  | 65 => ("SyllableMakerModel", "start", "[I", true)
  | 66 => ("SyllableMakerModel", "size", "[I", true)
  | 67 => ("SyllableMakerModel", "cut", "[I", true)
  | 68 => ("SyllableMakerModel", "best", "[I", true)
  | 69 => ("SyllableMakerModel", "many", "I", false)
  | 70 => ("SyllableMakerModel", "hearts", "I", false)
  | 71 => ("SyllableMakerModel", "asked", "[I", true)
  | 72 => ("SyllableMakerModel", "comeRow", "[I", true)
  | 73 => ("SyllableMakerModel", "rhyme", "[I", true)
  | 74 => ("SyllableMakerModel", "farRow", "[I", true)
  | 75 => ("SyllableMakerModel", "farNext", "[I", true)
  | 76 => ("SyllableMakerModel", "partWays", "[I", true)
  | 77 => ("SyllableMakerModel", "rows", "[J", true)
  | 78 => ("SyllableMakerModel", "next", "[J", true)
  | 79 => ("SyllableMakerModel", "tallyMany", "[I", true)
  | 80 => ("SyllableMakerModel", "tallyWord", "[I", true)
  | 81 => ("SyllableMakerModel", "tallyFrom", "[I", true)
  | 82 => ("SyllableMakerModel", "tallySize", "[I", true)
  | 83 => ("SyllableMakerModel", "tallyOften", "[I", true)
  | 84 => ("SyllableMakerModel", "isTallied", "Z", false)
  | 85 => ("SyllableMakerModel", "drawn", "I", false)
  | 86 => ("SyllableMakerModel", "madeMany", "I", false)
  | _ => ("SyllableMakerModel", "madeRow", "[I", true)
def tyX12 : Nat → FieldType := fun k => match k with
  | 0 => .array .int
  | 1 => .int
  | 2 => .int
  | 3 => .int
  | 4 => .int
  | 5 => .int
  | 6 => .int
  | 7 => .int
  | 8 => .int
  | 9 => .int
  | 10 => .int
  | 11 => .int
  | 12 => .array .int
  | 13 => .long
  | 14 => .int
  | 15 => .int
  | 16 => .int
  | 17 => .int
  | 18 => .int
  | 19 => .int
  | 20 => .int
  | 21 => .int
  | 22 => .int
  | 23 => .int
  | 24 => .int
  | 25 => .int
  | 26 => .int
  | 27 => .array .int
  | 28 => .array .int
  | 29 => .array .int
  | 30 => .array .int
  | 31 => .array .int
  | 32 => .array .int
  | 33 => .array .int
  | 34 => .array .int
  | 35 => .array .int
  | 36 => .array .int
  | 37 => .array .int
  | 38 => .int
  | 39 => .int
  | 40 => .int
  | 41 => .int
  | 42 => .int
  | 43 => .int
  | 44 => .int
  | 45 => .int
  | 46 => .int
  | 47 => .int
  | 48 => .array .int
  | 49 => .array .int
  | 50 => .array .int
  | 51 => .array .int
  | 52 => .array .int
  | 53 => .array .int
  | 54 => .array .int
  | 55 => .array .int
  | 56 => .int
  | 57 => .array .int
  | 58 => .array .int
  | 59 => .array .int
  | 60 => .array .int
  | 61 => .array .int
  | 62 => .array .int
  | 63 => .int
  | 64 => .array .int
  | 65 => .array .int
  | 66 => .array .int
  | 67 => .array .int
  | 68 => .array .int
  | 69 => .int
  | 70 => .int
  | 71 => .array .int
  | 72 => .array .int
  | 73 => .array .int
  | 74 => .array .int
  | 75 => .array .int
  | 76 => .array .int
  | 77 => .array .long
  | 78 => .array .long
  | 79 => .array .int
  | 80 => .array .int
  | 81 => .array .int
  | 82 => .array .int
  | 83 => .array .int
  | 84 => .boolean
  | 85 => .int
  | 86 => .int
  | _ => .array .int
abbrev wsX120 : List Cond := u_ws RX12 TX12 88
theorem nmX12 : ∀ a, a < 88 → ∀ b, b < 88 → a ≠ b → (TX12 a).2.1 ≠ (TX12 b).2.1 := by decide +kernel
theorem tyX12_ok : ∀ k, k < 88 → parseFieldDescriptor (TX12 k).2.2.1 = some (tyX12 k) := by decide +kernel
abbrev cX12_init : ByteArray := prog_14_method_1_code
def yX12_init : MethodName := ⟨RX12, "<init>", "()V"⟩
abbrev cX12_isIn : ByteArray := prog_14_method_2_code
def yX12_isIn : MethodName := ⟨RX12, "isIn", "(JJJ)Z"⟩
abbrev cX12_truth : ByteArray := prog_14_method_3_code
def yX12_truth : MethodName := ⟨RX12, "truth", "(Z)I"⟩
abbrev cX12_lesser : ByteArray := prog_14_method_4_code
def yX12_lesser : MethodName := ⟨RX12, "lesser", "(II)I"⟩
abbrev cX12_greater : ByteArray := prog_14_method_5_code
def yX12_greater : MethodName := ⟨RX12, "greater", "(II)I"⟩
abbrev cX12_feed : ByteArray := prog_14_method_6_code
def yX12_feed : MethodName := ⟨RX12, "feed", "(IIIII)I"⟩
abbrev cX12_four : ByteArray := prog_14_method_7_code
def yX12_four : MethodName := ⟨RX12, "four", "(I)V"⟩
abbrev cX12_end : ByteArray := prog_14_method_8_code
def yX12_end : MethodName := ⟨RX12, "end", "(I)I"⟩
abbrev cX12_here : ByteArray := prog_14_method_9_code
def yX12_here : MethodName := ⟨RX12, "here", "(I)I"⟩
abbrev cX12_isLetter : ByteArray := prog_14_method_10_code
def yX12_isLetter : MethodName := ⟨RX12, "isLetter", "(I)Z"⟩
abbrev cX12_isDigit : ByteArray := prog_14_method_11_code
def yX12_isDigit : MethodName := ⟨RX12, "isDigit", "(I)Z"⟩
abbrev cX12_goOn : ByteArray := prog_14_method_12_code
def yX12_goOn : MethodName := ⟨RX12, "goOn", "()V"⟩
abbrev cX12_wrong : ByteArray := prog_14_method_13_code
def yX12_wrong : MethodName := ⟨RX12, "wrong", "(I)V"⟩
abbrev cX12_isGood : ByteArray := prog_14_method_14_code
def yX12_isGood : MethodName := ⟨RX12, "isGood", "()Z"⟩
abbrev cX12_isWord : ByteArray := prog_14_method_17_code
def yX12_isWord : MethodName := ⟨RX12, "isWord", "(J)Z"⟩
abbrev cX12_must : ByteArray := prog_14_method_18_code
def yX12_must : MethodName := ⟨RX12, "must", "(I)V"⟩
abbrev cX12_number : ByteArray := prog_14_method_19_code
def yX12_number : MethodName := ⟨RX12, "number", "(II)I"⟩
abbrev cX12_plainly : ByteArray := prog_14_method_20_code
def yX12_plainly : MethodName := ⟨RX12, "plainly", "()V"⟩
abbrev cX12_soundsHere : ByteArray := prog_14_method_21_code
def yX12_soundsHere : MethodName := ⟨RX12, "soundsHere", "(I)V"⟩
abbrev cX12_soundLine : ByteArray := prog_14_method_22_code
def yX12_soundLine : MethodName := ⟨RX12, "soundLine", "()V"⟩
abbrev cX12_openLine : ByteArray := prog_14_method_23_code
def yX12_openLine : MethodName := ⟨RX12, "openLine", "()V"⟩
abbrev cX12_glideLine : ByteArray := prog_14_method_24_code
def yX12_glideLine : MethodName := ⟨RX12, "glideLine", "()V"⟩
abbrev cX12_once : ByteArray := prog_14_method_25_code
def yX12_once : MethodName := ⟨RX12, "once", "(I)V"⟩
abbrev cX12_costLine : ByteArray := prog_14_method_26_code
def yX12_costLine : MethodName := ⟨RX12, "costLine", "()V"⟩
abbrev cX12_closeLine : ByteArray := prog_14_method_27_code
def yX12_closeLine : MethodName := ⟨RX12, "closeLine", "()V"⟩
abbrev cX12_weighLine : ByteArray := prog_14_method_28_code
def yX12_weighLine : MethodName := ⟨RX12, "weighLine", "()V"⟩
abbrev cX12_stressLine : ByteArray := prog_14_method_29_code
def yX12_stressLine : MethodName := ⟨RX12, "stressLine", "()V"⟩
abbrev cX12_helpLine : ByteArray := prog_14_method_30_code
def yX12_helpLine : MethodName := ⟨RX12, "helpLine", "()V"⟩
abbrev cX12_wordLine : ByteArray := prog_14_method_31_code
def yX12_wordLine : MethodName := ⟨RX12, "wordLine", "()V"⟩
abbrev cX12_riseLine : ByteArray := prog_14_method_32_code
def yX12_riseLine : MethodName := ⟨RX12, "riseLine", "()V"⟩
abbrev cX12_moveLine : ByteArray := prog_14_method_33_code
def yX12_moveLine : MethodName := ⟨RX12, "moveLine", "()V"⟩
abbrev cX12_line : ByteArray := prog_14_method_34_code
def yX12_line : MethodName := ⟨RX12, "line", "()V"⟩
abbrev cX12_begins : ByteArray := prog_14_method_35_code
def yX12_begins : MethodName := ⟨RX12, "begins", "()V"⟩
abbrev cX12_law : ByteArray := prog_14_method_36_code
def yX12_law : MethodName := ⟨RX12, "law", "()I"⟩
abbrev cX12_takes : ByteArray := prog_14_method_37_code
def yX12_takes : MethodName := ⟨RX12, "takes", "()V"⟩
abbrev cX12_say : ByteArray := prog_14_method_38_code
def yX12_say : MethodName := ⟨RX12, "say", "()I"⟩
abbrev cX12_fault : ByteArray := prog_14_method_39_code
def yX12_fault : MethodName := ⟨RX12, "fault", "(I)I"⟩
abbrev cX12_act : ByteArray := prog_14_method_40_code
def yX12_act : MethodName := ⟨RX12, "act", "()V"⟩
abbrev cX12_undo : ByteArray := prog_14_method_41_code
def yX12_undo : MethodName := ⟨RX12, "undo", "()I"⟩
abbrev cX12_learn : ByteArray := prog_14_method_42_code
def yX12_learn : MethodName := ⟨RX12, "learn", "(I)I"⟩
abbrev cX12_forget : ByteArray := prog_14_method_43_code
def yX12_forget : MethodName := ⟨RX12, "forget", "(I)I"⟩
abbrev cX12_cost : ByteArray := prog_14_method_44_code
def yX12_cost : MethodName := ⟨RX12, "cost", "(II)I"⟩
abbrev cX12_costOf : ByteArray := prog_14_method_45_code
def yX12_costOf : MethodName := ⟨RX12, "costOf", "(I)I"⟩
abbrev cX12_isThere : ByteArray := prog_14_method_46_code
def yX12_isThere : MethodName := ⟨RX12, "isThere", "(I)Z"⟩
abbrev cX12_isSaid : ByteArray := prog_14_method_47_code
def yX12_isSaid : MethodName := ⟨RX12, "isSaid", "(I)Z"⟩
abbrev cX12_longOf : ByteArray := prog_14_method_48_code
def yX12_longOf : MethodName := ⟨RX12, "longOf", "(I)I"⟩
abbrev cX12_soundAt : ByteArray := prog_14_method_49_code
def yX12_soundAt : MethodName := ⟨RX12, "soundAt", "(II)I"⟩
abbrev cX12_at : ByteArray := prog_14_method_50_code
def yX12_at : MethodName := ⟨RX12, "at", "(II)I"⟩
abbrev cX12_sound : ByteArray := prog_14_method_51_code
def yX12_sound : MethodName := ⟨RX12, "sound", "(II)I"⟩
abbrev cX12_isPeak : ByteArray := prog_14_method_52_code
def yX12_isPeak : MethodName := ⟨RX12, "isPeak", "(I)Z"⟩
abbrev cX12_areOne : ByteArray := prog_14_method_53_code
def yX12_areOne : MethodName := ⟨RX12, "areOne", "(II)Z"⟩
abbrev cX12_looksAt : ByteArray := prog_14_method_54_code
def yX12_looksAt : MethodName := ⟨RX12, "looksAt", "(I)V"⟩
abbrev cX12_laysHearts : ByteArray := prog_14_method_55_code
def yX12_laysHearts : MethodName := ⟨RX12, "laysHearts", "()V"⟩
abbrev cX12_endOf : ByteArray := prog_14_method_56_code
def yX12_endOf : MethodName := ⟨RX12, "endOf", "(I)I"⟩
abbrev cX12_gap : ByteArray := prog_14_method_57_code
def yX12_gap : MethodName := ⟨RX12, "gap", "(I)I"⟩
abbrev cX12_isRising : ByteArray := prog_14_method_58_code
def yX12_isRising : MethodName := ⟨RX12, "isRising", "([III)Z"⟩
abbrev cX12_isTold : ByteArray := prog_14_method_59_code
def yX12_isTold : MethodName := ⟨RX12, "isTold", "([III)Z"⟩
abbrev cX12_aheadOf : ByteArray := prog_14_method_60_code
def yX12_aheadOf : MethodName := ⟨RX12, "aheadOf", "(I)I"⟩
abbrev cX12_isLearnt : ByteArray := prog_14_method_61_code
def yX12_isLearnt : MethodName := ⟨RX12, "isLearnt", "([III)Z"⟩
abbrev cX12_openingKind : ByteArray := prog_14_method_62_code
def yX12_openingKind : MethodName := ⟨RX12, "openingKind", "([III)I"⟩
abbrev cX12_isClosing : ByteArray := prog_14_method_63_code
def yX12_isClosing : MethodName := ⟨RX12, "isClosing", "([III)Z"⟩
abbrev cX12_opening : ByteArray := prog_14_method_64_code
def yX12_opening : MethodName := ⟨RX12, "opening", "(IIII)I"⟩
abbrev cX12_cutsPlainly : ByteArray := prog_14_method_65_code
def yX12_cutsPlainly : MethodName := ⟨RX12, "cutsPlainly", "()V"⟩
abbrev cX12_openingFrom : ByteArray := prog_14_method_66_code
def yX12_openingFrom : MethodName := ⟨RX12, "openingFrom", "(I)I"⟩
abbrev cX12_openingSize : ByteArray := prog_14_method_67_code
def yX12_openingSize : MethodName := ⟨RX12, "openingSize", "(I)I"⟩
abbrev cX12_closingSize : ByteArray := prog_14_method_68_code
def yX12_closingSize : MethodName := ⟨RX12, "closingSize", "(I)I"⟩
abbrev cX12_weightOf : ByteArray := prog_14_method_69_code
def yX12_weightOf : MethodName := ⟨RX12, "weightOf", "(I)I"⟩
abbrev cX12_isHeavy : ByteArray := prog_14_method_70_code
def yX12_isHeavy : MethodName := ⟨RX12, "isHeavy", "(I)Z"⟩
abbrev cX12_costBy : ByteArray := prog_14_method_71_code
def yX12_costBy : MethodName := ⟨RX12, "costBy", "(IIIZ)I"⟩
abbrev cX12_costAt : ByteArray := prog_14_method_72_code
def yX12_costAt : MethodName := ⟨RX12, "costAt", "(I)I"⟩
abbrev cX12_costAll : ByteArray := prog_14_method_73_code
def yX12_costAll : MethodName := ⟨RX12, "costAll", "()I"⟩
abbrev cX12_firstCut : ByteArray := prog_14_method_74_code
def yX12_firstCut : MethodName := ⟨RX12, "firstCut", "()V"⟩
abbrev cX12_nextCut : ByteArray := prog_14_method_75_code
def yX12_nextCut : MethodName := ⟨RX12, "nextCut", "()Z"⟩
abbrev cX12_ways : ByteArray := prog_14_method_76_code
def yX12_ways : MethodName := ⟨RX12, "ways", "()I"⟩
abbrev cX12_cutsCheaply : ByteArray := prog_14_method_77_code
def yX12_cutsCheaply : MethodName := ⟨RX12, "cutsCheaply", "()I"⟩
abbrev cX12_cutsUpTo : ByteArray := prog_14_method_78_code
def yX12_cutsUpTo : MethodName := ⟨RX12, "cutsUpTo", "(I)I"⟩
abbrev cX12_stress : ByteArray := prog_14_method_79_code
def yX12_stress : MethodName := ⟨RX12, "stress", "()I"⟩
abbrev cX12_word : ByteArray := prog_14_method_80_code
def yX12_word : MethodName := ⟨RX12, "word", "(II)I"⟩
abbrev cX12_hills : ByteArray := prog_14_method_81_code
def yX12_hills : MethodName := ⟨RX12, "hills", "(I)I"⟩
abbrev cX12_within : ByteArray := prog_14_method_82_code
def yX12_within : MethodName := ⟨RX12, "within", "(II)I"⟩
abbrev cX12_judge : ByteArray := prog_14_method_83_code
def yX12_judge : MethodName := ⟨RX12, "judge", "(IJI)I"⟩
abbrev cX12_over : ByteArray := prog_14_method_84_code
def yX12_over : MethodName := ⟨RX12, "over", "(I)I"⟩
abbrev cX12_joins : ByteArray := prog_14_method_85_code
def yX12_joins : MethodName := ⟨RX12, "joins", "(I)I"⟩
abbrev cX12_joinedAt : ByteArray := prog_14_method_86_code
def yX12_joinedAt : MethodName := ⟨RX12, "joinedAt", "(IIIII)I"⟩
abbrev cX12_syllable : ByteArray := prog_14_method_87_code
def yX12_syllable : MethodName := ⟨RX12, "syllable", "(IIII)I"⟩
abbrev cX12_speech : ByteArray := prog_14_method_88_code
def yX12_speech : MethodName := ⟨RX12, "speech", "(I)I"⟩
abbrev cX12_rhyme : ByteArray := prog_14_method_89_code
def yX12_rhyme : MethodName := ⟨RX12, "rhyme", "(II)I"⟩
abbrev cX12_isMendedBy : ByteArray := prog_14_method_90_code
def yX12_isMendedBy : MethodName := ⟨RX12, "isMendedBy", "(II)Z"⟩
abbrev cX12_ones : ByteArray := prog_14_method_91_code
def yX12_ones : MethodName := ⟨RX12, "ones", "(I)I"⟩
abbrev cX12_mendedBy : ByteArray := prog_14_method_92_code
def yX12_mendedBy : MethodName := ⟨RX12, "mendedBy", "(I)I"⟩
abbrev cX12_mend : ByteArray := prog_14_method_93_code
def yX12_mend : MethodName := ⟨RX12, "mend", "(II)I"⟩
abbrev cX12_unlike : ByteArray := prog_14_method_94_code
def yX12_unlike : MethodName := ⟨RX12, "unlike", "(II)I"⟩
abbrev cX12_farOf : ByteArray := prog_14_method_95_code
def yX12_farOf : MethodName := ⟨RX12, "farOf", "(II)I"⟩
abbrev cX12_far : ByteArray := prog_14_method_96_code
def yX12_far : MethodName := ⟨RX12, "far", "(II)I"⟩
abbrev cX12_nearest : ByteArray := prog_14_method_97_code
def yX12_nearest : MethodName := ⟨RX12, "nearest", "(I)I"⟩
abbrev cX12_areAlike : ByteArray := prog_14_method_98_code
def yX12_areAlike : MethodName := ⟨RX12, "areAlike", "(II)Z"⟩
abbrev cX12_isPart : ByteArray := prog_14_method_99_code
def yX12_isPart : MethodName := ⟨RX12, "isPart", "(III)Z"⟩
abbrev cX12_parts : ByteArray := prog_14_method_100_code
def yX12_parts : MethodName := ⟨RX12, "parts", "(I)I"⟩
abbrev cX12_syllablesSaid : ByteArray := prog_14_method_101_code
def yX12_syllablesSaid : MethodName := ⟨RX12, "syllablesSaid", "()I"⟩
abbrev cX12_misfitsBy : ByteArray := prog_14_method_102_code
def yX12_misfitsBy : MethodName := ⟨RX12, "misfitsBy", "(II)I"⟩
abbrev cX12_misfits : ByteArray := prog_14_method_103_code
def yX12_misfits : MethodName := ⟨RX12, "misfits", "(II)I"⟩
abbrev cX12_beat : ByteArray := prog_14_method_104_code
def yX12_beat : MethodName := ⟨RX12, "beat", "(I)I"⟩
abbrev cX12_slopes : ByteArray := prog_14_method_105_code
def yX12_slopes : MethodName := ⟨RX12, "slopes", "(IZ)J"⟩
abbrev cX12_isOpeningLearnt : ByteArray := prog_14_method_106_code
def yX12_isOpeningLearnt : MethodName := ⟨RX12, "isOpeningLearnt", "(I)Z"⟩
abbrev cX12_openingsOf : ByteArray := prog_14_method_107_code
def yX12_openingsOf : MethodName := ⟨RX12, "openingsOf", "(I)J"⟩
abbrev cX12_possible : ByteArray := prog_14_method_108_code
def yX12_possible : MethodName := ⟨RX12, "possible", "(I)I"⟩
abbrev cX12_forgets : ByteArray := prog_14_method_109_code
def yX12_forgets : MethodName := ⟨RX12, "forgets", "()V"⟩
abbrev cX12_counts : ByteArray := prog_14_method_110_code
def yX12_counts : MethodName := ⟨RX12, "counts", "(IIII)V"⟩
abbrev cX12_isRow : ByteArray := prog_14_method_111_code
def yX12_isRow : MethodName := ⟨RX12, "isRow", "(IIII)Z"⟩
abbrev cX12_tallies : ByteArray := prog_14_method_112_code
def yX12_tallies : MethodName := ⟨RX12, "tallies", "()V"⟩
abbrev cX12_tally : ByteArray := prog_14_method_113_code
def yX12_tally : MethodName := ⟨RX12, "tally", "(III)I"⟩
abbrev cX12_tallied : ByteArray := prog_14_method_114_code
def yX12_tallied : MethodName := ⟨RX12, "tallied", "()I"⟩
abbrev cX12_makes : ByteArray := prog_14_method_115_code
def yX12_makes : MethodName := ⟨RX12, "makes", "(II)V"⟩
abbrev cX12_made : ByteArray := prog_14_method_116_code
def yX12_made : MethodName := ⟨RX12, "made", "(III)I"⟩
abbrev cX12_about : ByteArray := prog_14_method_117_code
def yX12_about : MethodName := ⟨RX12, "about", "(I)I"⟩
def RJ9 : String := "java/lang/Math"
def TJ9 : u_T := fun k => match k with
  | _ => ("", "", "", false)
def tyJ9 : Nat → FieldType := fun k => match k with
  | _ => .int
abbrev wsJ90 : List Cond := u_ws RJ9 TJ9 0
theorem nmJ9 : ∀ a, a < 0 → ∀ b, b < 0 → a ≠ b → (TJ9 a).2.1 ≠ (TJ9 b).2.1 := by decide +kernel
theorem tyJ9_ok : ∀ k, k < 0 → parseFieldDescriptor (TJ9 k).2.2.1 = some (tyJ9 k) := by decide +kernel
abbrev cJ9_abs_0f7a4 : ByteArray := prog_15_method_59_code
def yJ9_abs_0f7a4 : MethodName := ⟨RJ9, "abs", "(I)I"⟩
abbrev cJ9_max_7cf53 : ByteArray := prog_15_method_65_code
def yJ9_max_7cf53 : MethodName := ⟨RJ9, "max", "(II)I"⟩
abbrev cJ9_min_7cf53 : ByteArray := prog_15_method_69_code
def yJ9_min_7cf53 : MethodName := ⟨RJ9, "min", "(II)I"⟩
def RJ0 : String := "java/lang/String"
def TJ0 : u_T := fun k => match k with
  | _ => ("", "", "", false)
def tyJ0 : Nat → FieldType := fun k => match k with
  | _ => .int
abbrev wsJ00 : List Cond := u_ws RJ0 TJ0 0
theorem nmJ0 : ∀ a, a < 0 → ∀ b, b < 0 → a ≠ b → (TJ0 a).2.1 ≠ (TJ0 b).2.1 := by decide +kernel
theorem tyJ0_ok : ∀ k, k < 0 → parseFieldDescriptor (TJ0 k).2.2.1 = some (tyJ0 k) := by decide +kernel
abbrev cJ0_length_8abf5 : ByteArray := prog_16_method_54_code
def yJ0_length_8abf5 : MethodName := ⟨RJ0, "length", "()I"⟩
abbrev cJ0_charAt_5068e : ByteArray := prog_16_method_56_code
def yJ0_charAt_5068e : MethodName := ⟨RJ0, "charAt", "(I)C"⟩
abbrev cJ0_coder_7d493 : ByteArray := prog_16_method_152_code
def yJ0_coder_7d493 : MethodName := ⟨RJ0, "coder", "()B"⟩
abbrev cJ0_isLatin1_aae02 : ByteArray := prog_16_method_154_code
def yJ0_isLatin1_aae02 : MethodName := ⟨RJ0, "isLatin1", "()Z"⟩
abbrev cJ0_checkIndex_df160 : ByteArray := prog_16_method_155_code
def yJ0_checkIndex_df160 : MethodName := ⟨RJ0, "checkIndex", "(II)V"⟩
def RJ1 : String := "java/lang/StringLatin1"
def TJ1 : u_T := fun k => match k with
  | _ => ("", "", "", false)
def tyJ1 : Nat → FieldType := fun k => match k with
  | _ => .int
abbrev wsJ10 : List Cond := u_ws RJ1 TJ1 0
theorem nmJ1 : ∀ a, a < 0 → ∀ b, b < 0 → a ≠ b → (TJ1 a).2.1 ≠ (TJ1 b).2.1 := by decide +kernel
theorem tyJ1_ok : ∀ k, k < 0 → parseFieldDescriptor (TJ1 k).2.2.1 = some (tyJ1 k) := by decide +kernel
abbrev cJ1_charAt_3b067 : ByteArray := prog_17_method_2_code
def yJ1_charAt_3b067 : MethodName := ⟨RJ1, "charAt", "([BI)C"⟩
def RJ2 : String := "java/lang/StringUTF16"
def TJ2 : u_T := fun k => match k with
  | _ => ("", "", "", false)
def tyJ2 : Nat → FieldType := fun k => match k with
  | _ => .int
abbrev wsJ20 : List Cond := u_ws RJ2 TJ2 0
theorem nmJ2 : ∀ a, a < 0 → ∀ b, b < 0 → a ≠ b → (TJ2 a).2.1 ≠ (TJ2 b).2.1 := by decide +kernel
theorem tyJ2_ok : ∀ k, k < 0 → parseFieldDescriptor (TJ2 k).2.2.1 = some (tyJ2 k) := by decide +kernel
abbrev cJ2_getChar_3b067 : ByteArray := prog_18_method_5_code
def yJ2_getChar_3b067 : MethodName := ⟨RJ2, "getChar", "([BI)C"⟩
abbrev cJ2_length_9d52b : ByteArray := prog_18_method_6_code
def yJ2_length_9d52b : MethodName := ⟨RJ2, "length", "([B)I"⟩
abbrev cJ2_charAt_3b067 : ByteArray := prog_18_method_83_code
def yJ2_charAt_3b067 : MethodName := ⟨RJ2, "charAt", "([BI)C"⟩
abbrev cJ2_checkIndex_2214a : ByteArray := prog_18_method_91_code
def yJ2_checkIndex_2214a : MethodName := ⟨RJ2, "checkIndex", "(I[B)V"⟩
def RJ10 : String := "java/lang/System"
def TJ10 : u_T := fun k => match k with
  | _ => ("", "", "", false)
def tyJ10 : Nat → FieldType := fun k => match k with
  | _ => .int
abbrev wsJ100 : List Cond := u_ws RJ10 TJ10 0
theorem nmJ10 : ∀ a, a < 0 → ∀ b, b < 0 → a ≠ b → (TJ10 a).2.1 ≠ (TJ10 b).2.1 := by decide +kernel
theorem tyJ10_ok : ∀ k, k < 0 → parseFieldDescriptor (TJ10 k).2.2.1 = some (tyJ10 k) := by decide +kernel
def RJ3 : String := "jdk/internal/util/Preconditions"
def TJ3 : u_T := fun k => match k with
  | _ => ("", "", "", false)
def tyJ3 : Nat → FieldType := fun k => match k with
  | _ => .int
abbrev wsJ30 : List Cond := u_ws RJ3 TJ3 0
theorem nmJ3 : ∀ a, a < 0 → ∀ b, b < 0 → a ≠ b → (TJ3 a).2.1 ≠ (TJ3 b).2.1 := by decide +kernel
theorem tyJ3_ok : ∀ k, k < 0 → parseFieldDescriptor (TJ3 k).2.2.1 = some (tyJ3 k) := by decide +kernel
abbrev cJ3_checkIndex_8e157 : ByteArray := prog_20_method_11_code
def yJ3_checkIndex_8e157 : MethodName := ⟨RJ3, "checkIndex", "(IILjava/util/function/BiFunction;)I"⟩
def RL : String := "SyllableMakerLaw"
abbrev cL_law : ByteArray := code
def yL_law : MethodName := ⟨RL, "law", "([I)Z"⟩
abbrev vwCl : List vw_C := [(RX0, TX0, 5), (RX1, TX1, 10), (RX2, TX2, 18), (RX3, TX3, 3), (RX4, TX4, 5), (RX5, TX5, 3), (RX6, TX6, 7), (RX7, TX7, 3), (RX8, TX8, 5), (RX9, TX9, 7), (RX10, TX10, 3), (RX11, TX11, 9), (RX12, TX12, 88)]
