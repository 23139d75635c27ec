section
-- ===== PART A: goes FIRST, ahead of the names: the tables' words, and 'selects' of the private methods out of them =====
/-- a private method of a class that the tables say can be made, by its rows of tables_1 -/
def lw_okq (q : MethodName × Nat) : Prop := (q.1.cls ≠ "java/lang/invoke/MethodHandle" ∧ q.1.cls ≠ "java/lang/invoke/VarHandle") ∧ Cond.instantiable q.1.cls q.2 ∈ tables_1 ∧ Cond.privateMethod q.1 ∈ tables_1 ∧ Cond.instanceMethod q.1 ∈ tables_1
theorem lw_p0 : lw_okq (⟨"MobileMaker", "trayAt", "(I)LMobileMaker$Tray;"⟩, 13) := ⟨⟨by decide +kernel, by decide +kernel⟩, List.mem_of_getElem? (i := 23) (by decide +kernel), List.mem_of_getElem? (i := 265) (by decide +kernel), List.mem_of_getElem? (i := 266) (by decide +kernel)⟩
theorem lw_p1 : lw_okq (⟨"MobileMaker", "refuses", "(I)Z"⟩, 13) := ⟨⟨by decide +kernel, by decide +kernel⟩, List.mem_of_getElem? (i := 23) (by decide +kernel), List.mem_of_getElem? (i := 269) (by decide +kernel), List.mem_of_getElem? (i := 270) (by decide +kernel)⟩
theorem lw_p2 : lw_okq (⟨"MobileMaker", "allows", "()Z"⟩, 13) := ⟨⟨by decide +kernel, by decide +kernel⟩, List.mem_of_getElem? (i := 23) (by decide +kernel), List.mem_of_getElem? (i := 280) (by decide +kernel), List.mem_of_getElem? (i := 281) (by decide +kernel)⟩
theorem lw_p3 : lw_okq (⟨"MobileMaker", "newWeight", "(J)I"⟩, 13) := ⟨⟨by decide +kernel, by decide +kernel⟩, List.mem_of_getElem? (i := 23) (by decide +kernel), List.mem_of_getElem? (i := 329) (by decide +kernel), List.mem_of_getElem? (i := 330) (by decide +kernel)⟩
theorem lw_p4 : lw_okq (⟨"MobileMaker", "none", "(I)I"⟩, 13) := ⟨⟨by decide +kernel, by decide +kernel⟩, List.mem_of_getElem? (i := 23) (by decide +kernel), List.mem_of_getElem? (i := 334) (by decide +kernel), List.mem_of_getElem? (i := 335) (by decide +kernel)⟩
theorem lw_p5 : lw_okq (⟨"MobileMaker", "added", "(LMobileMaker$Part;)I"⟩, 13) := ⟨⟨by decide +kernel, by decide +kernel⟩, List.mem_of_getElem? (i := 23) (by decide +kernel), List.mem_of_getElem? (i := 429) (by decide +kernel), List.mem_of_getElem? (i := 430) (by decide +kernel)⟩
theorem lw_p6 : lw_okq (⟨"MobileMaker$Ring", "foldsBackAfter", "(I)Z"⟩, 3) := ⟨⟨by decide +kernel, by decide +kernel⟩, List.mem_of_getElem? (i := 54) (by decide +kernel), List.mem_of_getElem? (i := 513) (by decide +kernel), List.mem_of_getElem? (i := 514) (by decide +kernel)⟩
theorem lw_p7 : lw_okq (⟨"MobileMaker$Ring", "next", "(I)I"⟩, 3) := ⟨⟨by decide +kernel, by decide +kernel⟩, List.mem_of_getElem? (i := 54) (by decide +kernel), List.mem_of_getElem? (i := 517) (by decide +kernel), List.mem_of_getElem? (i := 518) (by decide +kernel)⟩
theorem lw_p8 : lw_okq (⟨"MobileMaker$Ring", "turn", "(III)I"⟩, 3) := ⟨⟨by decide +kernel, by decide +kernel⟩, List.mem_of_getElem? (i := 54) (by decide +kernel), List.mem_of_getElem? (i := 521) (by decide +kernel), List.mem_of_getElem? (i := 522) (by decide +kernel)⟩
theorem lw_p9 : lw_okq (⟨"MobileMaker$Ring", "doSidesMeet", "(II)Z"⟩, 3) := ⟨⟨by decide +kernel, by decide +kernel⟩, List.mem_of_getElem? (i := 54) (by decide +kernel), List.mem_of_getElem? (i := 528) (by decide +kernel), List.mem_of_getElem? (i := 529) (by decide +kernel)⟩
theorem lw_p10 : lw_okq (⟨"MobileMaker$Ring", "isInBox", "(III)Z"⟩, 3) := ⟨⟨by decide +kernel, by decide +kernel⟩, List.mem_of_getElem? (i := 54) (by decide +kernel), List.mem_of_getElem? (i := 532) (by decide +kernel), List.mem_of_getElem? (i := 533) (by decide +kernel)⟩
theorem lw_p11 : lw_okq (⟨"MobileMaker$Ring", "signedTwiceArea", "()I"⟩, 3) := ⟨⟨by decide +kernel, by decide +kernel⟩, List.mem_of_getElem? (i := 54) (by decide +kernel), List.mem_of_getElem? (i := 548) (by decide +kernel), List.mem_of_getElem? (i := 549) (by decide +kernel)⟩
theorem lw_p12 : lw_okq (⟨"MobileMaker$Ring", "crossAfter", "(I)I"⟩, 3) := ⟨⟨by decide +kernel, by decide +kernel⟩, List.mem_of_getElem? (i := 54) (by decide +kernel), List.mem_of_getElem? (i := 552) (by decide +kernel), List.mem_of_getElem? (i := 553) (by decide +kernel)⟩
theorem lw_p13 : lw_okq (⟨"MobileMaker", "partAt", "(I)LMobileMaker$Part;"⟩, 13) := ⟨⟨by decide +kernel, by decide +kernel⟩, List.mem_of_getElem? (i := 23) (by decide +kernel), List.mem_of_getElem? (i := 598) (by decide +kernel), List.mem_of_getElem? (i := 599) (by decide +kernel)⟩
theorem lw_p14 : lw_okq (⟨"MobileMaker", "rodGiven", "(I)LMobileMaker$Rod;"⟩, 13) := ⟨⟨by decide +kernel, by decide +kernel⟩, List.mem_of_getElem? (i := 23) (by decide +kernel), List.mem_of_getElem? (i := 615) (by decide +kernel), List.mem_of_getElem? (i := 616) (by decide +kernel)⟩
theorem lw_p15 : lw_okq (⟨"MobileMaker$Mobile", "add", "(LMobileMaker$Part;IJ)V"⟩, 3) := ⟨⟨by decide +kernel, by decide +kernel⟩, List.mem_of_getElem? (i := 35) (by decide +kernel), List.mem_of_getElem? (i := 684) (by decide +kernel), List.mem_of_getElem? (i := 685) (by decide +kernel)⟩
def lw_privs_1 : List (MethodName × Nat) := [(⟨"MobileMaker", "trayAt", "(I)LMobileMaker$Tray;"⟩, 13), (⟨"MobileMaker", "refuses", "(I)Z"⟩, 13), (⟨"MobileMaker", "allows", "()Z"⟩, 13), (⟨"MobileMaker", "newWeight", "(J)I"⟩, 13), (⟨"MobileMaker", "none", "(I)I"⟩, 13), (⟨"MobileMaker", "added", "(LMobileMaker$Part;)I"⟩, 13), (⟨"MobileMaker$Ring", "foldsBackAfter", "(I)Z"⟩, 3), (⟨"MobileMaker$Ring", "next", "(I)I"⟩, 3), (⟨"MobileMaker$Ring", "turn", "(III)I"⟩, 3), (⟨"MobileMaker$Ring", "doSidesMeet", "(II)Z"⟩, 3), (⟨"MobileMaker$Ring", "isInBox", "(III)Z"⟩, 3), (⟨"MobileMaker$Ring", "signedTwiceArea", "()I"⟩, 3), (⟨"MobileMaker$Ring", "crossAfter", "(I)I"⟩, 3), (⟨"MobileMaker", "partAt", "(I)LMobileMaker$Part;"⟩, 13), (⟨"MobileMaker", "rodGiven", "(I)LMobileMaker$Rod;"⟩, 13), (⟨"MobileMaker$Mobile", "add", "(LMobileMaker$Part;IJ)V"⟩, 3)]
theorem lw_r1 : ∀ q ∈ lw_privs_1, lw_okq q := List.forall_mem_cons.mpr ⟨lw_p0, List.forall_mem_cons.mpr ⟨lw_p1, List.forall_mem_cons.mpr ⟨lw_p2, List.forall_mem_cons.mpr ⟨lw_p3, List.forall_mem_cons.mpr ⟨lw_p4, List.forall_mem_cons.mpr ⟨lw_p5, List.forall_mem_cons.mpr ⟨lw_p6, List.forall_mem_cons.mpr ⟨lw_p7, List.forall_mem_cons.mpr ⟨lw_p8, List.forall_mem_cons.mpr ⟨lw_p9, List.forall_mem_cons.mpr ⟨lw_p10, List.forall_mem_cons.mpr ⟨lw_p11, List.forall_mem_cons.mpr ⟨lw_p12, List.forall_mem_cons.mpr ⟨lw_p13, List.forall_mem_cons.mpr ⟨lw_p14, List.forall_mem_cons.mpr ⟨lw_p15, fun _ h => absurd h List.not_mem_nil⟩⟩⟩⟩⟩⟩⟩⟩⟩⟩⟩⟩⟩⟩⟩⟩
theorem lw_p16 : lw_okq (⟨"MobileMaker", "topGiven", "(I)LMobileMaker$Part;"⟩, 13) := ⟨⟨by decide +kernel, by decide +kernel⟩, List.mem_of_getElem? (i := 23) (by decide +kernel), List.mem_of_getElem? (i := 712) (by decide +kernel), List.mem_of_getElem? (i := 713) (by decide +kernel)⟩
theorem lw_p17 : lw_okq (⟨"MobileMaker$Rod", "upperShare", "()J"⟩, 16) := ⟨⟨by decide +kernel, by decide +kernel⟩, List.mem_of_getElem? (i := 441) (by decide +kernel), List.mem_of_getElem? (i := 729) (by decide +kernel), List.mem_of_getElem? (i := 730) (by decide +kernel)⟩
theorem lw_p18 : lw_okq (⟨"MobileMaker$Rod", "lowerShare", "()J"⟩, 16) := ⟨⟨by decide +kernel, by decide +kernel⟩, List.mem_of_getElem? (i := 441) (by decide +kernel), List.mem_of_getElem? (i := 733) (by decide +kernel), List.mem_of_getElem? (i := 734) (by decide +kernel)⟩
theorem lw_p19 : lw_okq (⟨"MobileMaker", "canTouch", "(LMobileMaker$Rod;)Z"⟩, 13) := ⟨⟨by decide +kernel, by decide +kernel⟩, List.mem_of_getElem? (i := 23) (by decide +kernel), List.mem_of_getElem? (i := 805) (by decide +kernel), List.mem_of_getElem? (i := 806) (by decide +kernel)⟩
theorem lw_p20 : lw_okq (⟨"MobileMaker", "wholeTopStatus", "(I)I"⟩, 13) := ⟨⟨by decide +kernel, by decide +kernel⟩, List.mem_of_getElem? (i := 23) (by decide +kernel), List.mem_of_getElem? (i := 813) (by decide +kernel), List.mem_of_getElem? (i := 814) (by decide +kernel)⟩
theorem lw_p21 : lw_okq (⟨"MobileMaker", "canMeet", "(LMobileMaker$Part;LMobileMaker$Part;I)Z"⟩, 13) := ⟨⟨by decide +kernel, by decide +kernel⟩, List.mem_of_getElem? (i := 23) (by decide +kernel), List.mem_of_getElem? (i := 822) (by decide +kernel), List.mem_of_getElem? (i := 823) (by decide +kernel)⟩
theorem lw_p22 : lw_okq (⟨"MobileMaker", "prepareClearing", "()V"⟩, 13) := ⟨⟨by decide +kernel, by decide +kernel⟩, List.mem_of_getElem? (i := 23) (by decide +kernel), List.mem_of_getElem? (i := 831) (by decide +kernel), List.mem_of_getElem? (i := 832) (by decide +kernel)⟩
theorem lw_p23 : lw_okq (⟨"MobileMaker$Clearing", "lengthen", "(II)I"⟩, 11) := ⟨⟨by decide +kernel, by decide +kernel⟩, List.mem_of_getElem? (i := 89) (by decide +kernel), List.mem_of_getElem? (i := 856) (by decide +kernel), List.mem_of_getElem? (i := 857) (by decide +kernel)⟩
theorem lw_p24 : lw_okq (⟨"MobileMaker$Clearing", "look", "()I"⟩, 11) := ⟨⟨by decide +kernel, by decide +kernel⟩, List.mem_of_getElem? (i := 89) (by decide +kernel), List.mem_of_getElem? (i := 860) (by decide +kernel), List.mem_of_getElem? (i := 861) (by decide +kernel)⟩
theorem lw_p25 : lw_okq (⟨"MobileMaker$Clearing", "doMeet", "(I)Z"⟩, 11) := ⟨⟨by decide +kernel, by decide +kernel⟩, List.mem_of_getElem? (i := 89) (by decide +kernel), List.mem_of_getElem? (i := 864) (by decide +kernel), List.mem_of_getElem? (i := 865) (by decide +kernel)⟩
theorem lw_p26 : lw_okq (⟨"MobileMaker", "givenStatus", "(II)I"⟩, 13) := ⟨⟨by decide +kernel, by decide +kernel⟩, List.mem_of_getElem? (i := 23) (by decide +kernel), List.mem_of_getElem? (i := 877) (by decide +kernel), List.mem_of_getElem? (i := 878) (by decide +kernel)⟩
theorem lw_p27 : lw_okq (⟨"MobileMaker", "shapeStatus", "(LMobileMaker$Part;LMobileMaker$Tray;)I"⟩, 13) := ⟨⟨by decide +kernel, by decide +kernel⟩, List.mem_of_getElem? (i := 23) (by decide +kernel), List.mem_of_getElem? (i := 881) (by decide +kernel), List.mem_of_getElem? (i := 882) (by decide +kernel)⟩
theorem lw_p28 : lw_okq (⟨"MobileMaker", "waysFound", "(LMobileMaker$Part;LMobileMaker$Tray;)I"⟩, 13) := ⟨⟨by decide +kernel, by decide +kernel⟩, List.mem_of_getElem? (i := 23) (by decide +kernel), List.mem_of_getElem? (i := 897) (by decide +kernel), List.mem_of_getElem? (i := 898) (by decide +kernel)⟩
theorem lw_p29 : lw_okq (⟨"MobileMaker$Parting", "takeNumbers", "(LMobileMaker$Tray;)V"⟩, 11) := ⟨⟨by decide +kernel, by decide +kernel⟩, List.mem_of_getElem? (i := 131) (by decide +kernel), List.mem_of_getElem? (i := 905) (by decide +kernel), List.mem_of_getElem? (i := 906) (by decide +kernel)⟩
theorem lw_p30 : lw_okq (⟨"MobileMaker$Parting", "sumOfNumbers", "()I"⟩, 11) := ⟨⟨by decide +kernel, by decide +kernel⟩, List.mem_of_getElem? (i := 131) (by decide +kernel), List.mem_of_getElem? (i := 911) (by decide +kernel), List.mem_of_getElem? (i := 912) (by decide +kernel)⟩
theorem lw_p31 : lw_okq (⟨"MobileMaker$Parting", "share", "(LMobileMaker$Rod;II)V"⟩, 11) := ⟨⟨by decide +kernel, by decide +kernel⟩, List.mem_of_getElem? (i := 131) (by decide +kernel), List.mem_of_getElem? (i := 915) (by decide +kernel), List.mem_of_getElem? (i := 916) (by decide +kernel)⟩
def lw_privs_2 : List (MethodName × Nat) := [(⟨"MobileMaker", "topGiven", "(I)LMobileMaker$Part;"⟩, 13), (⟨"MobileMaker$Rod", "upperShare", "()J"⟩, 16), (⟨"MobileMaker$Rod", "lowerShare", "()J"⟩, 16), (⟨"MobileMaker", "canTouch", "(LMobileMaker$Rod;)Z"⟩, 13), (⟨"MobileMaker", "wholeTopStatus", "(I)I"⟩, 13), (⟨"MobileMaker", "canMeet", "(LMobileMaker$Part;LMobileMaker$Part;I)Z"⟩, 13), (⟨"MobileMaker", "prepareClearing", "()V"⟩, 13), (⟨"MobileMaker$Clearing", "lengthen", "(II)I"⟩, 11), (⟨"MobileMaker$Clearing", "look", "()I"⟩, 11), (⟨"MobileMaker$Clearing", "doMeet", "(I)Z"⟩, 11), (⟨"MobileMaker", "givenStatus", "(II)I"⟩, 13), (⟨"MobileMaker", "shapeStatus", "(LMobileMaker$Part;LMobileMaker$Tray;)I"⟩, 13), (⟨"MobileMaker", "waysFound", "(LMobileMaker$Part;LMobileMaker$Tray;)I"⟩, 13), (⟨"MobileMaker$Parting", "takeNumbers", "(LMobileMaker$Tray;)V"⟩, 11), (⟨"MobileMaker$Parting", "sumOfNumbers", "()I"⟩, 11), (⟨"MobileMaker$Parting", "share", "(LMobileMaker$Rod;II)V"⟩, 11)]
theorem lw_r2 : ∀ q ∈ lw_privs_2, lw_okq q := List.forall_mem_cons.mpr ⟨lw_p16, List.forall_mem_cons.mpr ⟨lw_p17, List.forall_mem_cons.mpr ⟨lw_p18, List.forall_mem_cons.mpr ⟨lw_p19, List.forall_mem_cons.mpr ⟨lw_p20, List.forall_mem_cons.mpr ⟨lw_p21, List.forall_mem_cons.mpr ⟨lw_p22, List.forall_mem_cons.mpr ⟨lw_p23, List.forall_mem_cons.mpr ⟨lw_p24, List.forall_mem_cons.mpr ⟨lw_p25, List.forall_mem_cons.mpr ⟨lw_p26, List.forall_mem_cons.mpr ⟨lw_p27, List.forall_mem_cons.mpr ⟨lw_p28, List.forall_mem_cons.mpr ⟨lw_p29, List.forall_mem_cons.mpr ⟨lw_p30, List.forall_mem_cons.mpr ⟨lw_p31, fun _ h => absurd h List.not_mem_nil⟩⟩⟩⟩⟩⟩⟩⟩⟩⟩⟩⟩⟩⟩⟩⟩
theorem lw_p32 : lw_okq (⟨"MobileMaker$Parting", "shareSide", "(LMobileMaker$Part;II)V"⟩, 11) := ⟨⟨by decide +kernel, by decide +kernel⟩, List.mem_of_getElem? (i := 131) (by decide +kernel), List.mem_of_getElem? (i := 920) (by decide +kernel), List.mem_of_getElem? (i := 921) (by decide +kernel)⟩
theorem lw_p33 : lw_okq (⟨"MobileMaker$Parting", "listSets", "()V"⟩, 11) := ⟨⟨by decide +kernel, by decide +kernel⟩, List.mem_of_getElem? (i := 131) (by decide +kernel), List.mem_of_getElem? (i := 925) (by decide +kernel), List.mem_of_getElem? (i := 926) (by decide +kernel)⟩
theorem lw_p34 : lw_okq (⟨"MobileMaker$Parting", "list", "(I)V"⟩, 11) := ⟨⟨by decide +kernel, by decide +kernel⟩, List.mem_of_getElem? (i := 131) (by decide +kernel), List.mem_of_getElem? (i := 932) (by decide +kernel), List.mem_of_getElem? (i := 933) (by decide +kernel)⟩
theorem lw_p35 : lw_okq (⟨"MobileMaker$Parting", "likeAhead", "(I)I"⟩, 11) := ⟨⟨by decide +kernel, by decide +kernel⟩, List.mem_of_getElem? (i := 131) (by decide +kernel), List.mem_of_getElem? (i := 936) (by decide +kernel), List.mem_of_getElem? (i := 937) (by decide +kernel)⟩
theorem lw_p36 : lw_okq (⟨"MobileMaker$Parting", "goOnFrom", "(I)V"⟩, 11) := ⟨⟨by decide +kernel, by decide +kernel⟩, List.mem_of_getElem? (i := 131) (by decide +kernel), List.mem_of_getElem? (i := 940) (by decide +kernel), List.mem_of_getElem? (i := 941) (by decide +kernel)⟩
theorem lw_p37 : lw_okq (⟨"MobileMaker$Parting", "extend", "(III)V"⟩, 11) := ⟨⟨by decide +kernel, by decide +kernel⟩, List.mem_of_getElem? (i := 131) (by decide +kernel), List.mem_of_getElem? (i := 944) (by decide +kernel), List.mem_of_getElem? (i := 945) (by decide +kernel)⟩
theorem lw_p38 : lw_okq (⟨"MobileMaker$Parting", "fullSet", "()I"⟩, 11) := ⟨⟨by decide +kernel, by decide +kernel⟩, List.mem_of_getElem? (i := 131) (by decide +kernel), List.mem_of_getElem? (i := 948) (by decide +kernel), List.mem_of_getElem? (i := 949) (by decide +kernel)⟩
theorem lw_p39 : lw_okq (⟨"MobileMaker", "fewestStatus", "(LMobileMaker$Part;I)I"⟩, 13) := ⟨⟨by decide +kernel, by decide +kernel⟩, List.mem_of_getElem? (i := 23) (by decide +kernel), List.mem_of_getElem? (i := 964) (by decide +kernel), List.mem_of_getElem? (i := 965) (by decide +kernel)⟩
theorem lw_p40 : lw_okq (⟨"MobileMaker", "suspectAllWeights", "()V"⟩, 13) := ⟨⟨by decide +kernel, by decide +kernel⟩, List.mem_of_getElem? (i := 23) (by decide +kernel), List.mem_of_getElem? (i := 983) (by decide +kernel), List.mem_of_getElem? (i := 984) (by decide +kernel)⟩
theorem lw_p41 : lw_okq (⟨"MobileMaker$Text", "tellPart", "(LMobileMaker$Part;)V"⟩, 5) := ⟨⟨by decide +kernel, by decide +kernel⟩, List.mem_of_getElem? (i := 173) (by decide +kernel), List.mem_of_getElem? (i := 1018) (by decide +kernel), List.mem_of_getElem? (i := 1019) (by decide +kernel)⟩
theorem lw_p42 : lw_okq (⟨"MobileMaker$Text", "put", "(C)V"⟩, 5) := ⟨⟨by decide +kernel, by decide +kernel⟩, List.mem_of_getElem? (i := 173) (by decide +kernel), List.mem_of_getElem? (i := 1023) (by decide +kernel), List.mem_of_getElem? (i := 1024) (by decide +kernel)⟩
theorem lw_p43 : lw_okq (⟨"MobileMaker$Text", "putNumber", "(I)V"⟩, 5) := ⟨⟨by decide +kernel, by decide +kernel⟩, List.mem_of_getElem? (i := 173) (by decide +kernel), List.mem_of_getElem? (i := 1027) (by decide +kernel), List.mem_of_getElem? (i := 1028) (by decide +kernel)⟩
theorem lw_p44 : lw_okq (⟨"MobileMaker$Text", "goOnWith", "(I)V"⟩, 5) := ⟨⟨by decide +kernel, by decide +kernel⟩, List.mem_of_getElem? (i := 173) (by decide +kernel), List.mem_of_getElem? (i := 1032) (by decide +kernel), List.mem_of_getElem? (i := 1033) (by decide +kernel)⟩
theorem lw_p45 : lw_okq (⟨"MobileMaker$Text", "tellSide", "(LMobileMaker$Part;)V"⟩, 5) := ⟨⟨by decide +kernel, by decide +kernel⟩, List.mem_of_getElem? (i := 173) (by decide +kernel), List.mem_of_getElem? (i := 1036) (by decide +kernel), List.mem_of_getElem? (i := 1037) (by decide +kernel)⟩
theorem lw_p46 : lw_okq (⟨"java/lang/Throwable", "fillInStackTrace", "(I)Ljava/lang/Throwable;"⟩, 6) := ⟨⟨by decide +kernel, by decide +kernel⟩, List.mem_of_getElem? (i := 1088) (by decide +kernel), List.mem_of_getElem? (i := 1086) (by decide +kernel), List.mem_of_getElem? (i := 1087) (by decide +kernel)⟩
theorem lw_p47 : lw_okq (⟨"MobileMakerModel", "no", "(I)Z"⟩, 58) := ⟨⟨by decide +kernel, by decide +kernel⟩, List.mem_of_getElem? (i := 1122) (by decide +kernel), List.mem_of_getElem? (i := 1316) (by decide +kernel), List.mem_of_getElem? (i := 1317) (by decide +kernel)⟩
def lw_privs_3 : List (MethodName × Nat) := [(⟨"MobileMaker$Parting", "shareSide", "(LMobileMaker$Part;II)V"⟩, 11), (⟨"MobileMaker$Parting", "listSets", "()V"⟩, 11), (⟨"MobileMaker$Parting", "list", "(I)V"⟩, 11), (⟨"MobileMaker$Parting", "likeAhead", "(I)I"⟩, 11), (⟨"MobileMaker$Parting", "goOnFrom", "(I)V"⟩, 11), (⟨"MobileMaker$Parting", "extend", "(III)V"⟩, 11), (⟨"MobileMaker$Parting", "fullSet", "()I"⟩, 11), (⟨"MobileMaker", "fewestStatus", "(LMobileMaker$Part;I)I"⟩, 13), (⟨"MobileMaker", "suspectAllWeights", "()V"⟩, 13), (⟨"MobileMaker$Text", "tellPart", "(LMobileMaker$Part;)V"⟩, 5), (⟨"MobileMaker$Text", "put", "(C)V"⟩, 5), (⟨"MobileMaker$Text", "putNumber", "(I)V"⟩, 5), (⟨"MobileMaker$Text", "goOnWith", "(I)V"⟩, 5), (⟨"MobileMaker$Text", "tellSide", "(LMobileMaker$Part;)V"⟩, 5), (⟨"java/lang/Throwable", "fillInStackTrace", "(I)Ljava/lang/Throwable;"⟩, 6), (⟨"MobileMakerModel", "no", "(I)Z"⟩, 58)]
theorem lw_r3 : ∀ q ∈ lw_privs_3, lw_okq q := List.forall_mem_cons.mpr ⟨lw_p32, List.forall_mem_cons.mpr ⟨lw_p33, List.forall_mem_cons.mpr ⟨lw_p34, List.forall_mem_cons.mpr ⟨lw_p35, List.forall_mem_cons.mpr ⟨lw_p36, List.forall_mem_cons.mpr ⟨lw_p37, List.forall_mem_cons.mpr ⟨lw_p38, List.forall_mem_cons.mpr ⟨lw_p39, List.forall_mem_cons.mpr ⟨lw_p40, List.forall_mem_cons.mpr ⟨lw_p41, List.forall_mem_cons.mpr ⟨lw_p42, List.forall_mem_cons.mpr ⟨lw_p43, List.forall_mem_cons.mpr ⟨lw_p44, List.forall_mem_cons.mpr ⟨lw_p45, List.forall_mem_cons.mpr ⟨lw_p46, List.forall_mem_cons.mpr ⟨lw_p47, fun _ h => absurd h List.not_mem_nil⟩⟩⟩⟩⟩⟩⟩⟩⟩⟩⟩⟩⟩⟩⟩⟩
theorem lw_p48 : lw_okq (⟨"MobileMakerModel", "placed", "(II)I"⟩, 58) := ⟨⟨by decide +kernel, by decide +kernel⟩, List.mem_of_getElem? (i := 1122) (by decide +kernel), List.mem_of_getElem? (i := 1324) (by decide +kernel), List.mem_of_getElem? (i := 1325) (by decide +kernel)⟩
theorem lw_p49 : lw_okq (⟨"MobileMakerModel", "newWeight", "(J)I"⟩, 58) := ⟨⟨by decide +kernel, by decide +kernel⟩, List.mem_of_getElem? (i := 1122) (by decide +kernel), List.mem_of_getElem? (i := 1344) (by decide +kernel), List.mem_of_getElem? (i := 1345) (by decide +kernel)⟩
theorem lw_p50 : lw_okq (⟨"MobileMakerModel", "refuse", "(I)I"⟩, 58) := ⟨⟨by decide +kernel, by decide +kernel⟩, List.mem_of_getElem? (i := 1122) (by decide +kernel), List.mem_of_getElem? (i := 1349) (by decide +kernel), List.mem_of_getElem? (i := 1350) (by decide +kernel)⟩
theorem lw_p51 : lw_okq (⟨"MobileMakerModel", "newPart", "(IJ)I"⟩, 58) := ⟨⟨by decide +kernel, by decide +kernel⟩, List.mem_of_getElem? (i := 1122) (by decide +kernel), List.mem_of_getElem? (i := 1353) (by decide +kernel), List.mem_of_getElem? (i := 1354) (by decide +kernel)⟩
theorem lw_p52 : lw_okq (⟨"MobileMakerModel", "isRing", "(I)Z"⟩, 58) := ⟨⟨by decide +kernel, by decide +kernel⟩, List.mem_of_getElem? (i := 1122) (by decide +kernel), List.mem_of_getElem? (i := 1372) (by decide +kernel), List.mem_of_getElem? (i := 1373) (by decide +kernel)⟩
theorem lw_p53 : lw_okq (⟨"MobileMakerModel", "isOn", "(III)Z"⟩, 58) := ⟨⟨by decide +kernel, by decide +kernel⟩, List.mem_of_getElem? (i := 1122) (by decide +kernel), List.mem_of_getElem? (i := 1376) (by decide +kernel), List.mem_of_getElem? (i := 1377) (by decide +kernel)⟩
theorem lw_p54 : lw_okq (⟨"MobileMakerModel", "turn", "(III)J"⟩, 58) := ⟨⟨by decide +kernel, by decide +kernel⟩, List.mem_of_getElem? (i := 1122) (by decide +kernel), List.mem_of_getElem? (i := 1382) (by decide +kernel), List.mem_of_getElem? (i := 1383) (by decide +kernel)⟩
theorem lw_p55 : lw_okq (⟨"MobileMakerModel", "touches", "(IIII)Z"⟩, 58) := ⟨⟨by decide +kernel, by decide +kernel⟩, List.mem_of_getElem? (i := 1122) (by decide +kernel), List.mem_of_getElem? (i := 1386) (by decide +kernel), List.mem_of_getElem? (i := 1387) (by decide +kernel)⟩
theorem lw_p56 : lw_okq (⟨"MobileMakerModel", "isPart", "(I)Z"⟩, 58) := ⟨⟨by decide +kernel, by decide +kernel⟩, List.mem_of_getElem? (i := 1122) (by decide +kernel), List.mem_of_getElem? (i := 1398) (by decide +kernel), List.mem_of_getElem? (i := 1399) (by decide +kernel)⟩
theorem lw_p57 : lw_okq (⟨"MobileMakerModel", "heightOf", "(I)I"⟩, 58) := ⟨⟨by decide +kernel, by decide +kernel⟩, List.mem_of_getElem? (i := 1122) (by decide +kernel), List.mem_of_getElem? (i := 1410) (by decide +kernel), List.mem_of_getElem? (i := 1411) (by decide +kernel)⟩
theorem lw_p58 : lw_okq (⟨"MobileMakerModel", "topOf", "(I)I"⟩, 58) := ⟨⟨by decide +kernel, by decide +kernel⟩, List.mem_of_getElem? (i := 1122) (by decide +kernel), List.mem_of_getElem? (i := 1414) (by decide +kernel), List.mem_of_getElem? (i := 1415) (by decide +kernel)⟩
theorem lw_p59 : lw_okq (⟨"MobileMakerModel", "rodded", "(I)I"⟩, 58) := ⟨⟨by decide +kernel, by decide +kernel⟩, List.mem_of_getElem? (i := 1122) (by decide +kernel), List.mem_of_getElem? (i := 1422) (by decide +kernel), List.mem_of_getElem? (i := 1423) (by decide +kernel)⟩
theorem lw_p60 : lw_okq (⟨"MobileMakerModel", "isRod", "(I)Z"⟩, 58) := ⟨⟨by decide +kernel, by decide +kernel⟩, List.mem_of_getElem? (i := 1122) (by decide +kernel), List.mem_of_getElem? (i := 1426) (by decide +kernel), List.mem_of_getElem? (i := 1427) (by decide +kernel)⟩
theorem lw_p61 : lw_okq (⟨"MobileMakerModel", "isAbove", "(II)Z"⟩, 58) := ⟨⟨by decide +kernel, by decide +kernel⟩, List.mem_of_getElem? (i := 1122) (by decide +kernel), List.mem_of_getElem? (i := 1434) (by decide +kernel), List.mem_of_getElem? (i := 1435) (by decide +kernel)⟩
theorem lw_p62 : lw_okq (⟨"MobileMakerModel", "takeOff", "(I)V"⟩, 58) := ⟨⟨by decide +kernel, by decide +kernel⟩, List.mem_of_getElem? (i := 1122) (by decide +kernel), List.mem_of_getElem? (i := 1442) (by decide +kernel), List.mem_of_getElem? (i := 1443) (by decide +kernel)⟩
theorem lw_p63 : lw_okq (⟨"MobileMakerModel", "allThere", "()V"⟩, 58) := ⟨⟨by decide +kernel, by decide +kernel⟩, List.mem_of_getElem? (i := 1122) (by decide +kernel), List.mem_of_getElem? (i := 1463) (by decide +kernel), List.mem_of_getElem? (i := 1464) (by decide +kernel)⟩
def lw_privs_4 : List (MethodName × Nat) := [(⟨"MobileMakerModel", "placed", "(II)I"⟩, 58), (⟨"MobileMakerModel", "newWeight", "(J)I"⟩, 58), (⟨"MobileMakerModel", "refuse", "(I)I"⟩, 58), (⟨"MobileMakerModel", "newPart", "(IJ)I"⟩, 58), (⟨"MobileMakerModel", "isRing", "(I)Z"⟩, 58), (⟨"MobileMakerModel", "isOn", "(III)Z"⟩, 58), (⟨"MobileMakerModel", "turn", "(III)J"⟩, 58), (⟨"MobileMakerModel", "touches", "(IIII)Z"⟩, 58), (⟨"MobileMakerModel", "isPart", "(I)Z"⟩, 58), (⟨"MobileMakerModel", "heightOf", "(I)I"⟩, 58), (⟨"MobileMakerModel", "topOf", "(I)I"⟩, 58), (⟨"MobileMakerModel", "rodded", "(I)I"⟩, 58), (⟨"MobileMakerModel", "isRod", "(I)Z"⟩, 58), (⟨"MobileMakerModel", "isAbove", "(II)Z"⟩, 58), (⟨"MobileMakerModel", "takeOff", "(I)V"⟩, 58), (⟨"MobileMakerModel", "allThere", "()V"⟩, 58)]
theorem lw_r4 : ∀ q ∈ lw_privs_4, lw_okq q := List.forall_mem_cons.mpr ⟨lw_p48, List.forall_mem_cons.mpr ⟨lw_p49, List.forall_mem_cons.mpr ⟨lw_p50, List.forall_mem_cons.mpr ⟨lw_p51, List.forall_mem_cons.mpr ⟨lw_p52, List.forall_mem_cons.mpr ⟨lw_p53, List.forall_mem_cons.mpr ⟨lw_p54, List.forall_mem_cons.mpr ⟨lw_p55, List.forall_mem_cons.mpr ⟨lw_p56, List.forall_mem_cons.mpr ⟨lw_p57, List.forall_mem_cons.mpr ⟨lw_p58, List.forall_mem_cons.mpr ⟨lw_p59, List.forall_mem_cons.mpr ⟨lw_p60, List.forall_mem_cons.mpr ⟨lw_p61, List.forall_mem_cons.mpr ⟨lw_p62, List.forall_mem_cons.mpr ⟨lw_p63, fun _ h => absurd h List.not_mem_nil⟩⟩⟩⟩⟩⟩⟩⟩⟩⟩⟩⟩⟩⟩⟩⟩
theorem lw_p64 : lw_okq (⟨"MobileMakerModel", "orders", "()V"⟩, 58) := ⟨⟨by decide +kernel, by decide +kernel⟩, List.mem_of_getElem? (i := 1122) (by decide +kernel), List.mem_of_getElem? (i := 1467) (by decide +kernel), List.mem_of_getElem? (i := 1468) (by decide +kernel)⟩
theorem lw_p65 : lw_okq (⟨"MobileMakerModel", "loads", "()V"⟩, 58) := ⟨⟨by decide +kernel, by decide +kernel⟩, List.mem_of_getElem? (i := 1122) (by decide +kernel), List.mem_of_getElem? (i := 1471) (by decide +kernel), List.mem_of_getElem? (i := 1472) (by decide +kernel)⟩
theorem lw_p66 : lw_okq (⟨"MobileMakerModel", "tilt", "(I)I"⟩, 58) := ⟨⟨by decide +kernel, by decide +kernel⟩, List.mem_of_getElem? (i := 1122) (by decide +kernel), List.mem_of_getElem? (i := 1479) (by decide +kernel), List.mem_of_getElem? (i := 1480) (by decide +kernel)⟩
theorem lw_p67 : lw_okq (⟨"MobileMakerModel", "levelP", "(I)J"⟩, 58) := ⟨⟨by decide +kernel, by decide +kernel⟩, List.mem_of_getElem? (i := 1122) (by decide +kernel), List.mem_of_getElem? (i := 1483) (by decide +kernel), List.mem_of_getElem? (i := 1484) (by decide +kernel)⟩
theorem lw_p68 : lw_okq (⟨"MobileMakerModel", "loadAt", "(I)J"⟩, 58) := ⟨⟨by decide +kernel, by decide +kernel⟩, List.mem_of_getElem? (i := 1122) (by decide +kernel), List.mem_of_getElem? (i := 1487) (by decide +kernel), List.mem_of_getElem? (i := 1488) (by decide +kernel)⟩
theorem lw_p69 : lw_okq (⟨"MobileMakerModel", "levelQ", "(I)J"⟩, 58) := ⟨⟨by decide +kernel, by decide +kernel⟩, List.mem_of_getElem? (i := 1122) (by decide +kernel), List.mem_of_getElem? (i := 1491) (by decide +kernel), List.mem_of_getElem? (i := 1492) (by decide +kernel)⟩
theorem lw_p70 : lw_okq (⟨"MobileMakerModel", "topped", "(I)I"⟩, 58) := ⟨⟨by decide +kernel, by decide +kernel⟩, List.mem_of_getElem? (i := 1122) (by decide +kernel), List.mem_of_getElem? (i := 1499) (by decide +kernel), List.mem_of_getElem? (i := 1500) (by decide +kernel)⟩
theorem lw_p71 : lw_okq (⟨"MobileMakerModel", "marks", "(I)V"⟩, 58) := ⟨⟨by decide +kernel, by decide +kernel⟩, List.mem_of_getElem? (i := 1122) (by decide +kernel), List.mem_of_getElem? (i := 1503) (by decide +kernel), List.mem_of_getElem? (i := 1504) (by decide +kernel)⟩
theorem lw_p72 : lw_okq (⟨"MobileMakerModel", "wrongRods", "()I"⟩, 58) := ⟨⟨by decide +kernel, by decide +kernel⟩, List.mem_of_getElem? (i := 1122) (by decide +kernel), List.mem_of_getElem? (i := 1507) (by decide +kernel), List.mem_of_getElem? (i := 1508) (by decide +kernel)⟩
theorem lw_p73 : lw_okq (⟨"MobileMakerModel", "canBeLevel", "(I)Z"⟩, 58) := ⟨⟨by decide +kernel, by decide +kernel⟩, List.mem_of_getElem? (i := 1122) (by decide +kernel), List.mem_of_getElem? (i := 1515) (by decide +kernel), List.mem_of_getElem? (i := 1516) (by decide +kernel)⟩
theorem lw_p74 : lw_okq (⟨"MobileMakerModel", "arms", "(IIZ)V"⟩, 58) := ⟨⟨by decide +kernel, by decide +kernel⟩, List.mem_of_getElem? (i := 1122) (by decide +kernel), List.mem_of_getElem? (i := 1527) (by decide +kernel), List.mem_of_getElem? (i := 1528) (by decide +kernel)⟩
theorem lw_p75 : lw_okq (⟨"MobileMakerModel", "isWhole", "(I)Z"⟩, 58) := ⟨⟨by decide +kernel, by decide +kernel⟩, List.mem_of_getElem? (i := 1122) (by decide +kernel), List.mem_of_getElem? (i := 1531) (by decide +kernel), List.mem_of_getElem? (i := 1532) (by decide +kernel)⟩
theorem lw_p76 : lw_okq (⟨"MobileMakerModel", "arm", "(II)I"⟩, 58) := ⟨⟨by decide +kernel, by decide +kernel⟩, List.mem_of_getElem? (i := 1122) (by decide +kernel), List.mem_of_getElem? (i := 1535) (by decide +kernel), List.mem_of_getElem? (i := 1536) (by decide +kernel)⟩
theorem lw_p77 : lw_okq (⟨"MobileMakerModel", "armsLeast", "()I"⟩, 58) := ⟨⟨by decide +kernel, by decide +kernel⟩, List.mem_of_getElem? (i := 1122) (by decide +kernel), List.mem_of_getElem? (i := 1539) (by decide +kernel), List.mem_of_getElem? (i := 1540) (by decide +kernel)⟩
theorem lw_p78 : lw_okq (⟨"MobileMakerModel", "near", "(II)I"⟩, 58) := ⟨⟨by decide +kernel, by decide +kernel⟩, List.mem_of_getElem? (i := 1122) (by decide +kernel), List.mem_of_getElem? (i := 1551) (by decide +kernel), List.mem_of_getElem? (i := 1552) (by decide +kernel)⟩
theorem lw_p79 : lw_okq (⟨"MobileMakerModel", "lastAbove", "(II)I"⟩, 58) := ⟨⟨by decide +kernel, by decide +kernel⟩, List.mem_of_getElem? (i := 1122) (by decide +kernel), List.mem_of_getElem? (i := 1555) (by decide +kernel), List.mem_of_getElem? (i := 1556) (by decide +kernel)⟩
def lw_privs_5 : List (MethodName × Nat) := [(⟨"MobileMakerModel", "orders", "()V"⟩, 58), (⟨"MobileMakerModel", "loads", "()V"⟩, 58), (⟨"MobileMakerModel", "tilt", "(I)I"⟩, 58), (⟨"MobileMakerModel", "levelP", "(I)J"⟩, 58), (⟨"MobileMakerModel", "loadAt", "(I)J"⟩, 58), (⟨"MobileMakerModel", "levelQ", "(I)J"⟩, 58), (⟨"MobileMakerModel", "topped", "(I)I"⟩, 58), (⟨"MobileMakerModel", "marks", "(I)V"⟩, 58), (⟨"MobileMakerModel", "wrongRods", "()I"⟩, 58), (⟨"MobileMakerModel", "canBeLevel", "(I)Z"⟩, 58), (⟨"MobileMakerModel", "arms", "(IIZ)V"⟩, 58), (⟨"MobileMakerModel", "isWhole", "(I)Z"⟩, 58), (⟨"MobileMakerModel", "arm", "(II)I"⟩, 58), (⟨"MobileMakerModel", "armsLeast", "()I"⟩, 58), (⟨"MobileMakerModel", "near", "(II)I"⟩, 58), (⟨"MobileMakerModel", "lastAbove", "(II)I"⟩, 58)]
theorem lw_r5 : ∀ q ∈ lw_privs_5, lw_okq q := List.forall_mem_cons.mpr ⟨lw_p64, List.forall_mem_cons.mpr ⟨lw_p65, List.forall_mem_cons.mpr ⟨lw_p66, List.forall_mem_cons.mpr ⟨lw_p67, List.forall_mem_cons.mpr ⟨lw_p68, List.forall_mem_cons.mpr ⟨lw_p69, List.forall_mem_cons.mpr ⟨lw_p70, List.forall_mem_cons.mpr ⟨lw_p71, List.forall_mem_cons.mpr ⟨lw_p72, List.forall_mem_cons.mpr ⟨lw_p73, List.forall_mem_cons.mpr ⟨lw_p74, List.forall_mem_cons.mpr ⟨lw_p75, List.forall_mem_cons.mpr ⟨lw_p76, List.forall_mem_cons.mpr ⟨lw_p77, List.forall_mem_cons.mpr ⟨lw_p78, List.forall_mem_cons.mpr ⟨lw_p79, fun _ h => absurd h List.not_mem_nil⟩⟩⟩⟩⟩⟩⟩⟩⟩⟩⟩⟩⟩⟩⟩⟩
theorem lw_p80 : lw_okq (⟨"MobileMakerModel", "wholes", "(I)I"⟩, 58) := ⟨⟨by decide +kernel, by decide +kernel⟩, List.mem_of_getElem? (i := 1122) (by decide +kernel), List.mem_of_getElem? (i := 1563) (by decide +kernel), List.mem_of_getElem? (i := 1564) (by decide +kernel)⟩
theorem lw_p81 : lw_okq (⟨"MobileMakerModel", "findPairs", "()V"⟩, 58) := ⟨⟨by decide +kernel, by decide +kernel⟩, List.mem_of_getElem? (i := 1122) (by decide +kernel), List.mem_of_getElem? (i := 1567) (by decide +kernel), List.mem_of_getElem? (i := 1568) (by decide +kernel)⟩
theorem lw_p82 : lw_okq (⟨"MobileMakerModel", "noMore", "()V"⟩, 58) := ⟨⟨by decide +kernel, by decide +kernel⟩, List.mem_of_getElem? (i := 1122) (by decide +kernel), List.mem_of_getElem? (i := 1571) (by decide +kernel), List.mem_of_getElem? (i := 1572) (by decide +kernel)⟩
theorem lw_p83 : lw_okq (⟨"MobileMakerModel", "meets", "()I"⟩, 58) := ⟨⟨by decide +kernel, by decide +kernel⟩, List.mem_of_getElem? (i := 1122) (by decide +kernel), List.mem_of_getElem? (i := 1575) (by decide +kernel), List.mem_of_getElem? (i := 1576) (by decide +kernel)⟩
theorem lw_p84 : lw_okq (⟨"MobileMakerModel", "areThreads", "(I)Z"⟩, 58) := ⟨⟨by decide +kernel, by decide +kernel⟩, List.mem_of_getElem? (i := 1122) (by decide +kernel), List.mem_of_getElem? (i := 1583) (by decide +kernel), List.mem_of_getElem? (i := 1584) (by decide +kernel)⟩
theorem lw_p85 : lw_okq (⟨"MobileMakerModel", "lengthen", "(II)I"⟩, 58) := ⟨⟨by decide +kernel, by decide +kernel⟩, List.mem_of_getElem? (i := 1122) (by decide +kernel), List.mem_of_getElem? (i := 1587) (by decide +kernel), List.mem_of_getElem? (i := 1588) (by decide +kernel)⟩
theorem lw_p86 : lw_okq (⟨"MobileMakerModel", "nextChoice", "(I)Z"⟩, 58) := ⟨⟨by decide +kernel, by decide +kernel⟩, List.mem_of_getElem? (i := 1122) (by decide +kernel), List.mem_of_getElem? (i := 1591) (by decide +kernel), List.mem_of_getElem? (i := 1592) (by decide +kernel)⟩
theorem lw_p87 : lw_okq (⟨"MobileMakerModel", "parted", "(IIIZ)I"⟩, 58) := ⟨⟨by decide +kernel, by decide +kernel⟩, List.mem_of_getElem? (i := 1122) (by decide +kernel), List.mem_of_getElem? (i := 1599) (by decide +kernel), List.mem_of_getElem? (i := 1600) (by decide +kernel)⟩
theorem lw_p88 : lw_okq (⟨"MobileMakerModel", "shapes", "(I)I"⟩, 58) := ⟨⟨by decide +kernel, by decide +kernel⟩, List.mem_of_getElem? (i := 1122) (by decide +kernel), List.mem_of_getElem? (i := 1603) (by decide +kernel), List.mem_of_getElem? (i := 1604) (by decide +kernel)⟩
theorem lw_p89 : lw_okq (⟨"MobileMakerModel", "shapesOn", "(I)I"⟩, 58) := ⟨⟨by decide +kernel, by decide +kernel⟩, List.mem_of_getElem? (i := 1122) (by decide +kernel), List.mem_of_getElem? (i := 1608) (by decide +kernel), List.mem_of_getElem? (i := 1609) (by decide +kernel)⟩
theorem lw_p90 : lw_okq (⟨"MobileMakerModel", "waysOf", "(I)I"⟩, 58) := ⟨⟨by decide +kernel, by decide +kernel⟩, List.mem_of_getElem? (i := 1122) (by decide +kernel), List.mem_of_getElem? (i := 1612) (by decide +kernel), List.mem_of_getElem? (i := 1613) (by decide +kernel)⟩
theorem lw_p91 : lw_okq (⟨"MobileMakerModel", "isFirstOf", "(II)Z"⟩, 58) := ⟨⟨by decide +kernel, by decide +kernel⟩, List.mem_of_getElem? (i := 1122) (by decide +kernel), List.mem_of_getElem? (i := 1616) (by decide +kernel), List.mem_of_getElem? (i := 1617) (by decide +kernel)⟩
theorem lw_p92 : lw_okq (⟨"MobileMakerModel", "isLike", "(II)Z"⟩, 58) := ⟨⟨by decide +kernel, by decide +kernel⟩, List.mem_of_getElem? (i := 1122) (by decide +kernel), List.mem_of_getElem? (i := 1646) (by decide +kernel), List.mem_of_getElem? (i := 1647) (by decide +kernel)⟩
theorem lw_p93 : lw_okq (⟨"MobileMakerModel", "isSide", "(II)Z"⟩, 58) := ⟨⟨by decide +kernel, by decide +kernel⟩, List.mem_of_getElem? (i := 1122) (by decide +kernel), List.mem_of_getElem? (i := 1650) (by decide +kernel), List.mem_of_getElem? (i := 1651) (by decide +kernel)⟩
theorem lw_p94 : lw_okq (⟨"MobileMakerModel", "later", "(II)V"⟩, 58) := ⟨⟨by decide +kernel, by decide +kernel⟩, List.mem_of_getElem? (i := 1122) (by decide +kernel), List.mem_of_getElem? (i := 1658) (by decide +kernel), List.mem_of_getElem? (i := 1659) (by decide +kernel)⟩
theorem lw_p95 : lw_okq (⟨"MobileMakerModel", "showPart", "(I)V"⟩, 58) := ⟨⟨by decide +kernel, by decide +kernel⟩, List.mem_of_getElem? (i := 1122) (by decide +kernel), List.mem_of_getElem? (i := 1662) (by decide +kernel), List.mem_of_getElem? (i := 1663) (by decide +kernel)⟩
def lw_privs_6 : List (MethodName × Nat) := [(⟨"MobileMakerModel", "wholes", "(I)I"⟩, 58), (⟨"MobileMakerModel", "findPairs", "()V"⟩, 58), (⟨"MobileMakerModel", "noMore", "()V"⟩, 58), (⟨"MobileMakerModel", "meets", "()I"⟩, 58), (⟨"MobileMakerModel", "areThreads", "(I)Z"⟩, 58), (⟨"MobileMakerModel", "lengthen", "(II)I"⟩, 58), (⟨"MobileMakerModel", "nextChoice", "(I)Z"⟩, 58), (⟨"MobileMakerModel", "parted", "(IIIZ)I"⟩, 58), (⟨"MobileMakerModel", "shapes", "(I)I"⟩, 58), (⟨"MobileMakerModel", "shapesOn", "(I)I"⟩, 58), (⟨"MobileMakerModel", "waysOf", "(I)I"⟩, 58), (⟨"MobileMakerModel", "isFirstOf", "(II)Z"⟩, 58), (⟨"MobileMakerModel", "isLike", "(II)Z"⟩, 58), (⟨"MobileMakerModel", "isSide", "(II)Z"⟩, 58), (⟨"MobileMakerModel", "later", "(II)V"⟩, 58), (⟨"MobileMakerModel", "showPart", "(I)V"⟩, 58)]
theorem lw_r6 : ∀ q ∈ lw_privs_6, lw_okq q := List.forall_mem_cons.mpr ⟨lw_p80, List.forall_mem_cons.mpr ⟨lw_p81, List.forall_mem_cons.mpr ⟨lw_p82, List.forall_mem_cons.mpr ⟨lw_p83, List.forall_mem_cons.mpr ⟨lw_p84, List.forall_mem_cons.mpr ⟨lw_p85, List.forall_mem_cons.mpr ⟨lw_p86, List.forall_mem_cons.mpr ⟨lw_p87, List.forall_mem_cons.mpr ⟨lw_p88, List.forall_mem_cons.mpr ⟨lw_p89, List.forall_mem_cons.mpr ⟨lw_p90, List.forall_mem_cons.mpr ⟨lw_p91, List.forall_mem_cons.mpr ⟨lw_p92, List.forall_mem_cons.mpr ⟨lw_p93, List.forall_mem_cons.mpr ⟨lw_p94, List.forall_mem_cons.mpr ⟨lw_p95, fun _ h => absurd h List.not_mem_nil⟩⟩⟩⟩⟩⟩⟩⟩⟩⟩⟩⟩⟩⟩⟩⟩
theorem lw_p96 : lw_okq (⟨"MobileMakerModel", "put", "(I)V"⟩, 58) := ⟨⟨by decide +kernel, by decide +kernel⟩, List.mem_of_getElem? (i := 1122) (by decide +kernel), List.mem_of_getElem? (i := 1666) (by decide +kernel), List.mem_of_getElem? (i := 1667) (by decide +kernel)⟩
theorem lw_p97 : lw_okq (⟨"MobileMakerModel", "putNumber", "(J)V"⟩, 58) := ⟨⟨by decide +kernel, by decide +kernel⟩, List.mem_of_getElem? (i := 1122) (by decide +kernel), List.mem_of_getElem? (i := 1670) (by decide +kernel), List.mem_of_getElem? (i := 1671) (by decide +kernel)⟩
def lw_privs_7 : List (MethodName × Nat) := [(⟨"MobileMakerModel", "put", "(I)V"⟩, 58), (⟨"MobileMakerModel", "putNumber", "(J)V"⟩, 58)]
theorem lw_r7 : ∀ q ∈ lw_privs_7, lw_okq q := List.forall_mem_cons.mpr ⟨lw_p96, List.forall_mem_cons.mpr ⟨lw_p97, fun _ h => absurd h List.not_mem_nil⟩⟩
def lw_privs : List (MethodName × Nat) := lw_privs_1 ++ (lw_privs_2 ++ (lw_privs_3 ++ (lw_privs_4 ++ (lw_privs_5 ++ (lw_privs_6 ++ (lw_privs_7))))))
def lw_tbl : List Cond := k2_sels lw_privs ++ tables_1
theorem lw_privs_ok : ∀ q ∈ lw_privs, lw_okq q := by
  show ∀ q ∈ lw_privs_1 ++ (lw_privs_2 ++ (lw_privs_3 ++ (lw_privs_4 ++ (lw_privs_5 ++ (lw_privs_6 ++ (lw_privs_7)))))), lw_okq q
  exact List.forall_mem_append.mpr ⟨lw_r1, List.forall_mem_append.mpr ⟨lw_r2, List.forall_mem_append.mpr ⟨lw_r3, List.forall_mem_append.mpr ⟨lw_r4, List.forall_mem_append.mpr ⟨lw_r5, List.forall_mem_append.mpr ⟨lw_r6, lw_r7⟩⟩⟩⟩⟩⟩
end
section
/-! ===== BEGIN words of one list among another's, by their places ===== -/
theorem goodIn_r {big : List Cond} (ws : List Cond) (ps : List Nat) (hp : ws = ps.filterMap (fun i => big[i]?)) (h : ws.all goodWord = true) : GoodIn big ws := by
  intro w hw
  have h1 := List.all_eq_true.mp h w hw
  rw [hp] at hw
  obtain ⟨i, -, hi⟩ := List.mem_filterMap.mp hw
  have hm : w ∈ big := by first | exact List.mem_of_getElem? hi | exact List.getElem?_mem hi
  exact ⟨hm, good_of_word h1⟩
theorem goodIn_app {big a b : List Cond} (ha : GoodIn big a) (hb : GoodIn big b) : GoodIn big (a ++ b) := fun w h => (List.mem_append.mp h).elim (ha w) (hb w)
theorem goodIn_ca {big a b : List Cond} {c : Cond} (ha : GoodIn big (c :: a)) (hb : GoodIn big b) : GoodIn big (c :: (a ++ b)) := fun w h => (List.mem_cons.mp h).elim (fun e => ha w (List.mem_cons.mpr (Or.inl e))) (fun h => (List.mem_append.mp h).elim (fun h => ha w (List.mem_cons.mpr (Or.inr h))) (hb w))
theorem goodIn_sub {big ws : List Cond} (hm : ∀ w ∈ ws, w ∈ big) (h : ws.all goodWord = true) : GoodIn big ws := fun w hw => ⟨hm w hw, good_of_word (List.all_eq_true.mp h w hw)⟩
/-! ===== END ===== -/
end
section
def RX0 : String := "MobileMaker$Clearing"
def TX0 : u_T := fun k => match k with
  | 0 => ("MobileMaker$Clearing", "offered", "[LMobileMaker$Part;", true)
  | 1 => ("MobileMaker$Clearing", "longer", "[I", true)
  | 2 => ("MobileMaker$Clearing", "offers", "I", false)
  | 3 => ("MobileMaker$Clearing", "chosen", "[J", true)
  | 4 => ("MobileMaker$Clearing", "choices", "I", false)
  | 5 => ("MobileMaker$Clearing", "firstAlone", "[J", true)
  | 6 => ("MobileMaker$Clearing", "secondAlone", "[J", true)
  | 7 => ("MobileMaker$Clearing", "apart", "[I", true)
  | 8 => ("MobileMaker$Clearing", "pairs", "I", false)
  | 9 => ("MobileMaker$Clearing", "latest", "I", false)
  | _ => ("MobileMaker$Clearing", "tries", "I", false)
def tyX0 : Nat → FieldType := fun k => match k with
  | 0 => .array (.object "MobileMaker$Part")
  | 1 => .array .int
  | 2 => .int
  | 3 => .array .long
  | 4 => .int
  | 5 => .array .long
  | 6 => .array .long
  | 7 => .array .int
  | 8 => .int
  | 9 => .int
  | _ => .int
abbrev wsX00 : List Cond := u_ws RX0 TX0 11
theorem nmX0 : ∀ a, a < 11 → ∀ b, b < 11 → a ≠ b → (TX0 a).2.1 ≠ (TX0 b).2.1 := by decide +kernel
theorem tyX0_ok : ∀ k, k < 11 → parseFieldDescriptor (TX0 k).2.2.1 = some (tyX0 k) := by decide +kernel
abbrev cX0_init : ByteArray := prog_2_method_1_code
def yX0_init : MethodName := ⟨RX0, "<init>", "()V"⟩
abbrev cX0_begin : ByteArray := prog_2_method_2_code
def yX0_begin : MethodName := ⟨RX0, "begin", "()V"⟩
abbrev cX0_offer : ByteArray := prog_2_method_3_code
def yX0_offer : MethodName := ⟨RX0, "offer", "(LMobileMaker$Part;)V"⟩
abbrev cX0_watch : ByteArray := prog_2_method_4_code
def yX0_watch : MethodName := ⟨RX0, "watch", "(LMobileMaker$Part;LMobileMaker$Part;)V"⟩
abbrev cX0_search : ByteArray := prog_2_method_5_code
def yX0_search : MethodName := ⟨RX0, "search", "(I)I"⟩
abbrev cX0_lengthen : ByteArray := prog_2_method_6_code
def yX0_lengthen : MethodName := ⟨RX0, "lengthen", "(II)I"⟩
abbrev cX0_look : ByteArray := prog_2_method_7_code
def yX0_look : MethodName := ⟨RX0, "look", "()I"⟩
abbrev cX0_doMeet : ByteArray := prog_2_method_8_code
def yX0_doMeet : MethodName := ⟨RX0, "doMeet", "(I)Z"⟩
abbrev cX0_lengthenThreads : ByteArray := prog_2_method_9_code
def yX0_lengthenThreads : MethodName := ⟨RX0, "lengthenThreads", "()V"⟩
def RX1 : String := "MobileMaker$Mobile"
def TX1 : u_T := fun k => match k with
  | 0 => ("MobileMaker$Mobile", "members", "[LMobileMaker$Part;", true)
  | 1 => ("MobileMaker$Mobile", "many", "I", false)
  | _ => ("MobileMaker$Mobile", "numbers", "J", false)
def tyX1 : Nat → FieldType := fun k => match k with
  | 0 => .array (.object "MobileMaker$Part")
  | 1 => .int
  | _ => .long
abbrev wsX10 : List Cond := u_ws RX1 TX1 3
theorem nmX1 : ∀ a, a < 3 → ∀ b, b < 3 → a ≠ b → (TX1 a).2.1 ≠ (TX1 b).2.1 := by decide +kernel
theorem tyX1_ok : ∀ k, k < 3 → parseFieldDescriptor (TX1 k).2.2.1 = some (tyX1 k) := by decide +kernel
abbrev cX1_init : ByteArray := prog_3_method_1_code
def yX1_init : MethodName := ⟨RX1, "<init>", "()V"⟩
abbrev cX1_gather : ByteArray := prog_3_method_2_code
def yX1_gather : MethodName := ⟨RX1, "gather", "(LMobileMaker$Part;)V"⟩
abbrev cX1_add : ByteArray := prog_3_method_3_code
def yX1_add : MethodName := ⟨RX1, "add", "(LMobileMaker$Part;IJ)V"⟩
abbrev cX1_holds : ByteArray := prog_3_method_4_code
def yX1_holds : MethodName := ⟨RX1, "holds", "(LMobileMaker$Part;)Z"⟩
abbrev cX1_countOf : ByteArray := prog_3_method_5_code
def yX1_countOf : MethodName := ⟨RX1, "countOf", "(I)I"⟩
abbrev cX1_notLevel : ByteArray := prog_3_method_6_code
def yX1_notLevel : MethodName := ⟨RX1, "notLevel", "()I"⟩
abbrev cX1_canAllBeLevel : ByteArray := prog_3_method_7_code
def yX1_canAllBeLevel : MethodName := ⟨RX1, "canAllBeLevel", "()Z"⟩
abbrev cX1_tieAllLevel : ByteArray := prog_3_method_8_code
def yX1_tieAllLevel : MethodName := ⟨RX1, "tieAllLevel", "()I"⟩
abbrev cX1_hasWholeArms : ByteArray := prog_3_method_9_code
def yX1_hasWholeArms : MethodName := ⟨RX1, "hasWholeArms", "()Z"⟩
abbrev cX1_isShape : ByteArray := prog_3_method_10_code
def yX1_isShape : MethodName := ⟨RX1, "isShape", "()Z"⟩
abbrev cX1_lowestNumber : ByteArray := prog_3_method_11_code
def yX1_lowestNumber : MethodName := ⟨RX1, "lowestNumber", "()I"⟩
abbrev cX1_staysLevelBare : ByteArray := prog_3_method_12_code
def yX1_staysLevelBare : MethodName := ⟨RX1, "staysLevelBare", "()Z"⟩
def RX2 : String := "MobileMaker$Part"
def TX2 : u_T := fun k => match k with
  | _ => ("", "", "", false)
def tyX2 : Nat → FieldType := fun k => match k with
  | _ => .int
abbrev wsX20 : List Cond := u_ws RX2 TX2 0
theorem nmX2 : ∀ a, a < 0 → ∀ b, b < 0 → a ≠ b → (TX2 a).2.1 ≠ (TX2 b).2.1 := by decide +kernel
theorem tyX2_ok : ∀ k, k < 0 → parseFieldDescriptor (TX2 k).2.2.1 = some (tyX2 k) := by decide +kernel
abbrev cX2_init : ByteArray := prog_4_method_1_code
def yX2_init : MethodName := ⟨RX2, "<init>", "(III)V"⟩
abbrev cX2_bit : ByteArray := prog_4_method_2_code
def yX2_bit : MethodName := ⟨RX2, "bit", "()J"⟩
abbrev cX2_comeOff : ByteArray := prog_4_method_3_code
def yX2_comeOff : MethodName := ⟨RX2, "comeOff", "()V"⟩
def RX3 : String := "MobileMaker$Parting"
def TX3 : u_T := fun k => match k with
  | 0 => ("MobileMaker$Parting", "value", "[I", true)
  | 1 => ("MobileMaker$Parting", "numbers", "I", false)
  | 2 => ("MobileMaker$Parting", "before", "[I", true)
  | 3 => ("MobileMaker$Parting", "places", "I", false)
  | 4 => ("MobileMaker$Parting", "isWhole", "Z", false)
  | 5 => ("MobileMaker$Parting", "sum", "[I", true)
  | 6 => ("MobileMaker$Parting", "digits", "[I", true)
  | 7 => ("MobileMaker$Parting", "sets", "[[I", true)
  | 8 => ("MobileMaker$Parting", "setsMany", "[I", true)
  | 9 => ("MobileMaker$Parting", "chains", "[I", true)
  | _ => ("MobileMaker$Parting", "first", "[I", true)
def tyX3 : Nat → FieldType := fun k => match k with
  | 0 => .array .int
  | 1 => .int
  | 2 => .array .int
  | 3 => .int
  | 4 => .boolean
  | 5 => .array .int
  | 6 => .array .int
  | 7 => .array (.array .int)
  | 8 => .array .int
  | 9 => .array .int
  | _ => .array .int
abbrev wsX30 : List Cond := u_ws RX3 TX3 11
theorem nmX3 : ∀ a, a < 11 → ∀ b, b < 11 → a ≠ b → (TX3 a).2.1 ≠ (TX3 b).2.1 := by decide +kernel
theorem tyX3_ok : ∀ k, k < 11 → parseFieldDescriptor (TX3 k).2.2.1 = some (tyX3 k) := by decide +kernel
abbrev cX3_init : ByteArray := prog_5_method_1_code
def yX3_init : MethodName := ⟨RX3, "<init>", "()V"⟩
abbrev cX3_count : ByteArray := prog_5_method_2_code
def yX3_count : MethodName := ⟨RX3, "count", "(LMobileMaker$Rod;LMobileMaker$Tray;)I"⟩
abbrev cX3_firstPlaceOf : ByteArray := prog_5_method_3_code
def yX3_firstPlaceOf : MethodName := ⟨RX3, "firstPlaceOf", "(I)I"⟩
abbrev cX3_fullSet : ByteArray := prog_5_method_4_code
def yX3_fullSet : MethodName := ⟨RX3, "fullSet", "()I"⟩
abbrev cX3_takeNumbers : ByteArray := prog_5_method_5_code
def yX3_takeNumbers : MethodName := ⟨RX3, "takeNumbers", "(LMobileMaker$Tray;)V"⟩
abbrev cX3_sumOfNumbers : ByteArray := prog_5_method_6_code
def yX3_sumOfNumbers : MethodName := ⟨RX3, "sumOfNumbers", "()I"⟩
abbrev cX3_share : ByteArray := prog_5_method_7_code
def yX3_share : MethodName := ⟨RX3, "share", "(LMobileMaker$Rod;II)V"⟩
abbrev cX3_shareSide : ByteArray := prog_5_method_8_code
def yX3_shareSide : MethodName := ⟨RX3, "shareSide", "(LMobileMaker$Part;II)V"⟩
abbrev cX3_listSets : ByteArray := prog_5_method_9_code
def yX3_listSets : MethodName := ⟨RX3, "listSets", "()V"⟩
abbrev cX3_likeAhead : ByteArray := prog_5_method_10_code
def yX3_likeAhead : MethodName := ⟨RX3, "likeAhead", "(I)I"⟩
abbrev cX3_list : ByteArray := prog_5_method_11_code
def yX3_list : MethodName := ⟨RX3, "list", "(I)V"⟩
abbrev cX3_goOnFrom : ByteArray := prog_5_method_12_code
def yX3_goOnFrom : MethodName := ⟨RX3, "goOnFrom", "(I)V"⟩
abbrev cX3_extend : ByteArray := prog_5_method_13_code
def yX3_extend : MethodName := ⟨RX3, "extend", "(III)V"⟩
def RX4 : String := "MobileMaker$Plate"
def TX4 : u_T := fun k => match k with
  | 0 => ("MobileMaker$Part", "number", "I", true)
  | 1 => ("MobileMaker$Part", "kind", "I", true)
  | 2 => ("MobileMaker$Part", "own", "I", true)
  | 3 => ("MobileMaker$Part", "above", "LMobileMaker$Rod;", false)
  | 4 => ("MobileMaker$Part", "end", "I", false)
  | 5 => ("MobileMaker$Part", "thread", "I", false)
  | 6 => ("MobileMaker$Part", "path", "J", false)
  | 7 => ("MobileMaker$Part", "height", "I", false)
  | 8 => ("MobileMaker$Part", "load", "J", false)
  | 9 => ("MobileMaker$Part", "bareLoss", "J", false)
  | 10 => ("MobileMaker$Plate", "xUpper", "J", true)
  | 11 => ("MobileMaker$Plate", "xLower", "J", true)
  | 12 => ("MobileMaker$Plate", "yUpper", "J", true)
  | _ => ("MobileMaker$Plate", "yLower", "J", true)
def tyX4 : Nat → FieldType := fun k => match k with
  | 0 => .int
  | 1 => .int
  | 2 => .int
  | 3 => .object "MobileMaker$Rod"
  | 4 => .int
  | 5 => .int
  | 6 => .long
  | 7 => .int
  | 8 => .long
  | 9 => .long
  | 10 => .long
  | 11 => .long
  | 12 => .long
  | _ => .long
abbrev wsX40 : List Cond := u_ws RX4 TX4 14
theorem nmX4 : ∀ a, a < 14 → ∀ b, b < 14 → a ≠ b → (TX4 a).2.1 ≠ (TX4 b).2.1 := by decide +kernel
theorem tyX4_ok : ∀ k, k < 14 → parseFieldDescriptor (TX4 k).2.2.1 = some (tyX4 k) := by decide +kernel
abbrev cX4_init : ByteArray := prog_6_method_1_code
def yX4_init : MethodName := ⟨RX4, "<init>", "(ILMobileMaker$Ring;)V"⟩
abbrev cX4_middleAt : ByteArray := prog_6_method_2_code
def yX4_middleAt : MethodName := ⟨RX4, "middleAt", "(I)J"⟩
def RX5 : String := "MobileMaker$Ring"
def TX5 : u_T := fun k => match k with
  | 0 => ("MobileMaker$Ring", "x", "[I", true)
  | 1 => ("MobileMaker$Ring", "y", "[I", true)
  | _ => ("MobileMaker$Ring", "corners", "I", false)
def tyX5 : Nat → FieldType := fun k => match k with
  | 0 => .array .int
  | 1 => .array .int
  | _ => .int
abbrev wsX50 : List Cond := u_ws RX5 TX5 3
theorem nmX5 : ∀ a, a < 3 → ∀ b, b < 3 → a ≠ b → (TX5 a).2.1 ≠ (TX5 b).2.1 := by decide +kernel
theorem tyX5_ok : ∀ k, k < 3 → parseFieldDescriptor (TX5 k).2.2.1 = some (tyX5 k) := by decide +kernel
abbrev cX5_init : ByteArray := prog_7_method_1_code
def yX5_init : MethodName := ⟨RX5, "<init>", "()V"⟩
abbrev cX5_draw : ByteArray := prog_7_method_2_code
def yX5_draw : MethodName := ⟨RX5, "draw", "(LMobileMaker$Tray;I)Z"⟩
abbrev cX5_isTooFar : ByteArray := prog_7_method_3_code
def yX5_isTooFar : MethodName := ⟨RX5, "isTooFar", "(J)Z"⟩
abbrev cX5_next : ByteArray := prog_7_method_4_code
def yX5_next : MethodName := ⟨RX5, "next", "(I)I"⟩
abbrev cX5_touchesItself : ByteArray := prog_7_method_5_code
def yX5_touchesItself : MethodName := ⟨RX5, "touchesItself", "()Z"⟩
abbrev cX5_foldsBackAfter : ByteArray := prog_7_method_6_code
def yX5_foldsBackAfter : MethodName := ⟨RX5, "foldsBackAfter", "(I)Z"⟩
abbrev cX5_doSidesMeet : ByteArray := prog_7_method_7_code
def yX5_doSidesMeet : MethodName := ⟨RX5, "doSidesMeet", "(II)Z"⟩
abbrev cX5_turn : ByteArray := prog_7_method_8_code
def yX5_turn : MethodName := ⟨RX5, "turn", "(III)I"⟩
abbrev cX5_isInBox : ByteArray := prog_7_method_9_code
def yX5_isInBox : MethodName := ⟨RX5, "isInBox", "(III)Z"⟩
abbrev cX5_crossAfter : ByteArray := prog_7_method_10_code
def yX5_crossAfter : MethodName := ⟨RX5, "crossAfter", "(I)I"⟩
abbrev cX5_signedTwiceArea : ByteArray := prog_7_method_11_code
def yX5_signedTwiceArea : MethodName := ⟨RX5, "signedTwiceArea", "()I"⟩
abbrev cX5_twiceArea : ByteArray := prog_7_method_12_code
def yX5_twiceArea : MethodName := ⟨RX5, "twiceArea", "()I"⟩
abbrev cX5_middleSum : ByteArray := prog_7_method_13_code
def yX5_middleSum : MethodName := ⟨RX5, "middleSum", "(Z)J"⟩
def RX6 : String := "MobileMaker$Rod"
def TX6 : u_T := fun k => match k with
  | 0 => ("MobileMaker$Part", "number", "I", true)
  | 1 => ("MobileMaker$Part", "kind", "I", true)
  | 2 => ("MobileMaker$Part", "own", "I", true)
  | 3 => ("MobileMaker$Part", "above", "LMobileMaker$Rod;", false)
  | 4 => ("MobileMaker$Part", "end", "I", false)
  | 5 => ("MobileMaker$Part", "thread", "I", false)
  | 6 => ("MobileMaker$Part", "path", "J", false)
  | 7 => ("MobileMaker$Part", "height", "I", false)
  | 8 => ("MobileMaker$Part", "load", "J", false)
  | 9 => ("MobileMaker$Part", "bareLoss", "J", false)
  | 10 => ("MobileMaker$Rod", "length", "I", true)
  | 11 => ("MobileMaker$Rod", "heft", "I", true)
  | 12 => ("MobileMaker$Rod", "p", "I", false)
  | 13 => ("MobileMaker$Rod", "q", "I", false)
  | 14 => ("MobileMaker$Rod", "left", "LMobileMaker$Part;", false)
  | _ => ("MobileMaker$Rod", "right", "LMobileMaker$Part;", false)
def tyX6 : Nat → FieldType := fun k => match k with
  | 0 => .int
  | 1 => .int
  | 2 => .int
  | 3 => .object "MobileMaker$Rod"
  | 4 => .int
  | 5 => .int
  | 6 => .long
  | 7 => .int
  | 8 => .long
  | 9 => .long
  | 10 => .int
  | 11 => .int
  | 12 => .int
  | 13 => .int
  | 14 => .object "MobileMaker$Part"
  | _ => .object "MobileMaker$Part"
abbrev wsX60 : List Cond := u_ws RX6 TX6 16
theorem nmX6 : ∀ a, a < 16 → ∀ b, b < 16 → a ≠ b → (TX6 a).2.1 ≠ (TX6 b).2.1 := by decide +kernel
theorem tyX6_ok : ∀ k, k < 16 → parseFieldDescriptor (TX6 k).2.2.1 = some (tyX6 k) := by decide +kernel
abbrev cX6_init : ByteArray := prog_8_method_1_code
def yX6_init : MethodName := ⟨RX6, "<init>", "(IIII)V"⟩
abbrev cX6_side : ByteArray := prog_8_method_2_code
def yX6_side : MethodName := ⟨RX6, "side", "(I)LMobileMaker$Part;"⟩
abbrev cX6_bear : ByteArray := prog_8_method_3_code
def yX6_bear : MethodName := ⟨RX6, "bear", "(ILMobileMaker$Part;)V"⟩
abbrev cX6_hasWholeArms : ByteArray := prog_8_method_4_code
def yX6_hasWholeArms : MethodName := ⟨RX6, "hasWholeArms", "()Z"⟩
abbrev cX6_arm : ByteArray := prog_8_method_5_code
def yX6_arm : MethodName := ⟨RX6, "arm", "(I)I"⟩
abbrev cX6_isTiedAt : ByteArray := prog_8_method_6_code
def yX6_isTiedAt : MethodName := ⟨RX6, "isTiedAt", "(II)Z"⟩
abbrev cX6_loadOf : ByteArray := prog_8_method_7_code
def yX6_loadOf : MethodName := ⟨RX6, "loadOf", "(LMobileMaker$Part;)J"⟩
abbrev cX6_bareLossOf : ByteArray := prog_8_method_8_code
def yX6_bareLossOf : MethodName := ⟨RX6, "bareLossOf", "(LMobileMaker$Part;)J"⟩
abbrev cX6_lean : ByteArray := prog_8_method_9_code
def yX6_lean : MethodName := ⟨RX6, "lean", "()J"⟩
abbrev cX6_keepsLevelBare : ByteArray := prog_8_method_10_code
def yX6_keepsLevelBare : MethodName := ⟨RX6, "keepsLevelBare", "()Z"⟩
abbrev cX6_upperShare : ByteArray := prog_8_method_11_code
def yX6_upperShare : MethodName := ⟨RX6, "upperShare", "()J"⟩
abbrev cX6_lowerShare : ByteArray := prog_8_method_12_code
def yX6_lowerShare : MethodName := ⟨RX6, "lowerShare", "()J"⟩
abbrev cX6_canBeLevel : ByteArray := prog_8_method_13_code
def yX6_canBeLevel : MethodName := ⟨RX6, "canBeLevel", "()Z"⟩
abbrev cX6_levelUpper : ByteArray := prog_8_method_14_code
def yX6_levelUpper : MethodName := ⟨RX6, "levelUpper", "()I"⟩
abbrev cX6_levelLower : ByteArray := prog_8_method_15_code
def yX6_levelLower : MethodName := ⟨RX6, "levelLower", "()I"⟩
abbrev cX6_tieLevel : ByteArray := prog_8_method_16_code
def yX6_tieLevel : MethodName := ⟨RX6, "tieLevel", "()V"⟩
def RX7 : String := "MobileMaker$Span"
def TX7 : u_T := fun k => match k with
  | 0 => ("MobileMaker$Span", "sum", "I", false)
  | 1 => ("MobileMaker$Span", "longest", "I", false)
  | _ => ("MobileMaker$Span", "whole", "Z", false)
def tyX7 : Nat → FieldType := fun k => match k with
  | 0 => .int
  | 1 => .int
  | _ => .boolean
abbrev wsX70 : List Cond := u_ws RX7 TX7 3
theorem nmX7 : ∀ a, a < 3 → ∀ b, b < 3 → a ≠ b → (TX7 a).2.1 ≠ (TX7 b).2.1 := by decide +kernel
theorem tyX7_ok : ∀ k, k < 3 → parseFieldDescriptor (TX7 k).2.2.1 = some (tyX7 k) := by decide +kernel
abbrev cX7_init : ByteArray := prog_9_method_1_code
def yX7_init : MethodName := ⟨RX7, "<init>", "()V"⟩
abbrev cX7_measure : ByteArray := prog_9_method_2_code
def yX7_measure : MethodName := ⟨RX7, "measure", "(LMobileMaker$Part;LMobileMaker$Rod;)V"⟩
abbrev cX7_least : ByteArray := prog_9_method_3_code
def yX7_least : MethodName := ⟨RX7, "least", "()I"⟩
def RX8 : String := "MobileMaker$Text"
def TX8 : u_T := fun k => match k with
  | 0 => ("MobileMaker$Text", "kept", "[B", true)
  | 1 => ("MobileMaker$Text", "bytes", "I", false)
  | 2 => ("MobileMaker$Text", "open", "[LMobileMaker$Rod;", true)
  | 3 => ("MobileMaker$Text", "sidesTold", "[I", true)
  | _ => ("MobileMaker$Text", "opened", "I", false)
def tyX8 : Nat → FieldType := fun k => match k with
  | 0 => .array .byte
  | 1 => .int
  | 2 => .array (.object "MobileMaker$Rod")
  | 3 => .array .int
  | _ => .int
abbrev wsX80 : List Cond := u_ws RX8 TX8 5
theorem nmX8 : ∀ a, a < 5 → ∀ b, b < 5 → a ≠ b → (TX8 a).2.1 ≠ (TX8 b).2.1 := by decide +kernel
theorem tyX8_ok : ∀ k, k < 5 → parseFieldDescriptor (TX8 k).2.2.1 = some (tyX8 k) := by decide +kernel
abbrev cX8_init : ByteArray := prog_10_method_1_code
def yX8_init : MethodName := ⟨RX8, "<init>", "()V"⟩
abbrev cX8_has : ByteArray := prog_10_method_2_code
def yX8_has : MethodName := ⟨RX8, "has", "(I)Z"⟩
abbrev cX8_at : ByteArray := prog_10_method_3_code
def yX8_at : MethodName := ⟨RX8, "at", "(I)I"⟩
abbrev cX8_tell : ByteArray := prog_10_method_4_code
def yX8_tell : MethodName := ⟨RX8, "tell", "(LMobileMaker$Part;)I"⟩
abbrev cX8_goOnWith : ByteArray := prog_10_method_5_code
def yX8_goOnWith : MethodName := ⟨RX8, "goOnWith", "(I)V"⟩
abbrev cX8_tellSide : ByteArray := prog_10_method_6_code
def yX8_tellSide : MethodName := ⟨RX8, "tellSide", "(LMobileMaker$Part;)V"⟩
abbrev cX8_tellPart : ByteArray := prog_10_method_7_code
def yX8_tellPart : MethodName := ⟨RX8, "tellPart", "(LMobileMaker$Part;)V"⟩
abbrev cX8_putNumber : ByteArray := prog_10_method_8_code
def yX8_putNumber : MethodName := ⟨RX8, "putNumber", "(I)V"⟩
abbrev cX8_put : ByteArray := prog_10_method_9_code
def yX8_put : MethodName := ⟨RX8, "put", "(C)V"⟩
def RX9 : String := "MobileMaker$Tray"
def TX9 : u_T := fun k => match k with
  | 0 => ("MobileMaker$Tray", "sort", "I", false)
  | 1 => ("MobileMaker$Tray", "many", "I", false)
  | _ => ("MobileMaker$Tray", "row", "[J", true)
def tyX9 : Nat → FieldType := fun k => match k with
  | 0 => .int
  | 1 => .int
  | _ => .array .long
abbrev wsX90 : List Cond := u_ws RX9 TX9 3
theorem nmX9 : ∀ a, a < 3 → ∀ b, b < 3 → a ≠ b → (TX9 a).2.1 ≠ (TX9 b).2.1 := by decide +kernel
theorem tyX9_ok : ∀ k, k < 3 → parseFieldDescriptor (TX9 k).2.2.1 = some (tyX9 k) := by decide +kernel
abbrev cX9_init : ByteArray := prog_11_method_1_code
def yX9_init : MethodName := ⟨RX9, "<init>", "()V"⟩
abbrev cX9_isMissing : ByteArray := prog_11_method_2_code
def yX9_isMissing : MethodName := ⟨RX9, "isMissing", "()Z"⟩
abbrev cX9_lay : ByteArray := prog_11_method_3_code
def yX9_lay : MethodName := ⟨RX9, "lay", "(II)V"⟩
abbrev cX9_has : ByteArray := prog_11_method_4_code
def yX9_has : MethodName := ⟨RX9, "has", "(I)Z"⟩
abbrev cX9_hasFrom : ByteArray := prog_11_method_5_code
def yX9_hasFrom : MethodName := ⟨RX9, "hasFrom", "(II)Z"⟩
abbrev cX9_at : ByteArray := prog_11_method_6_code
def yX9_at : MethodName := ⟨RX9, "at", "(I)J"⟩
abbrev cX9_put : ByteArray := prog_11_method_7_code
def yX9_put : MethodName := ⟨RX9, "put", "(IJ)V"⟩
abbrev cX9_canBeParted : ByteArray := prog_11_method_8_code
def yX9_canBeParted : MethodName := ⟨RX9, "canBeParted", "()Z"⟩
def RX10 : String := "MobileMaker$Weight"
def TX10 : u_T := fun k => match k with
  | 0 => ("MobileMaker$Part", "number", "I", true)
  | 1 => ("MobileMaker$Part", "kind", "I", true)
  | 2 => ("MobileMaker$Part", "own", "I", true)
  | 3 => ("MobileMaker$Part", "above", "LMobileMaker$Rod;", false)
  | 4 => ("MobileMaker$Part", "end", "I", false)
  | 5 => ("MobileMaker$Part", "thread", "I", false)
  | 6 => ("MobileMaker$Part", "path", "J", false)
  | 7 => ("MobileMaker$Part", "height", "I", false)
  | 8 => ("MobileMaker$Part", "load", "J", false)
  | _ => ("MobileMaker$Part", "bareLoss", "J", false)
def tyX10 : Nat → FieldType := fun k => match k with
  | 0 => .int
  | 1 => .int
  | 2 => .int
  | 3 => .object "MobileMaker$Rod"
  | 4 => .int
  | 5 => .int
  | 6 => .long
  | 7 => .int
  | 8 => .long
  | _ => .long
abbrev wsX100 : List Cond := u_ws RX10 TX10 10
theorem nmX10 : ∀ a, a < 10 → ∀ b, b < 10 → a ≠ b → (TX10 a).2.1 ≠ (TX10 b).2.1 := by decide +kernel
theorem tyX10_ok : ∀ k, k < 10 → parseFieldDescriptor (TX10 k).2.2.1 = some (tyX10 k) := by decide +kernel
abbrev cX10_init : ByteArray := prog_12_method_1_code
def yX10_init : MethodName := ⟨RX10, "<init>", "(II)V"⟩
def RX11 : String := "MobileMaker"
def TX11 : u_T := fun k => match k with
  | 0 => ("MobileMaker", "trays", "[LMobileMaker$Tray;", true)
  | 1 => ("MobileMaker", "parts", "[LMobileMaker$Part;", true)
  | 2 => ("MobileMaker", "made", "I", false)
  | 3 => ("MobileMaker", "status", "I", false)
  | 4 => ("MobileMaker", "mobile", "LMobileMaker$Mobile;", true)
  | 5 => ("MobileMaker", "ring", "LMobileMaker$Ring;", true)
  | 6 => ("MobileMaker", "one", "LMobileMaker$Span;", true)
  | 7 => ("MobileMaker", "other", "LMobileMaker$Span;", true)
  | 8 => ("MobileMaker", "clearing", "LMobileMaker$Clearing;", true)
  | 9 => ("MobileMaker", "parting", "LMobileMaker$Parting;", true)
  | 10 => ("MobileMaker", "suspects", "[I", true)
  | 11 => ("MobileMaker", "suspected", "I", false)
  | _ => ("MobileMaker", "shown", "LMobileMaker$Text;", true)
def tyX11 : Nat → FieldType := fun k => match k with
  | 0 => .array (.object "MobileMaker$Tray")
  | 1 => .array (.object "MobileMaker$Part")
  | 2 => .int
  | 3 => .int
  | 4 => .object "MobileMaker$Mobile"
  | 5 => .object "MobileMaker$Ring"
  | 6 => .object "MobileMaker$Span"
  | 7 => .object "MobileMaker$Span"
  | 8 => .object "MobileMaker$Clearing"
  | 9 => .object "MobileMaker$Parting"
  | 10 => .array .int
  | 11 => .int
  | _ => .object "MobileMaker$Text"
abbrev wsX110 : List Cond := u_ws RX11 TX11 13
theorem nmX11 : ∀ a, a < 13 → ∀ b, b < 13 → a ≠ b → (TX11 a).2.1 ≠ (TX11 b).2.1 := by decide +kernel
theorem tyX11_ok : ∀ k, k < 13 → parseFieldDescriptor (TX11 k).2.2.1 = some (tyX11 k) := by decide +kernel
abbrev cX11_init : ByteArray := prog_1_method_1_code
def yX11_init : MethodName := ⟨RX11, "<init>", "()V"⟩
abbrev cX11_status : ByteArray := prog_1_method_2_code
def yX11_status : MethodName := ⟨RX11, "status", "()I"⟩
abbrev cX11_tray : ByteArray := prog_1_method_3_code
def yX11_tray : MethodName := ⟨RX11, "tray", "(III)Z"⟩
abbrev cX11_write : ByteArray := prog_1_method_4_code
def yX11_write : MethodName := ⟨RX11, "write", "(IIJ)Z"⟩
abbrev cX11_read : ByteArray := prog_1_method_5_code
def yX11_read : MethodName := ⟨RX11, "read", "(II)J"⟩
abbrev cX11_pour : ByteArray := prog_1_method_6_code
def yX11_pour : MethodName := ⟨RX11, "pour", "(IIIII)Z"⟩
abbrev cX11_weight : ByteArray := prog_1_method_7_code
def yX11_weight : MethodName := ⟨RX11, "weight", "(I)I"⟩
abbrev cX11_load : ByteArray := prog_1_method_8_code
def yX11_load : MethodName := ⟨RX11, "load", "(II)I"⟩
abbrev cX11_rod : ByteArray := prog_1_method_9_code
def yX11_rod : MethodName := ⟨RX11, "rod", "(IIZ)I"⟩
abbrev cX11_plate : ByteArray := prog_1_method_10_code
def yX11_plate : MethodName := ⟨RX11, "plate", "(II)I"⟩
abbrev cX11_part : ByteArray := prog_1_method_11_code
def yX11_part : MethodName := ⟨RX11, "part", "(II)I"⟩
abbrev cX11_rodAt : ByteArray := prog_1_method_12_code
def yX11_rodAt : MethodName := ⟨RX11, "rodAt", "(II)J"⟩
abbrev cX11_middle : ByteArray := prog_1_method_13_code
def yX11_middle : MethodName := ⟨RX11, "middle", "(II)J"⟩
abbrev cX11_hang : ByteArray := prog_1_method_14_code
def yX11_hang : MethodName := ⟨RX11, "hang", "(IIII)Z"⟩
abbrev cX11_take : ByteArray := prog_1_method_15_code
def yX11_take : MethodName := ⟨RX11, "take", "(I)Z"⟩
abbrev cX11_thread : ByteArray := prog_1_method_16_code
def yX11_thread : MethodName := ⟨RX11, "thread", "(II)Z"⟩
abbrev cX11_tied : ByteArray := prog_1_method_17_code
def yX11_tied : MethodName := ⟨RX11, "tied", "(III)Z"⟩
abbrev cX11_swap : ByteArray := prog_1_method_18_code
def yX11_swap : MethodName := ⟨RX11, "swap", "(I)Z"⟩
abbrev cX11_bears : ByteArray := prog_1_method_19_code
def yX11_bears : MethodName := ⟨RX11, "bears", "(I)J"⟩
abbrev cX11_tilts : ByteArray := prog_1_method_20_code
def yX11_tilts : MethodName := ⟨RX11, "tilts", "(I)I"⟩
abbrev cX11_wrong : ByteArray := prog_1_method_21_code
def yX11_wrong : MethodName := ⟨RX11, "wrong", "(I)I"⟩
abbrev cX11_tie : ByteArray := prog_1_method_22_code
def yX11_tie : MethodName := ⟨RX11, "tie", "(II)J"⟩
abbrev cX11_all : ByteArray := prog_1_method_23_code
def yX11_all : MethodName := ⟨RX11, "all", "(I)I"⟩
abbrev cX11_reach : ByteArray := prog_1_method_24_code
def yX11_reach : MethodName := ⟨RX11, "reach", "(IIZ)I"⟩
abbrev cX11_lowest : ByteArray := prog_1_method_25_code
def yX11_lowest : MethodName := ⟨RX11, "lowest", "(I)I"⟩
abbrev cX11_clash : ByteArray := prog_1_method_26_code
def yX11_clash : MethodName := ⟨RX11, "clash", "(II)I"⟩
abbrev cX11_clashes : ByteArray := prog_1_method_27_code
def yX11_clashes : MethodName := ⟨RX11, "clashes", "(I)I"⟩
abbrev cX11_clear : ByteArray := prog_1_method_28_code
def yX11_clear : MethodName := ⟨RX11, "clear", "(I)I"⟩
abbrev cX11_ways : ByteArray := prog_1_method_29_code
def yX11_ways : MethodName := ⟨RX11, "ways", "(II)I"⟩
abbrev cX11_fill : ByteArray := prog_1_method_30_code
def yX11_fill : MethodName := ⟨RX11, "fill", "(III)I"⟩
abbrev cX11_fewest : ByteArray := prog_1_method_31_code
def yX11_fewest : MethodName := ⟨RX11, "fewest", "(II)I"⟩
abbrev cX11_suspect : ByteArray := prog_1_method_32_code
def yX11_suspect : MethodName := ⟨RX11, "suspect", "(I)I"⟩
abbrev cX11_cut : ByteArray := prog_1_method_33_code
def yX11_cut : MethodName := ⟨RX11, "cut", "()I"⟩
abbrev cX11_same : ByteArray := prog_1_method_34_code
def yX11_same : MethodName := ⟨RX11, "same", "(II)I"⟩
abbrev cX11_show : ByteArray := prog_1_method_35_code
def yX11_show : MethodName := ⟨RX11, "show", "(I)I"⟩
abbrev cX11_out : ByteArray := prog_1_method_36_code
def yX11_out : MethodName := ⟨RX11, "out", "(I)I"⟩
abbrev cX11_allows : ByteArray := prog_1_method_37_code
def yX11_allows : MethodName := ⟨RX11, "allows", "()Z"⟩
abbrev cX11_refuses : ByteArray := prog_1_method_38_code
def yX11_refuses : MethodName := ⟨RX11, "refuses", "(I)Z"⟩
abbrev cX11_none : ByteArray := prog_1_method_39_code
def yX11_none : MethodName := ⟨RX11, "none", "(I)I"⟩
abbrev cX11_trayAt : ByteArray := prog_1_method_40_code
def yX11_trayAt : MethodName := ⟨RX11, "trayAt", "(I)LMobileMaker$Tray;"⟩
abbrev cX11_partAt : ByteArray := prog_1_method_41_code
def yX11_partAt : MethodName := ⟨RX11, "partAt", "(I)LMobileMaker$Part;"⟩
abbrev cX11_asRod : ByteArray := prog_1_method_42_code
def yX11_asRod : MethodName := ⟨RX11, "asRod", "(LMobileMaker$Part;)LMobileMaker$Rod;"⟩
abbrev cX11_placeStatus : ByteArray := prog_1_method_43_code
def yX11_placeStatus : MethodName := ⟨RX11, "placeStatus", "(LMobileMaker$Tray;I)I"⟩
abbrev cX11_rodGiven : ByteArray := prog_1_method_44_code
def yX11_rodGiven : MethodName := ⟨RX11, "rodGiven", "(I)LMobileMaker$Rod;"⟩
abbrev cX11_topGiven : ByteArray := prog_1_method_45_code
def yX11_topGiven : MethodName := ⟨RX11, "topGiven", "(I)LMobileMaker$Part;"⟩
abbrev cX11_wholeTopStatus : ByteArray := prog_1_method_46_code
def yX11_wholeTopStatus : MethodName := ⟨RX11, "wholeTopStatus", "(I)I"⟩
abbrev cX11_isThread : ByteArray := prog_1_method_47_code
def yX11_isThread : MethodName := ⟨RX11, "isThread", "(I)Z"⟩
abbrev cX11_newWeight : ByteArray := prog_1_method_48_code
def yX11_newWeight : MethodName := ⟨RX11, "newWeight", "(J)I"⟩
abbrev cX11_added : ByteArray := prog_1_method_49_code
def yX11_added : MethodName := ⟨RX11, "added", "(LMobileMaker$Part;)I"⟩
abbrev cX11_partTold : ByteArray := prog_1_method_50_code
def yX11_partTold : MethodName := ⟨RX11, "partTold", "(LMobileMaker$Part;I)I"⟩
abbrev cX11_rodTold : ByteArray := prog_1_method_51_code
def yX11_rodTold : MethodName := ⟨RX11, "rodTold", "(LMobileMaker$Rod;I)J"⟩
abbrev cX11_topOf : ByteArray := prog_1_method_52_code
def yX11_topOf : MethodName := ⟨RX11, "topOf", "(LMobileMaker$Part;)LMobileMaker$Part;"⟩
abbrev cX11_heightOf : ByteArray := prog_1_method_53_code
def yX11_heightOf : MethodName := ⟨RX11, "heightOf", "(LMobileMaker$Part;)I"⟩
abbrev cX11_isAbove : ByteArray := prog_1_method_54_code
def yX11_isAbove : MethodName := ⟨RX11, "isAbove", "(LMobileMaker$Part;LMobileMaker$Part;)Z"⟩
abbrev cX11_lastAboveBoth : ByteArray := prog_1_method_55_code
def yX11_lastAboveBoth : MethodName := ⟨RX11, "lastAboveBoth", "(LMobileMaker$Part;LMobileMaker$Part;)LMobileMaker$Rod;"⟩
abbrev cX11_canTouch : ByteArray := prog_1_method_56_code
def yX11_canTouch : MethodName := ⟨RX11, "canTouch", "(LMobileMaker$Rod;)Z"⟩
abbrev cX11_canMeet : ByteArray := prog_1_method_57_code
def yX11_canMeet : MethodName := ⟨RX11, "canMeet", "(LMobileMaker$Part;LMobileMaker$Part;I)Z"⟩
abbrev cX11_prepareClearing : ByteArray := prog_1_method_58_code
def yX11_prepareClearing : MethodName := ⟨RX11, "prepareClearing", "()V"⟩
abbrev cX11_givenStatus : ByteArray := prog_1_method_59_code
def yX11_givenStatus : MethodName := ⟨RX11, "givenStatus", "(II)I"⟩
abbrev cX11_shapeStatus : ByteArray := prog_1_method_60_code
def yX11_shapeStatus : MethodName := ⟨RX11, "shapeStatus", "(LMobileMaker$Part;LMobileMaker$Tray;)I"⟩
abbrev cX11_waysFound : ByteArray := prog_1_method_61_code
def yX11_waysFound : MethodName := ⟨RX11, "waysFound", "(LMobileMaker$Part;LMobileMaker$Tray;)I"⟩
abbrev cX11_fewestStatus : ByteArray := prog_1_method_62_code
def yX11_fewestStatus : MethodName := ⟨RX11, "fewestStatus", "(LMobileMaker$Part;I)I"⟩
abbrev cX11_suspectAllWeights : ByteArray := prog_1_method_63_code
def yX11_suspectAllWeights : MethodName := ⟨RX11, "suspectAllWeights", "()V"⟩
abbrev cX11_areAlike : ByteArray := prog_1_method_64_code
def yX11_areAlike : MethodName := ⟨RX11, "areAlike", "(LMobileMaker$Part;LMobileMaker$Part;I)Z"⟩
abbrev cX11_areSidesAlike : ByteArray := prog_1_method_65_code
def yX11_areSidesAlike : MethodName := ⟨RX11, "areSidesAlike", "(LMobileMaker$Part;LMobileMaker$Part;I)Z"⟩
abbrev cX11_commonDivisor : ByteArray := prog_1_method_66_code
def yX11_commonDivisor : MethodName := ⟨RX11, "commonDivisor", "(JJ)J"⟩
def RX12 : String := "MobileMakerModel"
def TX12 : u_T := fun k => match k with
  | 0 => ("MobileMakerModel", "status", "I", false)
  | 1 => ("MobileMakerModel", "thrown", "I", false)
  | 2 => ("MobileMakerModel", "traySort", "[I", true)
  | 3 => ("MobileMakerModel", "trayMany", "[I", true)
  | 4 => ("MobileMakerModel", "numbers", "[J", true)
  | 5 => ("MobileMakerModel", "parts", "I", false)
  | 6 => ("MobileMakerModel", "kind", "[I", true)
  | 7 => ("MobileMakerModel", "heft", "[I", true)
  | 8 => ("MobileMakerModel", "length", "[I", true)
  | 9 => ("MobileMakerModel", "on", "[I", true)
  | 10 => ("MobileMakerModel", "at", "[I", true)
  | 11 => ("MobileMakerModel", "thread", "[I", true)
  | 12 => ("MobileMakerModel", "own", "[J", true)
  | 13 => ("MobileMakerModel", "p", "[J", true)
  | 14 => ("MobileMakerModel", "q", "[J", true)
  | 15 => ("MobileMakerModel", "left", "[I", true)
  | 16 => ("MobileMakerModel", "right", "[I", true)
  | 17 => ("MobileMakerModel", "corners", "[I", true)
  | 18 => ("MobileMakerModel", "cornerX", "[I", true)
  | 19 => ("MobileMakerModel", "cornerY", "[I", true)
  | 20 => ("MobileMakerModel", "order", "[I", true)
  | 21 => ("MobileMakerModel", "deep", "[I", true)
  | 22 => ("MobileMakerModel", "like", "[I", true)
  | 23 => ("MobileMakerModel", "load", "[J", true)
  | 24 => ("MobileMakerModel", "inIt", "[Z", true)
  | 25 => ("MobileMakerModel", "gone", "[Z", true)
  | 26 => ("MobileMakerModel", "keptMany", "I", false)
  | 27 => ("MobileMakerModel", "kept", "[I", true)
  | 28 => ("MobileMakerModel", "out", "[B", true)
  | 29 => ("MobileMakerModel", "outs", "I", false)
  | 30 => ("MobileMakerModel", "px", "[I", true)
  | 31 => ("MobileMakerModel", "py", "[I", true)
  | 32 => ("MobileMakerModel", "armsWhole", "Z", false)
  | 33 => ("MobileMakerModel", "armsSum", "I", false)
  | 34 => ("MobileMakerModel", "armsMost", "I", false)
  | 35 => ("MobileMakerModel", "pairs", "I", false)
  | 36 => ("MobileMakerModel", "pairA", "[I", true)
  | 37 => ("MobileMakerModel", "pairB", "[I", true)
  | 38 => ("MobileMakerModel", "high", "[I", true)
  | 39 => ("MobileMakerModel", "more", "[I", true)
  | 40 => ("MobileMakerModel", "hangs", "[I", true)
  | 41 => ("MobileMakerModel", "ends", "I", false)
  | 42 => ("MobileMakerModel", "things", "I", false)
  | 43 => ("MobileMakerModel", "top2", "[J", true)
  | 44 => ("MobileMakerModel", "low2", "[J", true)
  | 45 => ("MobileMakerModel", "want", "[J", true)
  | 46 => ("MobileMakerModel", "value", "[J", true)
  | 47 => ("MobileMakerModel", "walk", "[I", true)
  | 48 => ("MobileMakerModel", "walkEnd", "[I", true)
  | 49 => ("MobileMakerModel", "freeTop", "[J", true)
  | 50 => ("MobileMakerModel", "freeLow", "[J", true)
  | 51 => ("MobileMakerModel", "tooSmall", "Z", false)
  | 52 => ("MobileMakerModel", "counts", "[I", true)
  | 53 => ("MobileMakerModel", "sumOf", "[J", true)
  | 54 => ("MobileMakerModel", "choice", "[I", true)
  | 55 => ("MobileMakerModel", "waits", "[I", true)
  | 56 => ("MobileMakerModel", "waitsFor", "[I", true)
  | _ => ("MobileMakerModel", "waiting", "I", false)
def tyX12 : Nat → FieldType := fun k => match k with
  | 0 => .int
  | 1 => .int
  | 2 => .array .int
  | 3 => .array .int
  | 4 => .array .long
  | 5 => .int
  | 6 => .array .int
  | 7 => .array .int
  | 8 => .array .int
  | 9 => .array .int
  | 10 => .array .int
  | 11 => .array .int
  | 12 => .array .long
  | 13 => .array .long
  | 14 => .array .long
  | 15 => .array .int
  | 16 => .array .int
  | 17 => .array .int
  | 18 => .array .int
  | 19 => .array .int
  | 20 => .array .int
  | 21 => .array .int
  | 22 => .array .int
  | 23 => .array .long
  | 24 => .array .boolean
  | 25 => .array .boolean
  | 26 => .int
  | 27 => .array .int
  | 28 => .array .byte
  | 29 => .int
  | 30 => .array .int
  | 31 => .array .int
  | 32 => .boolean
  | 33 => .int
  | 34 => .int
  | 35 => .int
  | 36 => .array .int
  | 37 => .array .int
  | 38 => .array .int
  | 39 => .array .int
  | 40 => .array .int
  | 41 => .int
  | 42 => .int
  | 43 => .array .long
  | 44 => .array .long
  | 45 => .array .long
  | 46 => .array .long
  | 47 => .array .int
  | 48 => .array .int
  | 49 => .array .long
  | 50 => .array .long
  | 51 => .boolean
  | 52 => .array .int
  | 53 => .array .long
  | 54 => .array .int
  | 55 => .array .int
  | 56 => .array .int
  | _ => .int
abbrev wsX120 : List Cond := u_ws RX12 TX12 58
theorem nmX12 : ∀ a, a < 58 → ∀ b, b < 58 → a ≠ b → (TX12 a).2.1 ≠ (TX12 b).2.1 := by decide +kernel
theorem tyX12_ok : ∀ k, k < 58 → parseFieldDescriptor (TX12 k).2.2.1 = some (tyX12 k) := by decide +kernel
abbrev cX12_init : ByteArray := prog_14_method_1_code
def yX12_init : MethodName := ⟨RX12, "<init>", "()V"⟩
abbrev cX12_thrown : ByteArray := prog_14_method_2_code
def yX12_thrown : MethodName := ⟨RX12, "thrown", "()I"⟩
abbrev cX12_status : ByteArray := prog_14_method_3_code
def yX12_status : MethodName := ⟨RX12, "status", "()I"⟩
abbrev cX12_refuse : ByteArray := prog_14_method_4_code
def yX12_refuse : MethodName := ⟨RX12, "refuse", "(I)I"⟩
abbrev cX12_no : ByteArray := prog_14_method_5_code
def yX12_no : MethodName := ⟨RX12, "no", "(I)Z"⟩
abbrev cX12_cut : ByteArray := prog_14_method_6_code
def yX12_cut : MethodName := ⟨RX12, "cut", "(IJ)J"⟩
abbrev cX12_tray : ByteArray := prog_14_method_7_code
def yX12_tray : MethodName := ⟨RX12, "tray", "(III)Z"⟩
abbrev cX12_placed : ByteArray := prog_14_method_8_code
def yX12_placed : MethodName := ⟨RX12, "placed", "(II)I"⟩
abbrev cX12_write : ByteArray := prog_14_method_9_code
def yX12_write : MethodName := ⟨RX12, "write", "(IIJ)Z"⟩
abbrev cX12_read : ByteArray := prog_14_method_10_code
def yX12_read : MethodName := ⟨RX12, "read", "(II)J"⟩
abbrev cX12_pour : ByteArray := prog_14_method_11_code
def yX12_pour : MethodName := ⟨RX12, "pour", "(IIIII)Z"⟩
abbrev cX12_newPart : ByteArray := prog_14_method_12_code
def yX12_newPart : MethodName := ⟨RX12, "newPart", "(IJ)I"⟩
abbrev cX12_newWeight : ByteArray := prog_14_method_13_code
def yX12_newWeight : MethodName := ⟨RX12, "newWeight", "(J)I"⟩
abbrev cX12_weight : ByteArray := prog_14_method_14_code
def yX12_weight : MethodName := ⟨RX12, "weight", "(I)I"⟩
abbrev cX12_load : ByteArray := prog_14_method_15_code
def yX12_load : MethodName := ⟨RX12, "load", "(II)I"⟩
abbrev cX12_rod : ByteArray := prog_14_method_16_code
def yX12_rod : MethodName := ⟨RX12, "rod", "(IIZ)I"⟩
abbrev cX12_turn : ByteArray := prog_14_method_17_code
def yX12_turn : MethodName := ⟨RX12, "turn", "(III)J"⟩
abbrev cX12_isOn : ByteArray := prog_14_method_18_code
def yX12_isOn : MethodName := ⟨RX12, "isOn", "(III)Z"⟩
abbrev cX12_sign : ByteArray := prog_14_method_19_code
def yX12_sign : MethodName := ⟨RX12, "sign", "(J)I"⟩
abbrev cX12_touches : ByteArray := prog_14_method_20_code
def yX12_touches : MethodName := ⟨RX12, "touches", "(IIII)Z"⟩
abbrev cX12_isRing : ByteArray := prog_14_method_21_code
def yX12_isRing : MethodName := ⟨RX12, "isRing", "(I)Z"⟩
abbrev cX12_plate : ByteArray := prog_14_method_22_code
def yX12_plate : MethodName := ⟨RX12, "plate", "(II)I"⟩
abbrev cX12_common : ByteArray := prog_14_method_23_code
def yX12_common : MethodName := ⟨RX12, "common", "(JJ)J"⟩
abbrev cX12_middle : ByteArray := prog_14_method_24_code
def yX12_middle : MethodName := ⟨RX12, "middle", "(II)J"⟩
abbrev cX12_isPart : ByteArray := prog_14_method_25_code
def yX12_isPart : MethodName := ⟨RX12, "isPart", "(I)Z"⟩
abbrev cX12_isRod : ByteArray := prog_14_method_26_code
def yX12_isRod : MethodName := ⟨RX12, "isRod", "(I)Z"⟩
abbrev cX12_topOf : ByteArray := prog_14_method_27_code
def yX12_topOf : MethodName := ⟨RX12, "topOf", "(I)I"⟩
abbrev cX12_heightOf : ByteArray := prog_14_method_28_code
def yX12_heightOf : MethodName := ⟨RX12, "heightOf", "(I)I"⟩
abbrev cX12_part : ByteArray := prog_14_method_29_code
def yX12_part : MethodName := ⟨RX12, "part", "(II)I"⟩
abbrev cX12_rodded : ByteArray := prog_14_method_30_code
def yX12_rodded : MethodName := ⟨RX12, "rodded", "(I)I"⟩
abbrev cX12_rodAt : ByteArray := prog_14_method_31_code
def yX12_rodAt : MethodName := ⟨RX12, "rodAt", "(II)J"⟩
abbrev cX12_isAbove : ByteArray := prog_14_method_32_code
def yX12_isAbove : MethodName := ⟨RX12, "isAbove", "(II)Z"⟩
abbrev cX12_hang : ByteArray := prog_14_method_33_code
def yX12_hang : MethodName := ⟨RX12, "hang", "(IIII)Z"⟩
abbrev cX12_takeOff : ByteArray := prog_14_method_34_code
def yX12_takeOff : MethodName := ⟨RX12, "takeOff", "(I)V"⟩
abbrev cX12_take : ByteArray := prog_14_method_35_code
def yX12_take : MethodName := ⟨RX12, "take", "(I)Z"⟩
abbrev cX12_thread : ByteArray := prog_14_method_36_code
def yX12_thread : MethodName := ⟨RX12, "thread", "(II)Z"⟩
abbrev cX12_tied : ByteArray := prog_14_method_37_code
def yX12_tied : MethodName := ⟨RX12, "tied", "(III)Z"⟩
abbrev cX12_swap : ByteArray := prog_14_method_38_code
def yX12_swap : MethodName := ⟨RX12, "swap", "(I)Z"⟩
abbrev cX12_orders : ByteArray := prog_14_method_39_code
def yX12_orders : MethodName := ⟨RX12, "orders", "()V"⟩
abbrev cX12_loads : ByteArray := prog_14_method_40_code
def yX12_loads : MethodName := ⟨RX12, "loads", "()V"⟩
abbrev cX12_allThere : ByteArray := prog_14_method_41_code
def yX12_allThere : MethodName := ⟨RX12, "allThere", "()V"⟩
abbrev cX12_loadAt : ByteArray := prog_14_method_42_code
def yX12_loadAt : MethodName := ⟨RX12, "loadAt", "(I)J"⟩
abbrev cX12_levelP : ByteArray := prog_14_method_43_code
def yX12_levelP : MethodName := ⟨RX12, "levelP", "(I)J"⟩
abbrev cX12_levelQ : ByteArray := prog_14_method_44_code
def yX12_levelQ : MethodName := ⟨RX12, "levelQ", "(I)J"⟩
abbrev cX12_tilt : ByteArray := prog_14_method_45_code
def yX12_tilt : MethodName := ⟨RX12, "tilt", "(I)I"⟩
abbrev cX12_bears : ByteArray := prog_14_method_46_code
def yX12_bears : MethodName := ⟨RX12, "bears", "(I)J"⟩
abbrev cX12_tilts : ByteArray := prog_14_method_47_code
def yX12_tilts : MethodName := ⟨RX12, "tilts", "(I)I"⟩
abbrev cX12_marks : ByteArray := prog_14_method_48_code
def yX12_marks : MethodName := ⟨RX12, "marks", "(I)V"⟩
abbrev cX12_topped : ByteArray := prog_14_method_49_code
def yX12_topped : MethodName := ⟨RX12, "topped", "(I)I"⟩
abbrev cX12_wrongRods : ByteArray := prog_14_method_50_code
def yX12_wrongRods : MethodName := ⟨RX12, "wrongRods", "()I"⟩
abbrev cX12_wrong : ByteArray := prog_14_method_51_code
def yX12_wrong : MethodName := ⟨RX12, "wrong", "(I)I"⟩
abbrev cX12_canBeLevel : ByteArray := prog_14_method_52_code
def yX12_canBeLevel : MethodName := ⟨RX12, "canBeLevel", "(I)Z"⟩
abbrev cX12_tie : ByteArray := prog_14_method_53_code
def yX12_tie : MethodName := ⟨RX12, "tie", "(II)J"⟩
abbrev cX12_all : ByteArray := prog_14_method_54_code
def yX12_all : MethodName := ⟨RX12, "all", "(I)I"⟩
abbrev cX12_isWhole : ByteArray := prog_14_method_55_code
def yX12_isWhole : MethodName := ⟨RX12, "isWhole", "(I)Z"⟩
abbrev cX12_arm : ByteArray := prog_14_method_56_code
def yX12_arm : MethodName := ⟨RX12, "arm", "(II)I"⟩
abbrev cX12_arms : ByteArray := prog_14_method_57_code
def yX12_arms : MethodName := ⟨RX12, "arms", "(IIZ)V"⟩
abbrev cX12_armsLeast : ByteArray := prog_14_method_58_code
def yX12_armsLeast : MethodName := ⟨RX12, "armsLeast", "()I"⟩
abbrev cX12_reach : ByteArray := prog_14_method_59_code
def yX12_reach : MethodName := ⟨RX12, "reach", "(IIZ)I"⟩
abbrev cX12_lowest : ByteArray := prog_14_method_60_code
def yX12_lowest : MethodName := ⟨RX12, "lowest", "(I)I"⟩
abbrev cX12_lastAbove : ByteArray := prog_14_method_61_code
def yX12_lastAbove : MethodName := ⟨RX12, "lastAbove", "(II)I"⟩
abbrev cX12_near : ByteArray := prog_14_method_62_code
def yX12_near : MethodName := ⟨RX12, "near", "(II)I"⟩
abbrev cX12_clash : ByteArray := prog_14_method_63_code
def yX12_clash : MethodName := ⟨RX12, "clash", "(II)I"⟩
abbrev cX12_wholes : ByteArray := prog_14_method_64_code
def yX12_wholes : MethodName := ⟨RX12, "wholes", "(I)I"⟩
abbrev cX12_findPairs : ByteArray := prog_14_method_65_code
def yX12_findPairs : MethodName := ⟨RX12, "findPairs", "()V"⟩
abbrev cX12_meets : ByteArray := prog_14_method_66_code
def yX12_meets : MethodName := ⟨RX12, "meets", "()I"⟩
abbrev cX12_noMore : ByteArray := prog_14_method_67_code
def yX12_noMore : MethodName := ⟨RX12, "noMore", "()V"⟩
abbrev cX12_clashes : ByteArray := prog_14_method_68_code
def yX12_clashes : MethodName := ⟨RX12, "clashes", "(I)I"⟩
abbrev cX12_clear : ByteArray := prog_14_method_69_code
def yX12_clear : MethodName := ⟨RX12, "clear", "(I)I"⟩
abbrev cX12_areThreads : ByteArray := prog_14_method_70_code
def yX12_areThreads : MethodName := ⟨RX12, "areThreads", "(I)Z"⟩
abbrev cX12_lengthen : ByteArray := prog_14_method_71_code
def yX12_lengthen : MethodName := ⟨RX12, "lengthen", "(II)I"⟩
abbrev cX12_nextChoice : ByteArray := prog_14_method_72_code
def yX12_nextChoice : MethodName := ⟨RX12, "nextChoice", "(I)Z"⟩
abbrev cX12_shapes : ByteArray := prog_14_method_73_code
def yX12_shapes : MethodName := ⟨RX12, "shapes", "(I)I"⟩
abbrev cX12_shapesOn : ByteArray := prog_14_method_74_code
def yX12_shapesOn : MethodName := ⟨RX12, "shapesOn", "(I)I"⟩
abbrev cX12_parted : ByteArray := prog_14_method_75_code
def yX12_parted : MethodName := ⟨RX12, "parted", "(IIIZ)I"⟩
abbrev cX12_isFirstOf : ByteArray := prog_14_method_76_code
def yX12_isFirstOf : MethodName := ⟨RX12, "isFirstOf", "(II)Z"⟩
abbrev cX12_waysOf : ByteArray := prog_14_method_77_code
def yX12_waysOf : MethodName := ⟨RX12, "waysOf", "(I)I"⟩
abbrev cX12_ways : ByteArray := prog_14_method_78_code
def yX12_ways : MethodName := ⟨RX12, "ways", "(II)I"⟩
abbrev cX12_fill : ByteArray := prog_14_method_79_code
def yX12_fill : MethodName := ⟨RX12, "fill", "(III)I"⟩
abbrev cX12_fewest : ByteArray := prog_14_method_80_code
def yX12_fewest : MethodName := ⟨RX12, "fewest", "(II)I"⟩
abbrev cX12_suspect : ByteArray := prog_14_method_81_code
def yX12_suspect : MethodName := ⟨RX12, "suspect", "(I)I"⟩
abbrev cX12_cut_ : ByteArray := prog_14_method_82_code
def yX12_cut_ : MethodName := ⟨RX12, "cut", "()I"⟩
abbrev cX12_isSide : ByteArray := prog_14_method_83_code
def yX12_isSide : MethodName := ⟨RX12, "isSide", "(II)Z"⟩
abbrev cX12_isLike : ByteArray := prog_14_method_84_code
def yX12_isLike : MethodName := ⟨RX12, "isLike", "(II)Z"⟩
abbrev cX12_same : ByteArray := prog_14_method_85_code
def yX12_same : MethodName := ⟨RX12, "same", "(II)I"⟩
abbrev cX12_put : ByteArray := prog_14_method_86_code
def yX12_put : MethodName := ⟨RX12, "put", "(I)V"⟩
abbrev cX12_putNumber : ByteArray := prog_14_method_87_code
def yX12_putNumber : MethodName := ⟨RX12, "putNumber", "(J)V"⟩
abbrev cX12_later : ByteArray := prog_14_method_88_code
def yX12_later : MethodName := ⟨RX12, "later", "(II)V"⟩
abbrev cX12_show : ByteArray := prog_14_method_89_code
def yX12_show : MethodName := ⟨RX12, "show", "(I)I"⟩
abbrev cX12_showPart : ByteArray := prog_14_method_90_code
def yX12_showPart : MethodName := ⟨RX12, "showPart", "(I)V"⟩
abbrev cX12_out : ByteArray := prog_14_method_91_code
def yX12_out : MethodName := ⟨RX12, "out", "(I)I"⟩
def RJ6 : String := "java/lang/Integer"
def TJ6 : u_T := fun k => match k with
  | _ => ("", "", "", false)
def tyJ6 : Nat → FieldType := fun k => match k with
  | _ => .int
abbrev wsJ60 : List Cond := u_ws RJ6 TJ6 0
theorem nmJ6 : ∀ a, a < 0 → ∀ b, b < 0 → a ≠ b → (TJ6 a).2.1 ≠ (TJ6 b).2.1 := by decide +kernel
theorem tyJ6_ok : ∀ k, k < 0 → parseFieldDescriptor (TJ6 k).2.2.1 = some (tyJ6 k) := by decide +kernel
abbrev cJ6_compare_7cf53 : ByteArray := prog_16_method_40_code
def yJ6_compare_7cf53 : MethodName := ⟨RJ6, "compare", "(II)I"⟩
abbrev cJ6_bitCount_0f7a4 : ByteArray := prog_16_method_49_code
def yJ6_bitCount_0f7a4 : MethodName := ⟨RJ6, "bitCount", "(I)I"⟩
def RJ9 : String := "java/lang/Math"
def TJ9 : u_T := fun k => match k with
  | _ => ("", "", "", false)
def tyJ9 : Nat → FieldType := fun k => match k with
  | _ => .int
abbrev wsJ90 : List Cond := u_ws RJ9 TJ9 0
theorem nmJ9 : ∀ a, a < 0 → ∀ b, b < 0 → a ≠ b → (TJ9 a).2.1 ≠ (TJ9 b).2.1 := by decide +kernel
theorem tyJ9_ok : ∀ k, k < 0 → parseFieldDescriptor (TJ9 k).2.2.1 = some (tyJ9 k) := by decide +kernel
abbrev cJ9_abs_0f7a4 : ByteArray := prog_17_method_59_code
def yJ9_abs_0f7a4 : MethodName := ⟨RJ9, "abs", "(I)I"⟩
abbrev cJ9_abs_067f4 : ByteArray := prog_17_method_61_code
def yJ9_abs_067f4 : MethodName := ⟨RJ9, "abs", "(J)J"⟩
abbrev cJ9_max_7cf53 : ByteArray := prog_17_method_65_code
def yJ9_max_7cf53 : MethodName := ⟨RJ9, "max", "(II)I"⟩
abbrev cJ9_min_7cf53 : ByteArray := prog_17_method_69_code
def yJ9_min_7cf53 : MethodName := ⟨RJ9, "min", "(II)I"⟩
def RJ0 : String := "java/lang/String"
def TJ0 : u_T := fun k => match k with
  | _ => ("", "", "", false)
def tyJ0 : Nat → FieldType := fun k => match k with
  | _ => .int
abbrev wsJ00 : List Cond := u_ws RJ0 TJ0 0
theorem nmJ0 : ∀ a, a < 0 → ∀ b, b < 0 → a ≠ b → (TJ0 a).2.1 ≠ (TJ0 b).2.1 := by decide +kernel
theorem tyJ0_ok : ∀ k, k < 0 → parseFieldDescriptor (TJ0 k).2.2.1 = some (tyJ0 k) := by decide +kernel
def RJ10 : String := "java/lang/System"
def TJ10 : u_T := fun k => match k with
  | _ => ("", "", "", false)
def tyJ10 : Nat → FieldType := fun k => match k with
  | _ => .int
abbrev wsJ100 : List Cond := u_ws RJ10 TJ10 0
theorem nmJ10 : ∀ a, a < 0 → ∀ b, b < 0 → a ≠ b → (TJ10 a).2.1 ≠ (TJ10 b).2.1 := by decide +kernel
theorem tyJ10_ok : ∀ k, k < 0 → parseFieldDescriptor (TJ10 k).2.2.1 = some (tyJ10 k) := by decide +kernel
def RJ7 : String := "java/util/Arrays"
def TJ7 : u_T := fun k => match k with
  | _ => ("", "", "", false)
def tyJ7 : Nat → FieldType := fun k => match k with
  | _ => .int
abbrev wsJ70 : List Cond := u_ws RJ7 TJ7 0
theorem nmJ7 : ∀ a, a < 0 → ∀ b, b < 0 → a ≠ b → (TJ7 a).2.1 ≠ (TJ7 b).2.1 := by decide +kernel
theorem tyJ7_ok : ∀ k, k < 0 → parseFieldDescriptor (TJ7 k).2.2.1 = some (tyJ7 k) := by decide +kernel
abbrev cJ7_fill_d0a16 : ByteArray := prog_22_method_101_code
def yJ7_fill_d0a16 : MethodName := ⟨RJ7, "fill", "([JJ)V"⟩
abbrev cJ7_fill_53178 : ByteArray := prog_22_method_103_code
def yJ7_fill_53178 : MethodName := ⟨RJ7, "fill", "([II)V"⟩
def RL : String := "MobileMakerLaw"
abbrev cL_out : ByteArray := method_3_code
def yL_out : MethodName := ⟨RL, "out", "(LMobileMaker;I[J)I"⟩
abbrev cL_law : ByteArray := code
def yL_law : MethodName := ⟨RL, "law", "([I)Z"⟩
abbrev vwCl : List vw_C := [(RX0, TX0, 11), (RX1, TX1, 3), (RX3, TX3, 11), (RX4, TX4, 14), (RX5, TX5, 3), (RX6, TX6, 16), (RX7, TX7, 3), (RX8, TX8, 5), (RX9, TX9, 3), (RX10, TX10, 10), (RX11, TX11, 13), (RX12, TX12, 58)]
def tbG : List Cond := lw_tbl.filter goodWord
theorem tbG_in {w : Cond} (h : w ∈ lw_tbl) (hg : goodWord w = true) : w ∈ tbG := List.mem_filter.mpr ⟨h, hg⟩
theorem tbG_good {w : Cond} (h : w ∈ tbG) : (w.onTables && w.keeps) = true ∨ ∃ ty, w = .arrayClass ty := good_of_word (List.mem_filter.mp h).2
end
section
/-! THE ABSTRACT HEAP: cells 1, 2 .. n-1 lie at b + 1, b + 2 ..; what a cell holds is a row of Ints (a reference: the cell's number, 0 is null) -/
abbrev I_ (x : Int) : Value := .int (Int32.ofInt x)
abbrev L_ (x : Int) : Value := .long (Int64.ofInt x)
abbrev i3 (x : Int) : Prop := -2147483648 ≤ x ∧ x ≤ 2147483647
abbrev i6 (x : Int) : Prop := -9223372036854775808 ≤ x ∧ x ≤ 9223372036854775807
/-- an abstract value, seen from b; retAddr: an address of its own -/
def cv (b : Nat) (v : Value) : Value := match v with
  | .ref 0 => .null
  | .ref (i + 1) => .ref (b + (i + 1))
  | .retAddr a => .ref a
  | v => v
/-- what a slot of kind t (0 int, 1 long, 2 reference) holds -/
def vA (t : Nat) (x : Int) : Value := match t with
  | 0 => I_ x
  | 1 => L_ x
  | _ => .ref x.toNat
def rg (t : Nat) (x : Int) : Prop := match t with
  | 0 => i3 x
  | 1 => i6 x
  | _ => 0 ≤ x
abbrev Shp : Type := Nat × Nat × (Nat → Option Int)
abbrev Hp : Type := Nat → Nat → Int
/-- kinds 0 to 11 are the classes, 12 byte[], 13 int[], 14 long[], 15 boolean[], 16 Part[], 17 Rod[], 18 Tray[], 19 int[][] -/
def ftab : List (List Nat) := [[2, 2, 0, 2, 0, 2, 2, 2, 0, 0, 0], [2, 0, 1], [2, 0, 2, 0, 0, 2, 2, 2, 2, 2, 2], [0, 0, 0, 2, 0, 0, 1, 0, 1, 1, 1, 1, 1, 1], [2, 2, 0], [0, 0, 0, 2, 0, 0, 1, 0, 1, 1, 0, 0, 0, 0, 2, 2], [0, 0, 0], [2, 0, 2, 2, 0], [0, 0, 2], [0, 0, 0, 2, 0, 0, 1, 0, 1, 1], [2, 2, 0, 0, 2, 2, 2, 2, 2, 2, 2, 0, 2], [0, 0, 2, 2, 2, 0, 2, 2, 2, 2, 2, 2, 2, 2, 2, 2, 2, 2, 2, 2, 2, 2, 2, 2, 2, 2, 0, 2, 2, 0, 2, 2, 0, 0, 0, 0, 2, 2, 2, 2, 2, 0, 0, 2, 2, 2, 2, 2, 2, 2, 2, 0, 2, 2, 2, 2, 2, 0]]
def fc (t k : Nat) : Nat := if t < 12 then (ftab.getD t []).getD k 0 else if t = 14 then 1 else if t < 16 then 0 else 2
def nf (t : Nat) : Nat := ([11, 3, 11, 14, 3, 16, 3, 5, 3, 10, 13, 58] : List Nat).getD t 0
def gv (S : Nat → Shp) (g : Hp) (i k : Nat) : Int := match (S i).2.2 k with
  | some v => v
  | none => g i k
def up2 (g : Hp) (i k : Nat) (x : Int) : Hp := fun j q => if j = i ∧ q = k then x else g j q
def upr (g : Hp) (i : Nat) (r : Nat → Int) : Hp := fun j q => if j = i then r q else g j q
def aty (dA : Nat → ClassId) : List (ClassId × FieldType) := [(dA 12, .byte), (dA 13, .int), (dA 14, .long), (dA 15, .boolean), (dA 16, .object "MobileMaker$Part"), (dA 17, .object "MobileMaker$Rod"), (dA 18, .object "MobileMaker$Tray"), (dA 19, .array .int)]
def cel (D : va_G) (dA : Nat → ClassId) (b : Nat) (S : Nat → Shp) (g : Hp) (i : Nat) (H : Heap) : Prop :=
  ((S i).1 < 12 ∧ t_OB (b + i) (D.1 (S i).1) (nf (S i).1) (D.2 (S i).1) H (fun k => cv b (vA (fc (S i).1 k) (gv S g i k)))) ∨
  (12 ≤ (S i).1 ∧ H[b + i]? = some (arrV (dA (S i).1) (S i).2.1 (fun j => cv b (vA (fc (S i).1 j) (g i j)))))
def Pic (D : va_G) (dA : Nat → ClassId) (b n : Nat) (S : Nat → Shp) (g : Hp) (H : Heap) : Prop :=
  H.size = b + n ∧ (∀ i, 0 < i → i < n → cel D dA b S g i H) ∧ ∀ i k, 0 < i → i < n → rg (fc (S i).1 k) (g i k)
/-- what the tables say of the classes -/
def KK (D : va_G) (dA : Nat → ClassId) (U : State) : Prop := va_K D vwCl (aty dA) U ∧ (va_Nc "MobileMaker$Weight" "MobileMaker$Rod" U ∧ va_Nc "MobileMaker$Plate" "MobileMaker$Rod" U) ∧ va_Nc "MobileMaker$Weight" "MobileMaker$Plate" U ∧ va_Nc "MobileMaker$Rod" "MobileMaker$Plate" U
theorem KK.moved {D : va_G} {dA : Nat → ClassId} {u U : State} (hvm : u.vm.Alike U.vm) (h : KK D dA u) : KK D dA U := ⟨va_K.moved hvm h.1, ⟨h.2.1.1.moved hvm, h.2.1.2.moved hvm⟩, h.2.2.1.moved hvm, h.2.2.2.moved hvm⟩
/-- a method: name, its class, bytes; locals, what it returns; cells and slots that it may make; its instructions -/
abbrev MI : Type := (MethodName × String × ByteArray) × (Nat × Option FieldType) × (Nat × Nat) × List (Nat × Instr × Nat)
abbrev Pst : Type := Option Value → Nat → (Nat → Shp) → Hp → Prop
def rop (v : Option Value) : Instr := match v with
  | none => .return_
  | some (.int _) => .ireturn
  | some (.long _) => .lreturn
  | some _ => .areturn
def rok (r : Option FieldType) (v : Option Value) : Prop := match r, v with
  | none, none => True
  | some .int, some (.int _) => True
  | some .boolean, some (.int x) => x = 0 ∨ x = 1
  | some .long, some (.long _) => True
  | some (.object _), some (.ref _) => True
  | _, _ => False
def Ctx (M : MI) (d : Nat) (p : Program) (R : Room) (s : State) (m : MethodId) (args : Array Value) (meth : Method) (c : Code) (b : Nat) (D : va_G) (dA : Nat → ClassId) : Prop :=
  p.tables.exec = Jvm.exec ∧ c.code = M.1.2.2 ∧ c.maxLocals = M.2.1.1 ∧ s.vm.findClass M.1.2.1 = some m.cls ∧ (∀ w ∈ tbG, w.before args s = true) ∧ KK D dA s ∧ b < s.heap.size ∧ meth.name = M.1.1.name ∧ (d ≤ R.frames ∧ 64 * d ≤ R.locals ∧ M.2.2.1.1 ≤ R.cells ∧ M.2.2.1.2 ≤ R.slots) ∧ ∀ q ∈ M.2.2.2, decode M.1.2.2 q.1 = .ok q.2
abbrev AA (b : Nat) : Nat → Prop := fun q => b < q
abbrev lmap (b : Nat) (L : List (Nat × Value)) : List (Nat × Value) := L.map (fun q => (q.1, cv b q.2))
def V (M : MI) (d pc : Nat) (L : List (Nat × Value)) (st : List Value) (n : Nat) (S : Nat → Shp) (g : Hp) (k z : Nat) (P : Pst) : Prop :=
  ∀ (p : Program) (l : Launch) (e : Env) (R : Room) (s : State) (m : MethodId) (args : Array Value) (below : List Frame) (meth : Method) (c : Code) (b : Nat) (D : va_G) (dA : Nat → ClassId) (Q : State → Prop),
    Ctx M d p R s m args meth c b D dA →
    (∀ (v : Option Value) (n' : Nat) (S' : Nat → Shp) (g' : Hp), P v n' S' g' → rok M.2.1.2 v → ∀ (H : Heap) (locs : List Loc) (ls : Array Slot) (pc k z : Nat), k ≤ M.2.2.1.1 → z ≤ M.2.2.1.2 → Pic D dA b n' S' g' H → va_S (AA b) s.heap H locs → decode M.1.2.2 pc = .ok (rop v, 1) → W p l e R s m args below meth c H locs k z Q (F0 m pc ls ((v.map (cv b)).toList))) →
    ∀ (H : Heap) (locs : List Loc) (ls : Array Slot), lv_has ls M.2.1.1 (lmap b L) → Pic D dA b n S g H → va_S (AA b) s.heap H locs →
      W p l e R s m args below meth c H locs k z Q (F0 m pc ls (st.map (cv b)))
def rmM (M : MI) (d : Nat) : Room := { frames := d, cells := M.2.2.1.1, slots := M.2.2.1.2, locals := 64 * d }
def wsM (M : MI) : List Cond := .code M.1.1 M.1.2.2 M.2.1.1 M.2.1.2 :: tbG
def PcM (b : Nat) (D : va_G) (dA : Nat → ClassId) (as : List Value) (n : Nat) (S : Nat → Shp) (g : Hp) : Array Value → State → Prop := fun a U => a = (as.map (cv b)).toArray ∧ Pic D dA b n S g U.heap ∧ KK D dA U ∧ 0 < n
def QcM (r : Option FieldType) (P : Pst) (b : Nat) (D : va_G) (dA : Nat → ClassId) : Array Value → State → Outcome → State → Prop := fun _ st oc t =>
  (∃ (v : Option Value) (n' : Nat) (S' : Nat → Shp) (g' : Hp), oc = .returned (v.map (cv b)) ∧ P v n' S' g' ∧ rok r v ∧ Pic D dA b n' S' g' t.heap) ∧ va_F (AA b) st t
def Runs (M : MI) (d : Nat) (as : List Value) (n : Nat) (S : Nat → Shp) (g : Hp) (P : Pst) : Prop :=
  ∀ (l : Launch) (b : Nat) (D : va_G) (dA : Nat → ClassId), Met l M.1.1 (wsM M) (rmM M d) (PcM b D dA as n S g) (QcM M.2.1.2 P b D dA) M.2.2.1.1 M.2.2.1.2 (AA b)
theorem cv_cat (b : Nat) (v : Value) (h : ∀ a, v ≠ .retAddr a) : (cv b v).category = v.category := by
  cases v with
  | ref a => cases a <;> rfl
  | retAddr a => exact absurd rfl (h a)
  | _ => rfl
theorem cv_cat2 (b : Nat) (v : Value) : (cv b v).category = 2 ↔ v.category = 2 := by
  cases v with
  | ref a => cases a <;> simp [cv, Value.category]
  | retAddr a => simp [cv, Value.category]
  | _ => simp [cv]
theorem cv_catb (b : Nat) (v : Value) : ((cv b v).category == 2) = (v.category == 2) := by
  rw [Bool.eq_iff_iff, beq_iff_eq, beq_iff_eq]
  exact cv_cat2 b v
theorem Ctx.dec {M : MI} {d : Nat} {p : Program} {R : Room} {s : State} {m : MethodId} {args : Array Value} {meth : Method} {c : Code} {b : Nat} {D : va_G} {dA : Nat → ClassId} (C : Ctx M d p R s m args meth c b D dA) {j pc len : Nat} {i : Instr} (h : M.2.2.2[j]? = some (pc, i, len)) : decode M.1.2.2 pc = .ok (i, len) :=
  C.2.2.2.2.2.2.2.2.2 (pc, i, len) (List.mem_of_getElem? h)
/-- a method's contract out of the walk of its body -/
theorem lv_args_map (b : Nat) : ∀ (as : List Value) (i : Nat), lv_args i (as.map (cv b)) = lmap b (lv_args i as)
  | [], _ => rfl
  | v :: vs, i => by
    show (i, cv b v) :: lv_args (if (cv b v).category = 2 then i + 2 else i + 1) (vs.map (cv b)) = (i, cv b v) :: lmap b (lv_args (if v.category = 2 then i + 2 else i + 1) vs)
    rw [lv_args_map b vs]
    by_cases h : v.category = 2
    · rw [if_pos h, if_pos ((cv_cat2 b v).mpr h)]
    · rw [if_neg h, if_neg (fun q => h ((cv_cat2 b v).mp q))]
theorem lg_len_map (b : Nat) (as : List Value) : (lg_sl (as.map (cv b))).length = (lg_sl as).length := by
  unfold lg_sl
  induction as with
  | nil => rfl
  | cons v vs ih =>
    simp only [List.map_cons, List.flatMap_cons, List.length_append]
    rw [ih]
    by_cases h : v.category = 2
    · rw [if_pos h, if_pos ((cv_cat2 b v).mpr h)]; rfl
    · rw [if_neg h, if_neg (fun q => h ((cv_cat2 b v).mp q))]; rfl
theorem rok_none {r : Option FieldType} (h : rok r none) : r = none := by
  cases r with
  | none => rfl
  | some t => cases t <;> exact h.elim
theorem rok_int {r : Option FieldType} {x : Int32} (h : rok r (some (.int x))) : ∃ ty, r = some ty ∧ narrow ty (.int x) = .int x := by
  cases r with
  | none => exact h.elim
  | some t =>
    cases t with
    | int => exact ⟨_, rfl, rfl⟩
    | boolean =>
      refine ⟨_, rfl, ?_⟩
      rcases h with rfl | rfl
      · rfl
      · rfl
    | _ => exact h.elim
theorem rok_long {r : Option FieldType} {x : Int64} (h : rok r (some (.long x))) : r = some .long := by
  cases r with
  | none => exact h.elim
  | some t =>
    cases t with
    | long => rfl
    | _ => exact h.elim
theorem rok_ref {r : Option FieldType} {x : Nat} (h : rok r (some (.ref x))) : ∃ nm, r = some (.object nm) := by
  cases r with
  | none => exact h.elim
  | some t =>
    cases t with
    | object nm => exact ⟨nm, rfl⟩
    | _ => exact h.elim
theorem cv_ref (b a : Nat) : cv b (.ref a) = .null ∨ ∃ q, cv b (.ref a) = .ref q := by
  cases a with
  | zero => exact Or.inl rfl
  | succ a => exact Or.inr ⟨_, rfl⟩
set_option maxHeartbeats 1000000 in
theorem Runs.of {M : MI} {d : Nat} {as : List Value} {n : Nat} {S : Nat → Shp} {g : Hp} {P : Pst} (hpl : plainName M.1.1.cls = true) (hcls : M.1.2.1 = M.1.1.cls) (hdec : ∀ q ∈ M.2.2.2, decode M.1.2.2 q.1 = .ok q.2) (hlen : (lg_sl as).length ≤ M.2.1.1) (hV : V M d 0 (lv_args 0 as) [] n S g 0 0 P) : Runs M d as n S g P := by
  intro l b D dA
  refine Met.ofW (cc := M.1.2.2) (maxL := M.2.1.1) (ret := M.2.1.2) hpl rfl ?_
  intro p e s m args below meth c s₁ B hml hv
  obtain ⟨rfl, hP, hK, hn⟩ := hv
  rw [lg_entry_eq]
  have hl := lv_entry (as.map (cv b)) (n := M.2.1.1) (by rw [lg_len_map]; exact hlen)
  rw [lv_args_map] at hl
  have hts := atoms_spec (ws := wsM M) B.pre
  have hnm := (name_of_methodNamed B.named B.method).1
  have hr := B.returns
  have hlocks := B.notSynchronized
  refine hV p l e _ s m _ below meth c b D dA _ ⟨B.exec, B.bytes, hml, by rw [hcls]; exact findClass_of_methodNamed B.named, fun w hw => hts w (List.mem_cons_of_mem _ hw), hK, by rw [hP.1]; omega, hnm, ⟨Nat.le_refl _, Nat.le_refl _, Nat.le_refl _, Nat.le_refl _⟩, hdec⟩ ?_ s.heap [] _ hl hP va_S.rf
  intro v n' S' g' hPv hrk H locs ls pc k z hk hz hPic hS hdg
  refine W.widen (k := M.2.2.1.1) (n := M.2.2.1.2) hk hz ?_
  have hQ : ∀ t : State, t.heap = H → s.WarmedH t.vm → QcM M.2.1.2 P b D dA (as.map (cv b)).toArray s (.returned (v.map (cv b))) t := fun t ht hW => ⟨⟨v, n', S', g', rfl, hPv, hrk, by rw [ht]; exact hPic⟩, hS.F ht⟩
  cases v with
  | none => exact W.vret B.exec B.bytes (hr.trans (rok_none hrk)) hQ hS.2.2 hdg
  | some w =>
    cases w with
    | int x =>
      obtain ⟨ty, e1, e2⟩ := rok_int hrk
      exact W.zret B.exec B.bytes (hr.trans e1) e2 hQ hS.2.2 hdg
    | long x => exact W.lret B.exec B.bytes (hr.trans (rok_long hrk)) hQ hS.2.2 hdg
    | ref x =>
      obtain ⟨nm, e1⟩ := rok_ref hrk
      exact W.aret B.exec B.bytes (hr.trans e1) (Or.inl ⟨nm, rfl⟩) (cv_ref b x) hQ hS.2.2 hdg
    | float x => exact absurd hrk (by cases M.2.1.2 with | none => exact id | some t => cases t <;> exact id)
    | double x => exact absurd hrk (by cases M.2.1.2 with | none => exact id | some t => cases t <;> exact id)
    | null => exact absurd hrk (by cases M.2.1.2 with | none => exact id | some t => cases t <;> exact id)
    | retAddr x => exact absurd hrk (by cases M.2.1.2 with | none => exact id | some t => cases t <;> exact id)
end
section
/-! ROWS: an instruction each, over the abstract heap -/
section VRows
variable {M : MI} {d pc : Nat} {L L' : List (Nat × Value)} {st : List Value} {n : Nat} {S : Nat → Shp} {g : Hp} {k z : Nat} {P : Pst}
theorem v_go {pc' : Nat} {st' : List Value} (h : V M d pc' L st' n S g k z P)
    (hs : ∀ (p : Program) (l : Launch) (e : Env) (R : Room) (s : State) (m : MethodId) (args : Array Value) (below : List Frame) (meth : Method) (c : Code) (b : Nat) (D : va_G) (dA : Nat → ClassId) (Q : State → Prop), Ctx M d p R s m args meth c b D dA → ∀ (H : Heap) (locs : List Loc) (ls : Array Slot), lv_has ls M.2.1.1 (lmap b L) →
      W p l e R s m args below meth c H locs k z Q (F0 m pc' ls (st'.map (cv b))) → W p l e R s m args below meth c H locs k z Q (F0 m pc ls (st.map (cv b)))) : V M d pc L st n S g k z P :=
  fun p l e R s m args below meth c b D dA Q C hq H locs ls hl hP hS => hs p l e R s m args below meth c b D dA Q C H locs ls hl (h p l e R s m args below meth c b D dA Q C hq H locs ls hl hP hS)
/-- the same with other locals -/
theorem v_goL {pc' : Nat} {st' : List Value} (h : V M d pc' L' st' n S g k z P)
    (hs : ∀ (p : Program) (l : Launch) (e : Env) (R : Room) (s : State) (m : MethodId) (args : Array Value) (below : List Frame) (meth : Method) (c : Code) (b : Nat) (D : va_G) (dA : Nat → ClassId) (Q : State → Prop), Ctx M d p R s m args meth c b D dA → ∀ (H : Heap) (locs : List Loc) (ls : Array Slot), lv_has ls M.2.1.1 (lmap b L) →
      (∀ ls' : Array Slot, lv_has ls' M.2.1.1 (lmap b L') → W p l e R s m args below meth c H locs k z Q (F0 m pc' ls' (st'.map (cv b)))) → W p l e R s m args below meth c H locs k z Q (F0 m pc ls (st.map (cv b)))) : V M d pc L st n S g k z P :=
  fun p l e R s m args below meth c b D dA Q C hq H locs ls hl hP hS => hs p l e R s m args below meth c b D dA Q C H locs ls hl (fun ls' hl' => h p l e R s m args below meth c b D dA Q C hq H locs ls' hl' hP hS)
theorem lmap_at {b : Nat} {ls : Array Slot} {N q i : Nat} {v : Value} (hl : lv_has ls N (lmap b L)) (h : L[q]? = some (i, v)) : ls[i]? = some (.val (cv b v)) :=
  lv_at hl q (by show (L.map _)[q]? = _; rw [List.getElem?_map, h]; rfl)
theorem lmap_sub {b : Nat} {ls : Array Slot} {N : Nat} (hl : lv_has ls N (lmap b L)) (ks : List Nat) (h : lv_pick L ks = L') : lv_has ls N (lmap b L') := by
  refine lv_sub hl ks ?_
  subst h
  unfold lv_pick lmap
  rw [List.map_filterMap]
  congr 1
  funext q
  rw [List.getElem?_map]
theorem v_loc (ks : List Nat) (hL : lv_pick L ks = L') (h : V M d pc L' st n S g k z P) : V M d pc L st n S g k z P :=
  fun p l e R s m args below meth c b D dA Q C hq H locs ls hl hP hS => h p l e R s m args below meth c b D dA Q C hq H locs ls (lmap_sub hl ks hL) hP hS
/-- locals behind a store -/
def sl1 (i : Nat) (v : Value) (L : List (Nat × Value)) : List (Nat × Value) := (i, v) :: L.filter (fun q => !(q.1 == i) && !(q.1 + 1 == i && q.2.category == 2))
def sl2 (i : Nat) (v : Value) (L : List (Nat × Value)) : List (Nat × Value) := (i, v) :: L.filter (fun q => !(q.1 == i) && (!(q.1 == i + 1) && !(q.1 + 1 == i && q.2.category == 2)))
theorem sl1_map (b i : Nat) (v : Value) (L : List (Nat × Value)) : (i, cv b v) :: (lmap b L).filter (fun q => !(q.1 == i) && !(q.1 + 1 == i && q.2.category == 2)) = lmap b (sl1 i v L) := by
  unfold sl1 lmap
  rw [List.map_cons, List.filter_map]
  congr 2
  apply List.filter_congr
  intro q _
  simp only [Function.comp, cv_catb]
theorem sl2_map (b i : Nat) (v : Value) (L : List (Nat × Value)) : (i, cv b v) :: (lmap b L).filter (fun q => !(q.1 == i) && (!(q.1 == i + 1) && !(q.1 + 1 == i && q.2.category == 2))) = lmap b (sl2 i v L) := by
  unfold sl2 lmap
  rw [List.map_cons, List.filter_map]
  congr 2
  apply List.filter_congr
  intro q _
  simp only [Function.comp, cv_catb]
theorem i3_of {x : Int} (h : i3 x) : (Int32.ofInt x).toInt = x := by
  rw [Int32.toInt_ofInt]
  exact Int.bmod_eq_of_le (by have := h.1; simp [Int32.size]; omega) (by have := h.2; simp [Int32.size]; omega)
theorem i6_of {x : Int} (h : i6 x) : (Int64.ofInt x).toInt = x := by
  rw [Int64.toInt_ofInt]
  exact Int.bmod_eq_of_le (by have := h.1; simp [Int64.size]; omega) (by have := h.2; simp [Int64.size]; omega)
theorem i3_eq {x y : Int} (hx : i3 x) (hy : i3 y) : Int32.ofInt x = Int32.ofInt y ↔ x = y := by
  rw [← Int32.toInt_inj, i3_of hx, i3_of hy]
theorem i3_le {x y : Int} (hx : i3 x) (hy : i3 y) : Int32.ofInt x ≤ Int32.ofInt y ↔ x ≤ y := by
  rw [Int32.le_iff_toInt_le, i3_of hx, i3_of hy]
theorem i3_lt {x y : Int} (hx : i3 x) (hy : i3 y) : Int32.ofInt x < Int32.ofInt y ↔ x < y := by
  rw [Int32.lt_iff_toInt_lt, i3_of hx, i3_of hy]
theorem i6_eq {x y : Int} (hx : i6 x) (hy : i6 y) : Int64.ofInt x = Int64.ofInt y ↔ x = y := by
  rw [← Int64.toInt_inj, i6_of hx, i6_of hy]
theorem i6_le {x y : Int} (hx : i6 x) (hy : i6 y) : Int64.ofInt x ≤ Int64.ofInt y ↔ x ≤ y := by
  rw [Int64.le_iff_toInt_le, i6_of hx, i6_of hy]
theorem i6_lt {x y : Int} (hx : i6 x) (hy : i6 y) : Int64.ofInt x < Int64.ofInt y ↔ x < y := by
  rw [Int64.lt_iff_toInt_lt, i6_of hx, i6_of hy]
theorem i3_0 : i3 0 := by decide
theorem v_iload_n {f : Fin 4} {i : Nat} {x : Int} (j q : Nat) (hd : M.2.2.2[j]? = some (pc, .iload_n f, 1)) (hi : (f : Nat) = i) (hl : L[q]? = some (i, I_ x)) (h : V M d (pc + 1) L (I_ x :: st) n S g k z P) : V M d pc L st n S g k z P :=
  v_go h fun p l e R s m args below meth c b D dA Q C H locs ls hls w => lv_iload_n C.1 C.2.1 (C.dec hd) hi (lmap_at hls hl) w
theorem v_iload {i : Nat} {x : Int} (j q : Nat) (hd : M.2.2.2[j]? = some (pc, .iload i, 2)) (hl : L[q]? = some (i, I_ x)) (h : V M d (pc + 2) L (I_ x :: st) n S g k z P) : V M d pc L st n S g k z P :=
  v_go h fun p l e R s m args below meth c b D dA Q C H locs ls hls w => lv_iload C.1 C.2.1 (C.dec hd) (lmap_at hls hl) w
theorem v_lload_n {f : Fin 4} {i : Nat} {x : Int} (j q : Nat) (hd : M.2.2.2[j]? = some (pc, .lload_n f, 1)) (hi : (f : Nat) = i) (hl : L[q]? = some (i, L_ x)) (h : V M d (pc + 1) L (L_ x :: st) n S g k z P) : V M d pc L st n S g k z P :=
  v_go h fun p l e R s m args below meth c b D dA Q C H locs ls hls w => lv_lload_n C.1 C.2.1 (C.dec hd) hi (lmap_at hls hl) w
theorem v_lload {i : Nat} {x : Int} (j q : Nat) (hd : M.2.2.2[j]? = some (pc, .lload i, 2)) (hl : L[q]? = some (i, L_ x)) (h : V M d (pc + 2) L (L_ x :: st) n S g k z P) : V M d pc L st n S g k z P :=
  v_go h fun p l e R s m args below meth c b D dA Q C H locs ls hls w => lv_lload C.1 C.2.1 (C.dec hd) (lmap_at hls hl) w
theorem v_iconst {v : Int} (j : Nat) (hd : M.2.2.2[j]? = some (pc, .iconst v, 1)) (h : V M d (pc + 1) L (I_ v :: st) n S g k z P) : V M d pc L st n S g k z P :=
  v_go h fun p l e R s m args below meth c b D dA Q C H locs ls hls w => lv_iconst C.1 C.2.1 (C.dec hd) rfl w
theorem v_bipush {v : Int} (j : Nat) (hd : M.2.2.2[j]? = some (pc, .bipush v, 2)) (hv : (Int8.ofInt v).toInt32 = Int32.ofInt v) (h : V M d (pc + 2) L (I_ v :: st) n S g k z P) : V M d pc L st n S g k z P :=
  v_go h fun p l e R s m args below meth c b D dA Q C H locs ls hls w => lv_bipush C.1 C.2.1 (C.dec hd) hv w
theorem v_sipush {v : Int} (j : Nat) (hd : M.2.2.2[j]? = some (pc, .sipush v, 3)) (hv : (Int16.ofInt v).toInt32 = Int32.ofInt v) (h : V M d (pc + 3) L (I_ v :: st) n S g k z P) : V M d pc L st n S g k z P :=
  v_go h fun p l e R s m args below meth c b D dA Q C H locs ls hls w => lv_sipush C.1 C.2.1 (C.dec hd) hv w
theorem v_lconst {f : Fin 2} {v : Int} (j : Nat) (hd : M.2.2.2[j]? = some (pc, .lconst f, 1)) (hv : Int64.ofNat (f : Nat) = Int64.ofInt v) (h : V M d (pc + 1) L (L_ v :: st) n S g k z P) : V M d pc L st n S g k z P :=
  v_go h fun p l e R s m args below meth c b D dA Q C H locs ls hls w => lv_lconst C.1 C.2.1 (C.dec hd) hv w
theorem v_ldc2 {index : Nat} {v : Int} (j : Nat) (hd : M.2.2.2[j]? = some (pc, .ldc2_w index, 3)) (hc : Cond.constantLong M.1.2.1 index (Int64.ofInt v) ∈ tbG) (h : V M d (pc + 3) L (L_ v :: st) n S g k z P) : V M d pc L st n S g k z P :=
  v_go h fun p l e R s m args below meth c b D dA Q C H locs ls hls w => W.ldc2 C.1 C.2.1 C.2.2.2.1 (C.2.2.2.2.1 _ hc) rfl (C.dec hd) w
theorem v_goto {off : Int} {tgt : Nat} (j : Nat) (hd : M.2.2.2[j]? = some (pc, .goto off, 3)) (ht : (pc : Int) + off = (tgt : Int)) (h : V M d tgt L st n S g k z P) : V M d pc L st n S g k z P :=
  v_go h fun p l e R s m args below meth c b D dA Q C H locs ls hls w => lv_goto C.1 C.2.1 (C.dec hd) ht w
end VRows
end
section
section VRows2
variable {M : MI} {d pc : Nat} {L L' : List (Nat × Value)} {st : List Value} {n : Nat} {S : Nat → Shp} {g : Hp} {k z : Nat} {P : Pst}
theorem v_iadd {x y : Int} (j : Nat) (hd : M.2.2.2[j]? = some (pc, .iadd, 1)) (h : V M d (pc + 1) L (I_ (x + y) :: st) n S g k z P) : V M d pc L (I_ y :: I_ x :: st) n S g k z P :=
  v_go h fun p l e R s m args below meth c b D dA Q C H locs ls hls w => lv_iadd C.1 C.2.1 (C.dec hd) (by rw [← Int32.ofInt_add]; exact w)
theorem v_ladd {x y : Int} (j : Nat) (hd : M.2.2.2[j]? = some (pc, .ladd, 1)) (h : V M d (pc + 1) L (L_ (x + y) :: st) n S g k z P) : V M d pc L (L_ y :: L_ x :: st) n S g k z P :=
  v_go h fun p l e R s m args below meth c b D dA Q C H locs ls hls w => lv_ladd C.1 C.2.1 (C.dec hd) (by rw [← Int64.ofInt_add]; exact w)
theorem v_isub {x y : Int} (j : Nat) (hd : M.2.2.2[j]? = some (pc, .isub, 1)) (h : V M d (pc + 1) L (I_ (x - y) :: st) n S g k z P) : V M d pc L (I_ y :: I_ x :: st) n S g k z P :=
  v_go h fun p l e R s m args below meth c b D dA Q C H locs ls hls w => lv_isub C.1 C.2.1 (C.dec hd) (by rw [← Int32.ofInt_sub]; exact w)
theorem v_lsub {x y : Int} (j : Nat) (hd : M.2.2.2[j]? = some (pc, .lsub, 1)) (h : V M d (pc + 1) L (L_ (x - y) :: st) n S g k z P) : V M d pc L (L_ y :: L_ x :: st) n S g k z P :=
  v_go h fun p l e R s m args below meth c b D dA Q C H locs ls hls w => lv_lsub C.1 C.2.1 (C.dec hd) (by rw [← Int64.ofInt_sub]; exact w)
theorem v_imul {x y : Int} (j : Nat) (hd : M.2.2.2[j]? = some (pc, .imul, 1)) (h : V M d (pc + 1) L (I_ (x * y) :: st) n S g k z P) : V M d pc L (I_ y :: I_ x :: st) n S g k z P :=
  v_go h fun p l e R s m args below meth c b D dA Q C H locs ls hls w => lv_imul C.1 C.2.1 (C.dec hd) (by rw [← Int32.ofInt_mul]; exact w)
theorem v_lmul {x y : Int} (j : Nat) (hd : M.2.2.2[j]? = some (pc, .lmul, 1)) (h : V M d (pc + 1) L (L_ (x * y) :: st) n S g k z P) : V M d pc L (L_ y :: L_ x :: st) n S g k z P :=
  v_go h fun p l e R s m args below meth c b D dA Q C H locs ls hls w => lv_lmul C.1 C.2.1 (C.dec hd) (by rw [← Int64.ofInt_mul]; exact w)
theorem v_lneg {x : Int} (j : Nat) (hd : M.2.2.2[j]? = some (pc, .lneg, 1)) (h : V M d (pc + 1) L (L_ (-x) :: st) n S g k z P) : V M d pc L (L_ x :: st) n S g k z P :=
  v_go h fun p l e R s m args below meth c b D dA Q C H locs ls hls w => lv_lneg C.1 C.2.1 (C.dec hd) (by rw [← Int64.ofInt_neg]; exact w)
theorem q3_div {x y : Int} (hx : i3 x) (hy : i3 y) : Int32.ofInt x / Int32.ofInt y = Int32.ofInt (x.tdiv y) := by
  apply Int32.toInt_inj.mp
  rw [Int32.toInt_div, i3_of hx, i3_of hy, Int32.toInt_ofInt]
theorem q6_div {x y : Int} (hx : i6 x) (hy : i6 y) : Int64.ofInt x / Int64.ofInt y = Int64.ofInt (x.tdiv y) := by
  apply Int64.toInt_inj.mp
  rw [Int64.toInt_div, i6_of hx, i6_of hy, Int64.toInt_ofInt]
theorem q_tmod (x y : Int) : x - x.tdiv y * y = x.tmod y := by
  have h := Int.tmod_add_mul_tdiv x y
  rw [Int.mul_comm] at h
  omega
theorem q3_rem {x y : Int} (hx : i3 x) (hy : i3 y) : Int32.ofInt x - Int32.ofInt x / Int32.ofInt y * Int32.ofInt y = Int32.ofInt (x.tmod y) := by
  rw [q3_div hx hy, ← Int32.ofInt_mul, ← Int32.ofInt_sub, q_tmod]
theorem q6_rem {x y : Int} (hx : i6 x) (hy : i6 y) : Int64.ofInt x - Int64.ofInt x / Int64.ofInt y * Int64.ofInt y = Int64.ofInt (x.tmod y) := by
  rw [q6_div hx hy, ← Int64.ofInt_mul, ← Int64.ofInt_sub, q_tmod]
theorem q3_ne {y : Int} (hy : i3 y) (h0 : y ≠ 0) : ¬ Int32.ofInt y = 0 := fun h => h0 ((i3_eq hy i3_0).mp h)
theorem i6_0 : i6 0 := by decide
theorem q6_ne {y : Int} (hy : i6 y) (h0 : y ≠ 0) : ¬ Int64.ofInt y = 0 := fun h => h0 ((i6_eq hy i6_0).mp h)
theorem v_idiv {x y : Int} (j : Nat) (hd : M.2.2.2[j]? = some (pc, .idiv, 1)) (hx : i3 x) (hy : i3 y) (h0 : y ≠ 0) (h : V M d (pc + 1) L (I_ (x.tdiv y) :: st) n S g k z P) : V M d pc L (I_ y :: I_ x :: st) n S g k z P :=
  v_go h fun p l e R s m args below meth c b D dA Q C H locs ls hls w => lv_idiv C.1 C.2.1 (C.dec hd) (q3_ne hy h0) (by rw [q3_div hx hy]; exact w)
theorem v_irem {x y : Int} (j : Nat) (hd : M.2.2.2[j]? = some (pc, .irem, 1)) (hx : i3 x) (hy : i3 y) (h0 : y ≠ 0) (h : V M d (pc + 1) L (I_ (x.tmod y) :: st) n S g k z P) : V M d pc L (I_ y :: I_ x :: st) n S g k z P :=
  v_go h fun p l e R s m args below meth c b D dA Q C H locs ls hls w => lv_irem C.1 C.2.1 (C.dec hd) (q3_ne hy h0) (by rw [q3_rem hx hy]; exact w)
theorem v_ldiv {x y : Int} (j : Nat) (hd : M.2.2.2[j]? = some (pc, .ldiv, 1)) (hx : i6 x) (hy : i6 y) (h0 : y ≠ 0) (h : V M d (pc + 1) L (L_ (x.tdiv y) :: st) n S g k z P) : V M d pc L (L_ y :: L_ x :: st) n S g k z P :=
  v_go h fun p l e R s m args below meth c b D dA Q C H locs ls hls w => lv_ldiv C.1 C.2.1 (C.dec hd) (q6_ne hy h0) (by rw [q6_div hx hy]; exact w)
theorem v_lrem {x y : Int} (j : Nat) (hd : M.2.2.2[j]? = some (pc, .lrem, 1)) (hx : i6 x) (hy : i6 y) (h0 : y ≠ 0) (h : V M d (pc + 1) L (L_ (x.tmod y) :: st) n S g k z P) : V M d pc L (L_ y :: L_ x :: st) n S g k z P :=
  v_go h fun p l e R s m args below meth c b D dA Q C H locs ls hls w => lv_lrem C.1 C.2.1 (C.dec hd) (q6_ne hy h0) (by rw [q6_rem hx hy]; exact w)
theorem cv_c1 (b : Nat) {v : Value} (h : ¬ v.category = 2) : (cv b v).category = 1 := by
  cases v with
  | ref a => cases a <;> rfl
  | long x => exact absurd rfl h
  | double x => exact absurd rfl h
  | _ => rfl
def and3 (x y : Int) : Int := (Int32.ofInt x &&& Int32.ofInt y).toInt
def or3 (x y : Int) : Int := (Int32.ofInt x ||| Int32.ofInt y).toInt
def xor3 (x y : Int) : Int := (Int32.ofInt x ^^^ Int32.ofInt y).toInt
def shl3 (x y : Int) : Int := (Int32.ofInt x <<< (Int32.ofInt y &&& 31)).toInt
def shr3 (x y : Int) : Int := (Int32.ofInt x >>> (Int32.ofInt y &&& 31)).toInt
def and6 (x y : Int) : Int := (Int64.ofInt x &&& Int64.ofInt y).toInt
def or6 (x y : Int) : Int := (Int64.ofInt x ||| Int64.ofInt y).toInt
def xor6 (x y : Int) : Int := (Int64.ofInt x ^^^ Int64.ofInt y).toInt
def shl6 (x y : Int) : Int := (Int64.ofInt x <<< ((Int32.ofInt y).toInt64 &&& 63)).toInt
theorem v_iand {x y : Int} (j : Nat) (hd : M.2.2.2[j]? = some (pc, .iand, 1)) (h : V M d (pc + 1) L (I_ (and3 x y) :: st) n S g k z P) : V M d pc L (I_ y :: I_ x :: st) n S g k z P :=
  v_go h fun p l e R s m args below meth c b D dA Q C H locs ls hls w => lv_iand C.1 C.2.1 (C.dec hd) (by rw [← Int32.ofInt_toInt (Int32.ofInt x &&& Int32.ofInt y)]; exact w)
theorem v_ior {x y : Int} (j : Nat) (hd : M.2.2.2[j]? = some (pc, .ior, 1)) (h : V M d (pc + 1) L (I_ (or3 x y) :: st) n S g k z P) : V M d pc L (I_ y :: I_ x :: st) n S g k z P :=
  v_go h fun p l e R s m args below meth c b D dA Q C H locs ls hls w => lv_ior C.1 C.2.1 (C.dec hd) (by rw [← Int32.ofInt_toInt (Int32.ofInt x ||| Int32.ofInt y)]; exact w)
theorem v_ixor {x y : Int} (j : Nat) (hd : M.2.2.2[j]? = some (pc, .ixor, 1)) (h : V M d (pc + 1) L (I_ (xor3 x y) :: st) n S g k z P) : V M d pc L (I_ y :: I_ x :: st) n S g k z P :=
  v_go h fun p l e R s m args below meth c b D dA Q C H locs ls hls w => lv_ixor C.1 C.2.1 (C.dec hd) (by rw [← Int32.ofInt_toInt (Int32.ofInt x ^^^ Int32.ofInt y)]; exact w)
theorem v_ishl {x y : Int} (j : Nat) (hd : M.2.2.2[j]? = some (pc, .ishl, 1)) (h : V M d (pc + 1) L (I_ (shl3 x y) :: st) n S g k z P) : V M d pc L (I_ y :: I_ x :: st) n S g k z P :=
  v_go h fun p l e R s m args below meth c b D dA Q C H locs ls hls w => lv_ishl C.1 C.2.1 (C.dec hd) (by rw [← Int32.ofInt_toInt (Int32.ofInt x <<< (Int32.ofInt y &&& 31))]; exact w)
theorem v_ishr {x y : Int} (j : Nat) (hd : M.2.2.2[j]? = some (pc, .ishr, 1)) (h : V M d (pc + 1) L (I_ (shr3 x y) :: st) n S g k z P) : V M d pc L (I_ y :: I_ x :: st) n S g k z P :=
  v_go h fun p l e R s m args below meth c b D dA Q C H locs ls hls w => lv_ishr C.1 C.2.1 (C.dec hd) (by rw [← Int32.ofInt_toInt (Int32.ofInt x >>> (Int32.ofInt y &&& 31))]; exact w)
theorem v_land {x y : Int} (j : Nat) (hd : M.2.2.2[j]? = some (pc, .land, 1)) (h : V M d (pc + 1) L (L_ (and6 x y) :: st) n S g k z P) : V M d pc L (L_ y :: L_ x :: st) n S g k z P :=
  v_go h fun p l e R s m args below meth c b D dA Q C H locs ls hls w => lv_land C.1 C.2.1 (C.dec hd) (by rw [← Int64.ofInt_toInt (Int64.ofInt x &&& Int64.ofInt y)]; exact w)
theorem v_lor {x y : Int} (j : Nat) (hd : M.2.2.2[j]? = some (pc, .lor, 1)) (h : V M d (pc + 1) L (L_ (or6 x y) :: st) n S g k z P) : V M d pc L (L_ y :: L_ x :: st) n S g k z P :=
  v_go h fun p l e R s m args below meth c b D dA Q C H locs ls hls w => lv_lor C.1 C.2.1 (C.dec hd) (by rw [← Int64.ofInt_toInt (Int64.ofInt x ||| Int64.ofInt y)]; exact w)
theorem v_lxor {x y : Int} (j : Nat) (hd : M.2.2.2[j]? = some (pc, .lxor, 1)) (h : V M d (pc + 1) L (L_ (xor6 x y) :: st) n S g k z P) : V M d pc L (L_ y :: L_ x :: st) n S g k z P :=
  v_go h fun p l e R s m args below meth c b D dA Q C H locs ls hls w => lv_lxor C.1 C.2.1 (C.dec hd) (by rw [← Int64.ofInt_toInt (Int64.ofInt x ^^^ Int64.ofInt y)]; exact w)
theorem v_lshl {x y : Int} (j : Nat) (hd : M.2.2.2[j]? = some (pc, .lshl, 1)) (h : V M d (pc + 1) L (L_ (shl6 x y) :: st) n S g k z P) : V M d pc L (I_ y :: L_ x :: st) n S g k z P :=
  v_go h fun p l e R s m args below meth c b D dA Q C H locs ls hls w => lv_lshl C.1 C.2.1 (C.dec hd) (Int64.ofInt_toInt _).symm w
theorem v_i2l {x : Int} (j : Nat) (hd : M.2.2.2[j]? = some (pc, .i2l, 1)) (hx : i3 x) (h : V M d (pc + 1) L (L_ x :: st) n S g k z P) : V M d pc L (I_ x :: st) n S g k z P :=
  v_go h fun p l e R s m args below meth c b D dA Q C H locs ls hls w => lv_i2l C.1 C.2.1 (C.dec hd) (by apply Int64.toInt_inj.mp; rw [Int32.toInt_toInt64, i3_of hx, i6_of ⟨by have := hx.1; omega, by have := hx.2; omega⟩]) w
theorem v_l2i {x : Int} (j : Nat) (hd : M.2.2.2[j]? = some (pc, .l2i, 1)) (h : V M d (pc + 1) L (I_ x :: st) n S g k z P) : V M d pc L (L_ x :: st) n S g k z P :=
  v_go h fun p l e R s m args below meth c b D dA Q C H locs ls hls w => lv_l2i C.1 C.2.1 (C.dec hd) Int64.toInt32_ofInt w
def c2s (x : Int) : Int := (Int32.ofInt x).toInt16.toInt
def c2b (x : Int) : Int := (Int32.ofInt x).toInt8.toInt
def c2c (x : Int) : Int := ((Int32.ofInt x).toUInt32 % 65536).toInt32.toInt
theorem v_i2s {x : Int} (j : Nat) (hd : M.2.2.2[j]? = some (pc, .i2s, 1)) (h : V M d (pc + 1) L (I_ (c2s x) :: st) n S g k z P) : V M d pc L (I_ x :: st) n S g k z P :=
  v_go h fun p l e R s m args below meth c b D dA Q C H locs ls hls w => lv_i2s C.1 C.2.1 (C.dec hd) (by unfold c2s; rw [← Int16.toInt_toInt32, Int32.ofInt_toInt]) w
theorem v_i2b {x : Int} (j : Nat) (hd : M.2.2.2[j]? = some (pc, .i2b, 1)) (h : V M d (pc + 1) L (I_ (c2b x) :: st) n S g k z P) : V M d pc L (I_ x :: st) n S g k z P :=
  v_go h fun p l e R s m args below meth c b D dA Q C H locs ls hls w => lv_i2b C.1 C.2.1 (C.dec hd) (by unfold c2b; rw [← Int8.toInt_toInt32, Int32.ofInt_toInt]) w
theorem v_i2c {x : Int} (j : Nat) (hd : M.2.2.2[j]? = some (pc, .i2c, 1)) (h : V M d (pc + 1) L (I_ (c2c x) :: st) n S g k z P) : V M d pc L (I_ x :: st) n S g k z P :=
  v_go h fun p l e R s m args below meth c b D dA Q C H locs ls hls w => lv_i2c C.1 C.2.1 (C.dec hd) (Int32.ofInt_toInt _).symm w
theorem v_icmp_eq {x y : Int} {off : Int} {tgt : Nat} (j : Nat) (hd : M.2.2.2[j]? = some (pc, .if_icmp .eq off, 3)) (ht : (pc : Int) + off = (tgt : Int)) (hx : i3 x) (hy : i3 y) (h1 : x = y → V M d tgt L st n S g k z P) (h2 : x ≠ y → V M d (pc + 3) L st n S g k z P) : V M d pc L (I_ y :: I_ x :: st) n S g k z P :=
  fun p l e R s m args below meth c b D dA Q C hq H locs ls hl hP hS => lv_icmp_eq C.1 C.2.1 (C.dec hd) ht (fun q => h1 ((i3_eq hx hy).mp q) p l e R s m args below meth c b D dA Q C hq H locs ls hl hP hS) (fun q => h2 (fun r => q ((i3_eq hx hy).mpr r)) p l e R s m args below meth c b D dA Q C hq H locs ls hl hP hS)
theorem v_if_eq {x : Int} {off : Int} {tgt : Nat} (j : Nat) (hd : M.2.2.2[j]? = some (pc, .ifCond .eq off, 3)) (ht : (pc : Int) + off = (tgt : Int)) (hx : i3 x) (h1 : x = 0 → V M d tgt L st n S g k z P) (h2 : x ≠ 0 → V M d (pc + 3) L st n S g k z P) : V M d pc L (I_ x :: st) n S g k z P :=
  fun p l e R s m args below meth c b D dA Q C hq H locs ls hl hP hS => lv_if_eq C.1 C.2.1 (C.dec hd) ht (fun q => h1 ((i3_eq hx i3_0).mp q) p l e R s m args below meth c b D dA Q C hq H locs ls hl hP hS) (fun q => h2 (fun r => q ((i3_eq hx i3_0).mpr r)) p l e R s m args below meth c b D dA Q C hq H locs ls hl hP hS)
theorem v_icmp_ne {x y : Int} {off : Int} {tgt : Nat} (j : Nat) (hd : M.2.2.2[j]? = some (pc, .if_icmp .ne off, 3)) (ht : (pc : Int) + off = (tgt : Int)) (hx : i3 x) (hy : i3 y) (h1 : x ≠ y → V M d tgt L st n S g k z P) (h2 : x = y → V M d (pc + 3) L st n S g k z P) : V M d pc L (I_ y :: I_ x :: st) n S g k z P :=
  fun p l e R s m args below meth c b D dA Q C hq H locs ls hl hP hS => lv_icmp_ne C.1 C.2.1 (C.dec hd) ht (fun q => h1 (fun r => q ((i3_eq hx hy).mpr r)) p l e R s m args below meth c b D dA Q C hq H locs ls hl hP hS) (fun q => h2 ((i3_eq hx hy).mp q) p l e R s m args below meth c b D dA Q C hq H locs ls hl hP hS)
theorem v_if_ne {x : Int} {off : Int} {tgt : Nat} (j : Nat) (hd : M.2.2.2[j]? = some (pc, .ifCond .ne off, 3)) (ht : (pc : Int) + off = (tgt : Int)) (hx : i3 x) (h1 : x ≠ 0 → V M d tgt L st n S g k z P) (h2 : x = 0 → V M d (pc + 3) L st n S g k z P) : V M d pc L (I_ x :: st) n S g k z P :=
  fun p l e R s m args below meth c b D dA Q C hq H locs ls hl hP hS => lv_if_ne C.1 C.2.1 (C.dec hd) ht (fun q => h1 (fun r => q ((i3_eq hx i3_0).mpr r)) p l e R s m args below meth c b D dA Q C hq H locs ls hl hP hS) (fun q => h2 ((i3_eq hx i3_0).mp q) p l e R s m args below meth c b D dA Q C hq H locs ls hl hP hS)
theorem v_icmp_lt {x y : Int} {off : Int} {tgt : Nat} (j : Nat) (hd : M.2.2.2[j]? = some (pc, .if_icmp .lt off, 3)) (ht : (pc : Int) + off = (tgt : Int)) (hx : i3 x) (hy : i3 y) (h1 : x < y → V M d tgt L st n S g k z P) (h2 : y ≤ x → V M d (pc + 3) L st n S g k z P) : V M d pc L (I_ y :: I_ x :: st) n S g k z P :=
  fun p l e R s m args below meth c b D dA Q C hq H locs ls hl hP hS => lv_icmp_lt C.1 C.2.1 (C.dec hd) ht (fun q => h1 ((i3_lt hx hy).mp q) p l e R s m args below meth c b D dA Q C hq H locs ls hl hP hS) (fun q => h2 (Int.not_lt.mp fun r => q ((i3_lt hx hy).mpr r)) p l e R s m args below meth c b D dA Q C hq H locs ls hl hP hS)
theorem v_if_lt {x : Int} {off : Int} {tgt : Nat} (j : Nat) (hd : M.2.2.2[j]? = some (pc, .ifCond .lt off, 3)) (ht : (pc : Int) + off = (tgt : Int)) (hx : i3 x) (h1 : x < 0 → V M d tgt L st n S g k z P) (h2 : 0 ≤ x → V M d (pc + 3) L st n S g k z P) : V M d pc L (I_ x :: st) n S g k z P :=
  fun p l e R s m args below meth c b D dA Q C hq H locs ls hl hP hS => lv_if_lt C.1 C.2.1 (C.dec hd) ht (fun q => h1 ((i3_lt hx i3_0).mp q) p l e R s m args below meth c b D dA Q C hq H locs ls hl hP hS) (fun q => h2 (Int.not_lt.mp fun r => q ((i3_lt hx i3_0).mpr r)) p l e R s m args below meth c b D dA Q C hq H locs ls hl hP hS)
theorem v_icmp_ge {x y : Int} {off : Int} {tgt : Nat} (j : Nat) (hd : M.2.2.2[j]? = some (pc, .if_icmp .ge off, 3)) (ht : (pc : Int) + off = (tgt : Int)) (hx : i3 x) (hy : i3 y) (h1 : y ≤ x → V M d tgt L st n S g k z P) (h2 : x < y → V M d (pc + 3) L st n S g k z P) : V M d pc L (I_ y :: I_ x :: st) n S g k z P :=
  fun p l e R s m args below meth c b D dA Q C hq H locs ls hl hP hS => lv_icmp_ge C.1 C.2.1 (C.dec hd) ht (fun q => h1 ((i3_le hy hx).mp q) p l e R s m args below meth c b D dA Q C hq H locs ls hl hP hS) (fun q => h2 (Int.not_le.mp fun r => q ((i3_le hy hx).mpr r)) p l e R s m args below meth c b D dA Q C hq H locs ls hl hP hS)
theorem v_if_ge {x : Int} {off : Int} {tgt : Nat} (j : Nat) (hd : M.2.2.2[j]? = some (pc, .ifCond .ge off, 3)) (ht : (pc : Int) + off = (tgt : Int)) (hx : i3 x) (h1 : 0 ≤ x → V M d tgt L st n S g k z P) (h2 : x < 0 → V M d (pc + 3) L st n S g k z P) : V M d pc L (I_ x :: st) n S g k z P :=
  fun p l e R s m args below meth c b D dA Q C hq H locs ls hl hP hS => lv_if_ge C.1 C.2.1 (C.dec hd) ht (fun q => h1 ((i3_le i3_0 hx).mp q) p l e R s m args below meth c b D dA Q C hq H locs ls hl hP hS) (fun q => h2 (Int.not_le.mp fun r => q ((i3_le i3_0 hx).mpr r)) p l e R s m args below meth c b D dA Q C hq H locs ls hl hP hS)
theorem v_icmp_gt {x y : Int} {off : Int} {tgt : Nat} (j : Nat) (hd : M.2.2.2[j]? = some (pc, .if_icmp .gt off, 3)) (ht : (pc : Int) + off = (tgt : Int)) (hx : i3 x) (hy : i3 y) (h1 : y < x → V M d tgt L st n S g k z P) (h2 : x ≤ y → V M d (pc + 3) L st n S g k z P) : V M d pc L (I_ y :: I_ x :: st) n S g k z P :=
  fun p l e R s m args below meth c b D dA Q C hq H locs ls hl hP hS => lv_icmp_gt C.1 C.2.1 (C.dec hd) ht (fun q => h1 ((i3_lt hy hx).mp q) p l e R s m args below meth c b D dA Q C hq H locs ls hl hP hS) (fun q => h2 (Int.not_lt.mp fun r => q ((i3_lt hy hx).mpr r)) p l e R s m args below meth c b D dA Q C hq H locs ls hl hP hS)
theorem v_if_gt {x : Int} {off : Int} {tgt : Nat} (j : Nat) (hd : M.2.2.2[j]? = some (pc, .ifCond .gt off, 3)) (ht : (pc : Int) + off = (tgt : Int)) (hx : i3 x) (h1 : 0 < x → V M d tgt L st n S g k z P) (h2 : x ≤ 0 → V M d (pc + 3) L st n S g k z P) : V M d pc L (I_ x :: st) n S g k z P :=
  fun p l e R s m args below meth c b D dA Q C hq H locs ls hl hP hS => lv_if_gt C.1 C.2.1 (C.dec hd) ht (fun q => h1 ((i3_lt i3_0 hx).mp q) p l e R s m args below meth c b D dA Q C hq H locs ls hl hP hS) (fun q => h2 (Int.not_lt.mp fun r => q ((i3_lt i3_0 hx).mpr r)) p l e R s m args below meth c b D dA Q C hq H locs ls hl hP hS)
theorem v_icmp_le {x y : Int} {off : Int} {tgt : Nat} (j : Nat) (hd : M.2.2.2[j]? = some (pc, .if_icmp .le off, 3)) (ht : (pc : Int) + off = (tgt : Int)) (hx : i3 x) (hy : i3 y) (h1 : x ≤ y → V M d tgt L st n S g k z P) (h2 : y < x → V M d (pc + 3) L st n S g k z P) : V M d pc L (I_ y :: I_ x :: st) n S g k z P :=
  fun p l e R s m args below meth c b D dA Q C hq H locs ls hl hP hS => lv_icmp_le C.1 C.2.1 (C.dec hd) ht (fun q => h1 ((i3_le hx hy).mp q) p l e R s m args below meth c b D dA Q C hq H locs ls hl hP hS) (fun q => h2 (Int.not_le.mp fun r => q ((i3_le hx hy).mpr r)) p l e R s m args below meth c b D dA Q C hq H locs ls hl hP hS)
theorem v_if_le {x : Int} {off : Int} {tgt : Nat} (j : Nat) (hd : M.2.2.2[j]? = some (pc, .ifCond .le off, 3)) (ht : (pc : Int) + off = (tgt : Int)) (hx : i3 x) (h1 : x ≤ 0 → V M d tgt L st n S g k z P) (h2 : 0 < x → V M d (pc + 3) L st n S g k z P) : V M d pc L (I_ x :: st) n S g k z P :=
  fun p l e R s m args below meth c b D dA Q C hq H locs ls hl hP hS => lv_if_le C.1 C.2.1 (C.dec hd) ht (fun q => h1 ((i3_le hx i3_0).mp q) p l e R s m args below meth c b D dA Q C hq H locs ls hl hP hS) (fun q => h2 (Int.not_le.mp fun r => q ((i3_le hx i3_0).mpr r)) p l e R s m args below meth c b D dA Q C hq H locs ls hl hP hS)
def cmp6 (x y : Int) : Int := if y < x then 1 else if x = y then 0 else -1
theorem cmp6_i3 (x y : Int) : i3 (cmp6 x y) := by
  unfold cmp6
  split
  · decide
  · split <;> decide
theorem lg_cmp6 {x y : Int} (hx : i6 x) (hy : i6 y) : lg_cmp (Int64.ofInt x) (Int64.ofInt y) = Int32.ofInt (cmp6 x y) := by
  unfold lg_cmp cmp6
  have h1 : (Int64.ofInt x > Int64.ofInt y) ↔ y < x := i6_lt hy hx
  have h2 := i6_eq hx hy
  by_cases a : y < x
  · rw [if_pos a, if_pos (h1.mpr a)]; rfl
  · rw [if_neg a, if_neg (fun q => a (h1.mp q))]
    by_cases b : x = y
    · rw [if_pos b, if_pos (h2.mpr b)]; rfl
    · rw [if_neg b, if_neg (fun q => b (h2.mp q))]; rfl
theorem v_lcmp {x y : Int} (j : Nat) (hd : M.2.2.2[j]? = some (pc, .lcmp, 1)) (hx : i6 x) (hy : i6 y) (h : V M d (pc + 1) L (I_ (cmp6 x y) :: st) n S g k z P) : V M d pc L (L_ y :: L_ x :: st) n S g k z P :=
  v_go h fun p l e R s m args below meth c b D dA Q C H locs ls hls w => W.lcmp C.1 C.2.1 (C.dec hd) (by rw [lg_cmp6 hx hy]; exact w)
theorem v_lif_eq {x y : Int} {off : Int} {tgt : Nat} (j : Nat) (hd : M.2.2.2[j]? = some (pc, .lcmp, 1)) (hd2 : M.2.2.2[j + 1]? = some (pc + 1, .ifCond .eq off, 3)) (ht : ((pc + 1 : Nat) : Int) + off = (tgt : Int)) (hx : i6 x) (hy : i6 y) (h1 : x = y → V M d tgt L st n S g k z P) (h2 : x ≠ y → V M d (pc + 4) L st n S g k z P) : V M d pc L (L_ y :: L_ x :: st) n S g k z P :=
  v_lcmp j hd hx hy (v_if_eq (j + 1) hd2 ht (cmp6_i3 x y) (fun q => h1 (by unfold cmp6 at q; (repeat' split at q) <;> omega)) (fun q => h2 (by unfold cmp6 at q; (repeat' split at q) <;> omega)))
theorem v_lif_ne {x y : Int} {off : Int} {tgt : Nat} (j : Nat) (hd : M.2.2.2[j]? = some (pc, .lcmp, 1)) (hd2 : M.2.2.2[j + 1]? = some (pc + 1, .ifCond .ne off, 3)) (ht : ((pc + 1 : Nat) : Int) + off = (tgt : Int)) (hx : i6 x) (hy : i6 y) (h1 : x ≠ y → V M d tgt L st n S g k z P) (h2 : x = y → V M d (pc + 4) L st n S g k z P) : V M d pc L (L_ y :: L_ x :: st) n S g k z P :=
  v_lcmp j hd hx hy (v_if_ne (j + 1) hd2 ht (cmp6_i3 x y) (fun q => h1 (by unfold cmp6 at q; (repeat' split at q) <;> omega)) (fun q => h2 (by unfold cmp6 at q; (repeat' split at q) <;> omega)))
theorem v_lif_lt {x y : Int} {off : Int} {tgt : Nat} (j : Nat) (hd : M.2.2.2[j]? = some (pc, .lcmp, 1)) (hd2 : M.2.2.2[j + 1]? = some (pc + 1, .ifCond .lt off, 3)) (ht : ((pc + 1 : Nat) : Int) + off = (tgt : Int)) (hx : i6 x) (hy : i6 y) (h1 : x < y → V M d tgt L st n S g k z P) (h2 : y ≤ x → V M d (pc + 4) L st n S g k z P) : V M d pc L (L_ y :: L_ x :: st) n S g k z P :=
  v_lcmp j hd hx hy (v_if_lt (j + 1) hd2 ht (cmp6_i3 x y) (fun q => h1 (by unfold cmp6 at q; (repeat' split at q) <;> omega)) (fun q => h2 (by unfold cmp6 at q; (repeat' split at q) <;> omega)))
theorem v_lif_ge {x y : Int} {off : Int} {tgt : Nat} (j : Nat) (hd : M.2.2.2[j]? = some (pc, .lcmp, 1)) (hd2 : M.2.2.2[j + 1]? = some (pc + 1, .ifCond .ge off, 3)) (ht : ((pc + 1 : Nat) : Int) + off = (tgt : Int)) (hx : i6 x) (hy : i6 y) (h1 : y ≤ x → V M d tgt L st n S g k z P) (h2 : x < y → V M d (pc + 4) L st n S g k z P) : V M d pc L (L_ y :: L_ x :: st) n S g k z P :=
  v_lcmp j hd hx hy (v_if_ge (j + 1) hd2 ht (cmp6_i3 x y) (fun q => h1 (by unfold cmp6 at q; (repeat' split at q) <;> omega)) (fun q => h2 (by unfold cmp6 at q; (repeat' split at q) <;> omega)))
theorem v_lif_gt {x y : Int} {off : Int} {tgt : Nat} (j : Nat) (hd : M.2.2.2[j]? = some (pc, .lcmp, 1)) (hd2 : M.2.2.2[j + 1]? = some (pc + 1, .ifCond .gt off, 3)) (ht : ((pc + 1 : Nat) : Int) + off = (tgt : Int)) (hx : i6 x) (hy : i6 y) (h1 : y < x → V M d tgt L st n S g k z P) (h2 : x ≤ y → V M d (pc + 4) L st n S g k z P) : V M d pc L (L_ y :: L_ x :: st) n S g k z P :=
  v_lcmp j hd hx hy (v_if_gt (j + 1) hd2 ht (cmp6_i3 x y) (fun q => h1 (by unfold cmp6 at q; (repeat' split at q) <;> omega)) (fun q => h2 (by unfold cmp6 at q; (repeat' split at q) <;> omega)))
theorem v_lif_le {x y : Int} {off : Int} {tgt : Nat} (j : Nat) (hd : M.2.2.2[j]? = some (pc, .lcmp, 1)) (hd2 : M.2.2.2[j + 1]? = some (pc + 1, .ifCond .le off, 3)) (ht : ((pc + 1 : Nat) : Int) + off = (tgt : Int)) (hx : i6 x) (hy : i6 y) (h1 : x ≤ y → V M d tgt L st n S g k z P) (h2 : y < x → V M d (pc + 4) L st n S g k z P) : V M d pc L (L_ y :: L_ x :: st) n S g k z P :=
  v_lcmp j hd hx hy (v_if_le (j + 1) hd2 ht (cmp6_i3 x y) (fun q => h1 (by unfold cmp6 at q; (repeat' split at q) <;> omega)) (fun q => h2 (by unfold cmp6 at q; (repeat' split at q) <;> omega)))
theorem v_aload_n {f : Fin 4} {i a : Nat} (j q : Nat) (hd : M.2.2.2[j]? = some (pc, .aload_n f, 1)) (hi : (f : Nat) = i) (hl : L[q]? = some (i, .ref a)) (h : V M d (pc + 1) L (.ref a :: st) n S g k z P) : V M d pc L st n S g k z P := by
  cases a with
  | zero => exact v_go h fun p l e R s m args below meth c b D dA Q C H locs ls hls w => lv_aload_nN C.1 C.2.1 (C.dec hd) hi (lmap_at hls hl) w
  | succ a => exact v_go h fun p l e R s m args below meth c b D dA Q C H locs ls hls w => lv_aload_n C.1 C.2.1 (C.dec hd) hi (lmap_at hls hl) w
theorem v_aload {i a : Nat} (j q : Nat) (hd : M.2.2.2[j]? = some (pc, .aload i, 2)) (hl : L[q]? = some (i, .ref a)) (h : V M d (pc + 2) L (.ref a :: st) n S g k z P) : V M d pc L st n S g k z P := by
  cases a with
  | zero => exact v_go h fun p l e R s m args below meth c b D dA Q C H locs ls hls w => lv_aloadN C.1 C.2.1 (C.dec hd) (lmap_at hls hl) w
  | succ a => exact v_go h fun p l e R s m args below meth c b D dA Q C H locs ls hls w => lv_aload C.1 C.2.1 (C.dec hd) (lmap_at hls hl) w
theorem v_null (j : Nat) (hd : M.2.2.2[j]? = some (pc, .aconst_null, 1)) (h : V M d (pc + 1) L (.ref 0 :: st) n S g k z P) : V M d pc L st n S g k z P :=
  v_go h fun p l e R s m args below meth c b D dA Q C H locs ls hls w => lv_null C.1 C.2.1 (C.dec hd) w
theorem v_ifnull {a : Nat} {off : Int} {tgt : Nat} (j : Nat) (hd : M.2.2.2[j]? = some (pc, .ifnull off, 3)) (ht : (pc : Int) + off = (tgt : Int)) (h1 : a = 0 → V M d tgt L st n S g k z P) (h2 : 0 < a → V M d (pc + 3) L st n S g k z P) : V M d pc L (.ref a :: st) n S g k z P := by
  cases a with
  | zero => exact v_go (h1 rfl) fun p l e R s m args below meth c b D dA Q C H locs ls hls w => lv_ifnullN C.1 C.2.1 (C.dec hd) ht w
  | succ a => exact v_go (h2 (Nat.succ_pos a)) fun p l e R s m args below meth c b D dA Q C H locs ls hls w => lv_ifnull C.1 C.2.1 (C.dec hd) w
theorem v_ifnonnull {a : Nat} {off : Int} {tgt : Nat} (j : Nat) (hd : M.2.2.2[j]? = some (pc, .ifnonnull off, 3)) (ht : (pc : Int) + off = (tgt : Int)) (h1 : 0 < a → V M d tgt L st n S g k z P) (h2 : a = 0 → V M d (pc + 3) L st n S g k z P) : V M d pc L (.ref a :: st) n S g k z P := by
  cases a with
  | zero => exact v_go (h2 rfl) fun p l e R s m args below meth c b D dA Q C H locs ls hls w => lv_ifnonnullN C.1 C.2.1 (C.dec hd) w
  | succ a => exact v_go (h1 (Nat.succ_pos a)) fun p l e R s m args below meth c b D dA Q C H locs ls hls w => lv_ifnonnull C.1 C.2.1 (C.dec hd) ht w
def rfo (b a : Nat) : Option Nat := if a = 0 then none else some (b + a)
theorem rfo_cv (b a : Nat) : cv b (.ref a) = va_rf (rfo b a) := by
  cases a with
  | zero => rfl
  | succ a => rfl
theorem rfo_eq (b : Nat) {x y : Nat} : rfo b x = rfo b y ↔ x = y := by
  unfold rfo
  by_cases hx : x = 0
  · by_cases hy : y = 0
    · simp [hx, hy]
    · simp [hx, hy]; omega
  · by_cases hy : y = 0
    · simp [hx, hy]
    · simp [hx, hy]
theorem v_acmp_eq {x y : Nat} {off : Int} {tgt : Nat} (j : Nat) (hd : M.2.2.2[j]? = some (pc, .if_acmp .eq off, 3)) (ht : (pc : Int) + off = (tgt : Int)) (h1 : x = y → V M d tgt L st n S g k z P) (h2 : x ≠ y → V M d (pc + 3) L st n S g k z P) : V M d pc L (.ref y :: .ref x :: st) n S g k z P := by
  intro p l e R s m args below meth c b D dA Q C hq H locs ls hl hP hS
  show W p l e R s m args below meth c H locs k z Q (F0 m pc ls (cv b (.ref y) :: cv b (.ref x) :: st.map (cv b)))
  rw [rfo_cv, rfo_cv]
  exact lv_acmp_eq C.1 C.2.1 (C.dec hd) ht (fun q => h1 ((rfo_eq b).mp q) p l e R s m args below meth c b D dA Q C hq H locs ls hl hP hS) (fun q => h2 (fun r => q ((rfo_eq b).mpr r)) p l e R s m args below meth c b D dA Q C hq H locs ls hl hP hS)
theorem v_acmp_ne {x y : Nat} {off : Int} {tgt : Nat} (j : Nat) (hd : M.2.2.2[j]? = some (pc, .if_acmp .ne off, 3)) (ht : (pc : Int) + off = (tgt : Int)) (h1 : x ≠ y → V M d tgt L st n S g k z P) (h2 : x = y → V M d (pc + 3) L st n S g k z P) : V M d pc L (.ref y :: .ref x :: st) n S g k z P := by
  intro p l e R s m args below meth c b D dA Q C hq H locs ls hl hP hS
  show W p l e R s m args below meth c H locs k z Q (F0 m pc ls (cv b (.ref y) :: cv b (.ref x) :: st.map (cv b)))
  rw [rfo_cv, rfo_cv]
  exact lv_acmp_ne C.1 C.2.1 (C.dec hd) ht (fun q => h1 (fun r => q ((rfo_eq b).mpr r)) p l e R s m args below meth c b D dA Q C hq H locs ls hl hP hS) (fun q => h2 ((rfo_eq b).mp q) p l e R s m args below meth c b D dA Q C hq H locs ls hl hP hS)
theorem v_dup {v : Value} (j : Nat) (hd : M.2.2.2[j]? = some (pc, .dup, 1)) (hv : ¬ v.category = 2) (h : V M d (pc + 1) L (v :: v :: st) n S g k z P) : V M d pc L (v :: st) n S g k z P :=
  v_go h fun p l e R s m args below meth c b D dA Q C H locs ls hls w => lv_dup C.1 C.2.1 (C.dec hd) (cv_c1 b hv) w
theorem v_dup2_2 {v : Value} (j : Nat) (hd : M.2.2.2[j]? = some (pc, .dup2, 1)) (hv : v.category = 2) (h : V M d (pc + 1) L (v :: v :: st) n S g k z P) : V M d pc L (v :: st) n S g k z P :=
  v_go h fun p l e R s m args below meth c b D dA Q C H locs ls hls w => lv_dup2_2 C.1 C.2.1 (C.dec hd) ((cv_cat2 b v).mpr hv) w
theorem v_dup2 {v u : Value} (j : Nat) (hd : M.2.2.2[j]? = some (pc, .dup2, 1)) (hv : ¬ v.category = 2) (hu : ¬ u.category = 2) (h : V M d (pc + 1) L (v :: u :: v :: u :: st) n S g k z P) : V M d pc L (v :: u :: st) n S g k z P :=
  v_go h fun p l e R s m args below meth c b D dA Q C H locs ls hls w => lv_dup2_11 C.1 C.2.1 (C.dec hd) (cv_c1 b hv) (cv_c1 b hu) w
theorem v_istore_n {f : Fin 4} {i : Nat} {x : Int} (j : Nat) (ks : List Nat) (hd : M.2.2.2[j]? = some (pc, .istore_n f, 1)) (hi : (f : Nat) = i) (hn : i < M.2.1.1) (hL : lv_pick (sl1 i (I_ x) L) ks = L') (h : V M d (pc + 1) L' st n S g k z P) : V M d pc L (I_ x :: st) n S g k z P :=
  v_goL h fun p l e R s m args below meth c b D dA Q C H locs ls hls w => lv_istore_n C.1 C.2.1 (C.dec hd) hi hls hn (sl1_map b i (I_ x) L) (fun ls' hl' => w ls' (lmap_sub hl' ks hL))
theorem v_istore {i : Nat} {x : Int} (j : Nat) (ks : List Nat) (hd : M.2.2.2[j]? = some (pc, .istore i, 2)) (hn : i < M.2.1.1) (hL : lv_pick (sl1 i (I_ x) L) ks = L') (h : V M d (pc + 2) L' st n S g k z P) : V M d pc L (I_ x :: st) n S g k z P :=
  v_goL h fun p l e R s m args below meth c b D dA Q C H locs ls hls w => lv_istore C.1 C.2.1 (C.dec hd) hls hn (sl1_map b i (I_ x) L) (fun ls' hl' => w ls' (lmap_sub hl' ks hL))
theorem v_lstore_n {f : Fin 4} {i : Nat} {x : Int} (j : Nat) (ks : List Nat) (hd : M.2.2.2[j]? = some (pc, .lstore_n f, 1)) (hi : (f : Nat) = i) (hn : i + 1 < M.2.1.1) (hL : lv_pick (sl2 i (L_ x) L) ks = L') (h : V M d (pc + 1) L' st n S g k z P) : V M d pc L (L_ x :: st) n S g k z P :=
  v_goL h fun p l e R s m args below meth c b D dA Q C H locs ls hls w => lv_lstore_n C.1 C.2.1 (C.dec hd) hi hls hn (sl2_map b i (L_ x) L) (fun ls' hl' => w ls' (lmap_sub hl' ks hL))
theorem v_lstore {i : Nat} {x : Int} (j : Nat) (ks : List Nat) (hd : M.2.2.2[j]? = some (pc, .lstore i, 2)) (hn : i + 1 < M.2.1.1) (hL : lv_pick (sl2 i (L_ x) L) ks = L') (h : V M d (pc + 2) L' st n S g k z P) : V M d pc L (L_ x :: st) n S g k z P :=
  v_goL h fun p l e R s m args below meth c b D dA Q C H locs ls hls w => lv_lstore C.1 C.2.1 (C.dec hd) hls hn (sl2_map b i (L_ x) L) (fun ls' hl' => w ls' (lmap_sub hl' ks hL))
theorem v_astore_n {f : Fin 4} {i a : Nat} (j : Nat) (ks : List Nat) (hd : M.2.2.2[j]? = some (pc, .astore_n f, 1)) (hi : (f : Nat) = i) (hn : i < M.2.1.1) (hL : lv_pick (sl1 i (.ref a) L) ks = L') (h : V M d (pc + 1) L' st n S g k z P) : V M d pc L (.ref a :: st) n S g k z P := by
  cases a with
  | zero => exact v_goL h fun p l e R s m args below meth c b D dA Q C H locs ls hls w => lv_astore_nN C.1 C.2.1 (C.dec hd) hi hls hn (sl1_map b i (.ref 0) L) (fun ls' hl' => w ls' (lmap_sub hl' ks hL))
  | succ a => exact v_goL h fun p l e R s m args below meth c b D dA Q C H locs ls hls w => lv_astore_n C.1 C.2.1 (C.dec hd) hi hls hn (sl1_map b i (.ref (a + 1)) L) (fun ls' hl' => w ls' (lmap_sub hl' ks hL))
theorem v_astore {i a : Nat} (j : Nat) (ks : List Nat) (hd : M.2.2.2[j]? = some (pc, .astore i, 2)) (hn : i < M.2.1.1) (hL : lv_pick (sl1 i (.ref a) L) ks = L') (h : V M d (pc + 2) L' st n S g k z P) : V M d pc L (.ref a :: st) n S g k z P := by
  cases a with
  | zero => exact v_goL h fun p l e R s m args below meth c b D dA Q C H locs ls hls w => lv_astoreN C.1 C.2.1 (C.dec hd) hls hn (sl1_map b i (.ref 0) L) (fun ls' hl' => w ls' (lmap_sub hl' ks hL))
  | succ a => exact v_goL h fun p l e R s m args below meth c b D dA Q C H locs ls hls w => lv_astore C.1 C.2.1 (C.dec hd) hls hn (sl1_map b i (.ref (a + 1)) L) (fun ls' hl' => w ls' (lmap_sub hl' ks hL))
theorem v_iinc {i : Nat} {t x : Int} (j q : Nat) (ks : List Nat) (hd : M.2.2.2[j]? = some (pc, .iinc i t, 3)) (hl : L[q]? = some (i, I_ x)) (hn : i < M.2.1.1) (hL : lv_pick (sl1 i (I_ (x + t)) L) ks = L') (h : V M d (pc + 3) L' st n S g k z P) : V M d pc L st n S g k z P :=
  v_goL h fun p l e R s m args below meth c b D dA Q C H locs ls hls w => lv_iinc C.1 C.2.1 (C.dec hd) hls (k := q) (by show (L.map _)[q]? = _; rw [List.getElem?_map, hl]; rfl) (Int32.ofInt_add x t).symm hn (sl1_map b i (I_ (x + t)) L) (fun ls' hl' => w ls' (lmap_sub hl' ks hL))
theorem v_tswIn {dflt lo hi : Int} {offs : Array Int} {len : Nat} {x : Int} {off : Int} {tgt : Nat} (j : Nat) (hd : M.2.2.2[j]? = some (pc, .tableswitch dflt lo hi offs, len)) (hx : i3 x) (h1 : lo ≤ x) (h2 : x ≤ hi) (ho : offs[(x - lo).toNat]? = some off) (ht : (pc : Int) + off = (tgt : Int)) (h : V M d tgt L st n S g k z P) : V M d pc L (I_ x :: st) n S g k z P :=
  v_go h fun p l e R s m args below meth c b D dA Q C H locs ls hls w => lv_tableIn C.1 C.2.1 (C.dec hd) (by rw [i3_of hx]; omega) (by rw [i3_of hx]; omega) (by rw [i3_of hx]; exact ho) ht w
theorem v_tswOut {dflt lo hi : Int} {offs : Array Int} {len : Nat} {x : Int} {tgt : Nat} (j : Nat) (hd : M.2.2.2[j]? = some (pc, .tableswitch dflt lo hi offs, len)) (hx : i3 x) (h1 : x < lo ∨ hi < x) (ht : (pc : Int) + dflt = (tgt : Int)) (h : V M d tgt L st n S g k z P) : V M d pc L (I_ x :: st) n S g k z P :=
  v_go h fun p l e R s m args below meth c b D dA Q C H locs ls hls w => lv_tableOut C.1 C.2.1 (C.dec hd) (by rw [i3_of hx]; exact h1) ht w
theorem v_ret {v : Option Value} {st' : List Value} (j : Nat) (hd : M.2.2.2[j]? = some (pc, rop v, 1)) (hk : k ≤ M.2.2.1.1) (hz : z ≤ M.2.2.1.2) (hr : rok M.2.1.2 v) (hs : v.toList = st') (h : P v n S g) : V M d pc L st' n S g k z P := by
  subst hs
  intro p l e R s m args below meth c b D dA Q C hq H locs ls hl hP hS
  have w := hq v n S g h hr H locs ls pc k z hk hz hP hS (C.dec hd)
  cases v with
  | none => exact w
  | some x => exact w
end VRows2
end
section
/-! ROWS OF THE HEAP -/
theorem Pic.obj {D : va_G} {dA : Nat → ClassId} {b n : Nat} {S : Nat → Shp} {g : Hp} {H : Heap} (h : Pic D dA b n S g H) {a ci : Nat} (ha : 0 < a ∧ a < n) (hs : (S a).1 = ci) (hc : ci < 12) : t_OB (b + a) (D.1 ci) (nf ci) (D.2 ci) H (fun k => cv b (vA (fc ci k) (gv S g a k))) := by
  rcases h.2.1 a ha.1 ha.2 with q | q
  · rw [hs] at q; exact q.2
  · exact absurd q.1 (by omega)
theorem Pic.arr {D : va_G} {dA : Nat → ClassId} {b n : Nat} {S : Nat → Shp} {g : Hp} {H : Heap} (h : Pic D dA b n S g H) {a t : Nat} (ha : 0 < a ∧ a < n) (hs : (S a).1 = t) (hc : 12 ≤ t) : H[b + a]? = some (arrV (dA t) (S a).2.1 (fun j => cv b (vA (fc t j) (g a j)))) := by
  rcases h.2.1 a ha.1 ha.2 with q | q
  · exact absurd q.1 (by omega)
  · rw [hs] at q; exact q.2
/-- what a cell is, where another one has changed -/
theorem Pic.set {D : va_G} {dA : Nat → ClassId} {b n : Nat} {S : Nat → Shp} {g : Hp} {H H' : Heap} (h : Pic D dA b n S g H) {a kf : Nat} {x : Int} (ha : 0 < a ∧ a < n) (hz : H'.size = H.size) (hk : ∀ q, q ≠ b + a → H'[q]? = H[q]?) (hc : cel D dA b S (up2 g a kf x) a H') (hr : rg (fc (S a).1 kf) x) : Pic D dA b n S (up2 g a kf x) H' := by
  refine ⟨hz.trans h.1, fun i h0 h1 => ?_, fun i k h0 h1 => ?_⟩
  · by_cases e : i = a
    · subst e; exact hc
    · have hu : ∀ k, up2 g a kf x i k = g i k := fun k => if_neg (fun q => e q.1)
      have hgv : ∀ k, gv S (up2 g a kf x) i k = gv S g i k := fun k => by unfold gv; rw [hu k]
      rcases h.2.1 i h0 h1 with q | q
      · refine Or.inl ⟨q.1, (q.2.kept (hk (b + i) (by omega))).to (fun k _ => by rw [hgv k])⟩
      · refine Or.inr ⟨q.1, ?_⟩
        rw [hk (b + i) (by omega), q.2]
        simp only [hu]
  · unfold up2
    by_cases e : i = a ∧ k = kf
    · rw [if_pos e, e.1, e.2]; exact hr
    · rw [if_neg e]; exact h.2.2 i k h0 h1
/-- where a field is found, and what the tables say of it -/
def FL (own : String) (idx ci kf : Nat) (fin : Bool) (ty : FieldType) : Prop := ∃ (C : String) (T : u_T) (N : Nat) (ref : String), vwCl[ci]? = some (C, T, N) ∧ nf ci = N ∧ kf < N ∧ (∀ w ∈ u_ws C T N, w ∈ tbG) ∧ Cond.fieldLink own idx ref (T kf).2.1 (T kf).2.2.1 ∈ tbG ∧ ((T kf).1 = ref ∨ Cond.sameField ref (T kf).1 (T kf).2.1 (T kf).2.2.1 ∈ tbG) ∧ (T kf).2.2.2 = fin ∧ parseFieldDescriptor (T kf).2.2.1 = some ty ∧ (∃ ty0 : Nat → FieldType, ∀ k, k < N → parseFieldDescriptor (T k).2.2.1 = some (ty0 k)) ∧ (∀ a, a < N → ∀ b, b < N → a ≠ b → (T a).2.1 ≠ (T b).2.1) ∧ (fin = true → (T kf).1 = own)
section VRows3
variable {M : MI} {d pc : Nat} {L L' : List (Nat × Value)} {st : List Value} {n : Nat} {S : Nat → Shp} {g : Hp} {k z : Nat} {P : Pst}
theorem v_get0 {a ci kf idx : Nat} {fin : Bool} {ty : FieldType} (j : Nat) (hd : M.2.2.2[j]? = some (pc, .getfield idx, 3)) (hf : FL M.1.2.1 idx ci kf fin ty) (ha : 0 < a ∧ a < n) (hs : (S a).1 = ci) (hc : ci < 12) (h : V M d (pc + 3) L (vA (fc ci kf) (gv S g a kf) :: st) n S g k z P) : V M d pc L (.ref a :: st) n S g k z P := by
  intro p l e R s m args below meth c b D dA Q C hq H locs ls hl hP hS
  have w := h p l e R s m args below meth c b D dA Q C hq H locs ls hl hP hS
  obtain ⟨Cn, T, N, ref, h1, h2, h3, h4, h5, h6, h7, h8, h9, h10, h11⟩ := hf
  obtain ⟨cell, q1, q2, q3, q4⟩ := hP.obj ha hs hc
  obtain ⟨hSl, hfc, kC, hkC, hkind⟩ := C.2.2.2.2.2.1.1.1 ci _ h1
  obtain ⟨cf, kf', fi, f, hi, hsl⟩ := hSl kf h3
  have hsame : s.fieldFound? ref (T kf).2.1 (T kf).2.2.1 = some (cf, kf', fi, f) := by
    rcases h6 with e | e
    · rw [← e]; exact hi
    · exact u_same (C.2.2.2.2.1 _ e) _ hi
  obtain ⟨a', rfl⟩ : ∃ a', a = a' + 1 := ⟨a - 1, by omega⟩
  refine W.getf C.1 C.2.1 C.2.2.2.1 (C.2.2.2.2.1 _ h5) hsame (u_facts hfc hkC (u_lays C.2.2.2.2.1 h4 h3) hi).1 q1 (by rw [q3]; exact fun h => by cases h) (v := cv b (vA (fc ci kf) (gv S g (a' + 1) kf))) ?_ rfl rfl (C.dec hd) w
  rw [hsl, q4 kf (by rw [h2]; exact h3)]
theorem v_getI {a ci kf idx : Nat} {fin : Bool} {ty : FieldType} (j : Nat) (hd : M.2.2.2[j]? = some (pc, .getfield idx, 3)) (hf : FL M.1.2.1 idx ci kf fin ty) (ha : 0 < a ∧ a < n) (hs : (S a).1 = ci) (hc : ci < 12) (ht : fc ci kf = 0) (hk : (S a).2.2 kf = none) (h : V M d (pc + 3) L (I_ (g a kf) :: st) n S g k z P) : V M d pc L (.ref a :: st) n S g k z P :=
  v_get0 j hd hf ha hs hc (by unfold gv; rw [ht, hk]; exact h)
theorem v_getL {a ci kf idx : Nat} {fin : Bool} {ty : FieldType} (j : Nat) (hd : M.2.2.2[j]? = some (pc, .getfield idx, 3)) (hf : FL M.1.2.1 idx ci kf fin ty) (ha : 0 < a ∧ a < n) (hs : (S a).1 = ci) (hc : ci < 12) (ht : fc ci kf = 1) (hk : (S a).2.2 kf = none) (h : V M d (pc + 3) L (L_ (g a kf) :: st) n S g k z P) : V M d pc L (.ref a :: st) n S g k z P :=
  v_get0 j hd hf ha hs hc (by unfold gv; rw [ht, hk]; exact h)
theorem v_getR {a ci kf idx : Nat} {fin : Bool} {ty : FieldType} (j : Nat) (hd : M.2.2.2[j]? = some (pc, .getfield idx, 3)) (hf : FL M.1.2.1 idx ci kf fin ty) (ha : 0 < a ∧ a < n) (hs : (S a).1 = ci) (hc : ci < 12) (ht : fc ci kf = 2) (hk : (S a).2.2 kf = none) (h : V M d (pc + 3) L (.ref (g a kf).toNat :: st) n S g k z P) : V M d pc L (.ref a :: st) n S g k z P :=
  v_get0 j hd hf ha hs hc (by unfold gv; rw [ht, hk]; exact h)
theorem v_getK {a ci kf idx r : Nat} {fin : Bool} {ty : FieldType} (j : Nat) (hd : M.2.2.2[j]? = some (pc, .getfield idx, 3)) (hf : FL M.1.2.1 idx ci kf fin ty) (ha : 0 < a ∧ a < n) (hs : (S a).1 = ci) (hc : ci < 12) (ht : fc ci kf = 2) (hk : (S a).2.2 kf = some (r : Int)) (h : V M d (pc + 3) L (.ref r :: st) n S g k z P) : V M d pc L (.ref a :: st) n S g k z P :=
  v_get0 j hd hf ha hs hc (by unfold gv; rw [ht, hk]; exact h)
set_option maxHeartbeats 1000000 in
theorem v_put0 {a ci kf idx : Nat} {ty : FieldType} {v : Value} {x : Int} (j : Nat) (hd : M.2.2.2[j]? = some (pc, .putfield idx, 3)) (hf : FL M.1.2.1 idx ci kf false ty) (ha : 0 < a ∧ a < n) (hs : (S a).1 = ci) (hc : ci < 12) (hv : vA (fc ci kf) x = v) (hr : rg (fc ci kf) x) (hk : (S a).2.2 kf = none) (hn : ∀ b, narrow ty (cv b v) = cv b v) (hfit : ∀ b, fits ty (cv b v) = true) (h : V M d (pc + 3) L st n S (up2 g a kf x) k z P) : V M d pc L (v :: .ref a :: st) n S g k z P := by
  intro p l e R s m args below meth c b D dA Q C hq H locs ls hl hP hS
  obtain ⟨Cn, T, N, ref, h1, h2, h3, h4, h5, h6, h7, h8, ⟨ty0, h9⟩, h10, h11⟩ := hf
  have hap := va_apart (own := M.1.2.1) C.2.2.2.2.1 h4 ty0 h9 h10 C.2.2.2.2.2.1.1 h1
  obtain ⟨cell, q1, q2, q3, q4⟩ := hP.obj ha hs hc
  obtain ⟨hSl, hfc, kC, hkC, hkind⟩ := C.2.2.2.2.2.1.1.1 ci _ h1
  obtain ⟨cf, kf', fi, f, hi, hsl⟩ := hSl kf h3
  have hsame : s.fieldFound? ref (T kf).2.1 (T kf).2.2.1 = some (cf, kf', fi, f) := by
    rcases h6 with e | e
    · rw [← e]; exact hi
    · exact u_same (C.2.2.2.2.1 _ e) _ hi
  have hlay := C.2.2.2.2.1 _ (h4 _ (u_in_lay h3))
  unfold u_lay at hlay
  rw [if_neg (by rw [h7]; decide)] at hlay
  have hst := (u_facts hfc hkC (u_lays C.2.2.2.2.1 h4 h3) hi).1
  have h6' := u_store hfc hkC hkind hlay hi h8 (hn b) (hfit b)
  have hkN : kf < nf ci := by rw [h2]; exact h3
  obtain ⟨a', rfl⟩ : ∃ a', a = a' + 1 := ⟨a - 1, by omega⟩
  refine W.putK C.1 C.2.1 (f := f) (v := cv b v) (a := b + (a' + 1)) ⟨C.2.2.2.1, C.2.2.2.2.1 _ h5, ⟨_, _, _, hsame⟩, hst⟩ (by rw [q2]; exact h6') q1 q3 (by rw [hsl]; exact k2_hasslot (q4 kf hkN)) rfl rfl (C.dec hd) fun H' e1 e2 e3 => ?_
  rw [hsl] at e1 ⊢
  have hnew : t_OB (b + (a' + 1)) (D.1 ci) (nf ci) (D.2 ci) H' (updV (fun k => cv b (vA (fc ci k) (gv S g (a' + 1) k))) kf (cv b v)) := ⟨_, e1, q2, q3, t_set q4 (by rw [h2]; exact hap) hkN (cv b v)⟩
  refine h p l e R s m args below meth c b D dA Q C hq H' _ ls hl (hP.set ha e2 e3 (Or.inl ⟨by rw [hs]; exact hc, ?_⟩) (by rw [hs]; exact hr)) (hS.put e2 e3 (by show b < b + (a' + 1); omega))
  rw [hs]
  refine hnew.to (fun q _ => ?_)
  unfold updV
  by_cases e : q = kf
  · subst e
    rw [if_pos rfl]
    have e9 : gv S (up2 g (a' + 1) q x) (a' + 1) q = x := by unfold gv; rw [hk]; exact if_pos ⟨rfl, rfl⟩
    rw [e9, hv]
  · rw [if_neg e]
    have e9 : gv S (up2 g (a' + 1) kf x) (a' + 1) q = gv S g (a' + 1) q := by unfold gv; rw [show up2 g (a' + 1) kf x (a' + 1) q = g (a' + 1) q from if_neg (fun r => e r.2)]
    rw [e9]
set_option maxHeartbeats 1000000 in
theorem v_putF0 {a ci kf idx : Nat} {ty : FieldType} {v : Value} {x : Int} (j : Nat) (hd : M.2.2.2[j]? = some (pc, .putfield idx, 3)) (hf : FL M.1.2.1 idx ci kf true ty) (ha : 0 < a ∧ a < n) (hs : (S a).1 = ci) (hc : ci < 12) (hv : vA (fc ci kf) x = v) (hr : rg (fc ci kf) x) (hk : (S a).2.2 kf = none) (hin : M.1.1.name = "<init>") (hn : ∀ b, narrow ty (cv b v) = cv b v) (hfit : ∀ b, fits ty (cv b v) = true) (h : V M d (pc + 3) L st n S (up2 g a kf x) k z P) : V M d pc L (v :: .ref a :: st) n S g k z P := by
  intro p l e R s m args below meth c b D dA Q C hq H locs ls hl hP hS
  obtain ⟨Cn, T, N, ref, h1, h2, h3, h4, h5, h6, h7, h8, ⟨ty0, h9⟩, h10, h11⟩ := hf
  have hap := va_apart (own := M.1.2.1) C.2.2.2.2.1 h4 ty0 h9 h10 C.2.2.2.2.2.1.1 h1
  obtain ⟨cell, q1, q2, q3, q4⟩ := hP.obj ha hs hc
  obtain ⟨hSl, hfc, kC, hkC, hkind⟩ := C.2.2.2.2.2.1.1.1 ci _ h1
  obtain ⟨cf, kf', fi, f, hi, hsl⟩ := hSl kf h3
  have hsame : s.fieldFound? ref (T kf).2.1 (T kf).2.2.1 = some (cf, kf', fi, f) := by
    rcases h6 with e | e
    · rw [← e]; exact hi
    · exact u_same (C.2.2.2.2.1 _ e) _ hi
  have hlay := C.2.2.2.2.1 _ (h4 _ (u_in_lay h3))
  unfold u_lay at hlay
  rw [if_pos h7] at hlay
  have hst := (u_facts hfc hkC (u_lays C.2.2.2.2.1 h4 h3) hi).1
  have hcf : m.cls = cf := by
    obtain ⟨_, _, c', _, _, _, -, -, hf', -, -, -, hown2, -⟩ := Cond.laysFinal_spec hlay
    have e1 : c' = cf := by have := hi.symm.trans hf'; simp at this; exact this.1.symm
    rw [h11 rfl] at hown2
    rw [← e1]; exact Option.some.inj (C.2.2.2.1.symm.trans hown2)
  have h6' := u_fits hfc hkC hkind (Or.inr hlay) hi h8 (hn b) (hfit b)
  have hkN : kf < nf ci := by rw [h2]; exact h3
  obtain ⟨a', rfl⟩ : ∃ a', a = a' + 1 := ⟨a - 1, by omega⟩
  refine W.putFinK C.1 C.2.1 (v := cv b v) (a := b + (a' + 1)) C.2.2.2.1 (C.2.2.2.2.1 _ h5) hsame hst hcf (C.2.2.2.2.2.2.2.1.trans hin) (by rw [q2]; exact h6') q1 q3 (by rw [hsl]; exact k2_hasslot (q4 kf hkN)) rfl rfl (C.dec hd) fun H' e1 e2 e3 => ?_
  rw [hsl] at e1 ⊢
  have hnew : t_OB (b + (a' + 1)) (D.1 ci) (nf ci) (D.2 ci) H' (updV (fun k => cv b (vA (fc ci k) (gv S g (a' + 1) k))) kf (cv b v)) := ⟨_, e1, q2, q3, t_set q4 (by rw [h2]; exact hap) hkN (cv b v)⟩
  refine h p l e R s m args below meth c b D dA Q C hq H' _ ls hl (hP.set ha e2 e3 (Or.inl ⟨by rw [hs]; exact hc, ?_⟩) (by rw [hs]; exact hr)) (hS.put e2 e3 (by show b < b + (a' + 1); omega))
  rw [hs]
  refine hnew.to (fun q _ => ?_)
  unfold updV
  by_cases e : q = kf
  · subst e
    rw [if_pos rfl]
    have e9 : gv S (up2 g (a' + 1) q x) (a' + 1) q = x := by unfold gv; rw [hk]; exact if_pos ⟨rfl, rfl⟩
    rw [e9, hv]
  · rw [if_neg e]
    have e9 : gv S (up2 g (a' + 1) kf x) (a' + 1) q = gv S g (a' + 1) q := by unfold gv; rw [show up2 g (a' + 1) kf x (a' + 1) q = g (a' + 1) q from if_neg (fun r => e r.2)]
    rw [e9]
theorem v_putI {a ci kf idx : Nat} {x : Int} (j : Nat) (hd : M.2.2.2[j]? = some (pc, .putfield idx, 3)) (hf : FL M.1.2.1 idx ci kf false .int) (ha : 0 < a ∧ a < n) (hs : (S a).1 = ci) (hc : ci < 12) (ht : fc ci kf = 0) (hk : (S a).2.2 kf = none) (hx : i3 x) (h : V M d (pc + 3) L st n S (up2 g a kf x) k z P) : V M d pc L (I_ x :: .ref a :: st) n S g k z P :=
  v_put0 j hd hf ha hs hc (by rw [ht]; rfl) (by rw [ht]; exact hx) hk (fun _ => rfl) (fun _ => rfl) h
theorem v_putZ {a ci kf idx : Nat} {x : Int} (j : Nat) (hd : M.2.2.2[j]? = some (pc, .putfield idx, 3)) (hf : FL M.1.2.1 idx ci kf false .boolean) (ha : 0 < a ∧ a < n) (hs : (S a).1 = ci) (hc : ci < 12) (ht : fc ci kf = 0) (hk : (S a).2.2 kf = none) (hx : x = 0 ∨ x = 1) (h : V M d (pc + 3) L st n S (up2 g a kf x) k z P) : V M d pc L (I_ x :: .ref a :: st) n S g k z P :=
  v_put0 j hd hf ha hs hc (by rw [ht]; rfl) (by rw [ht]; show i3 x; rcases hx with rfl | rfl <;> decide) hk (fun _ => by rcases hx with rfl | rfl <;> rfl) (fun _ => by rcases hx with rfl | rfl <;> rfl) h
theorem v_putL {a ci kf idx : Nat} {x : Int} (j : Nat) (hd : M.2.2.2[j]? = some (pc, .putfield idx, 3)) (hf : FL M.1.2.1 idx ci kf false .long) (ha : 0 < a ∧ a < n) (hs : (S a).1 = ci) (hc : ci < 12) (ht : fc ci kf = 1) (hk : (S a).2.2 kf = none) (hx : i6 x) (h : V M d (pc + 3) L st n S (up2 g a kf x) k z P) : V M d pc L (L_ x :: .ref a :: st) n S g k z P :=
  v_put0 j hd hf ha hs hc (by rw [ht]; rfl) (by rw [ht]; exact hx) hk (fun _ => rfl) (fun _ => rfl) h
theorem v_putR {a ci kf idx r : Nat} {nm : String} (j : Nat) (hd : M.2.2.2[j]? = some (pc, .putfield idx, 3)) (hf : FL M.1.2.1 idx ci kf false (.object nm)) (ha : 0 < a ∧ a < n) (hs : (S a).1 = ci) (hc : ci < 12) (ht : fc ci kf = 2) (hk : (S a).2.2 kf = none) (h : V M d (pc + 3) L st n S (up2 g a kf (r : Int)) k z P) : V M d pc L (.ref r :: .ref a :: st) n S g k z P :=
  v_put0 j hd hf ha hs hc (by rw [ht]; rfl) (by rw [ht]; exact Int.natCast_nonneg r) hk (fun _ => by cases r <;> rfl) (fun _ => by cases r <;> rfl) h
theorem v_putFI {a ci kf idx : Nat} {x : Int} (j : Nat) (hd : M.2.2.2[j]? = some (pc, .putfield idx, 3)) (hf : FL M.1.2.1 idx ci kf true .int) (ha : 0 < a ∧ a < n) (hs : (S a).1 = ci) (hc : ci < 12) (ht : fc ci kf = 0) (hk : (S a).2.2 kf = none) (hin : M.1.1.name = "<init>") (hx : i3 x) (h : V M d (pc + 3) L st n S (up2 g a kf x) k z P) : V M d pc L (I_ x :: .ref a :: st) n S g k z P :=
  v_putF0 j hd hf ha hs hc (by rw [ht]; rfl) (by rw [ht]; exact hx) hk hin (fun _ => rfl) (fun _ => rfl) h
theorem v_putFZ {a ci kf idx : Nat} {x : Int} (j : Nat) (hd : M.2.2.2[j]? = some (pc, .putfield idx, 3)) (hf : FL M.1.2.1 idx ci kf true .boolean) (ha : 0 < a ∧ a < n) (hs : (S a).1 = ci) (hc : ci < 12) (ht : fc ci kf = 0) (hk : (S a).2.2 kf = none) (hin : M.1.1.name = "<init>") (hx : x = 0 ∨ x = 1) (h : V M d (pc + 3) L st n S (up2 g a kf x) k z P) : V M d pc L (I_ x :: .ref a :: st) n S g k z P :=
  v_putF0 j hd hf ha hs hc (by rw [ht]; rfl) (by rw [ht]; show i3 x; rcases hx with rfl | rfl <;> decide) hk hin (fun _ => by rcases hx with rfl | rfl <;> rfl) (fun _ => by rcases hx with rfl | rfl <;> rfl) h
theorem v_putFL {a ci kf idx : Nat} {x : Int} (j : Nat) (hd : M.2.2.2[j]? = some (pc, .putfield idx, 3)) (hf : FL M.1.2.1 idx ci kf true .long) (ha : 0 < a ∧ a < n) (hs : (S a).1 = ci) (hc : ci < 12) (ht : fc ci kf = 1) (hk : (S a).2.2 kf = none) (hin : M.1.1.name = "<init>") (hx : i6 x) (h : V M d (pc + 3) L st n S (up2 g a kf x) k z P) : V M d pc L (L_ x :: .ref a :: st) n S g k z P :=
  v_putF0 j hd hf ha hs hc (by rw [ht]; rfl) (by rw [ht]; exact hx) hk hin (fun _ => rfl) (fun _ => rfl) h
theorem v_putFR {a ci kf idx r : Nat} {nm : String} (j : Nat) (hd : M.2.2.2[j]? = some (pc, .putfield idx, 3)) (hf : FL M.1.2.1 idx ci kf true (.object nm)) (ha : 0 < a ∧ a < n) (hs : (S a).1 = ci) (hc : ci < 12) (ht : fc ci kf = 2) (hk : (S a).2.2 kf = none) (hin : M.1.1.name = "<init>") (h : V M d (pc + 3) L st n S (up2 g a kf (r : Int)) k z P) : V M d pc L (.ref r :: .ref a :: st) n S g k z P :=
  v_putF0 j hd hf ha hs hc (by rw [ht]; rfl) (by rw [ht]; exact Int.natCast_nonneg r) hk hin (fun _ => by cases r <;> rfl) (fun _ => by cases r <;> rfl) h
theorem v_putA {a ci kf idx r : Nat} {et : FieldType} (j : Nat) (hd : M.2.2.2[j]? = some (pc, .putfield idx, 3)) (hf : FL M.1.2.1 idx ci kf false (.array et)) (ha : 0 < a ∧ a < n) (hs : (S a).1 = ci) (hc : ci < 12) (ht : fc ci kf = 2) (hk : (S a).2.2 kf = none) (h : V M d (pc + 3) L st n S (up2 g a kf (r : Int)) k z P) : V M d pc L (.ref r :: .ref a :: st) n S g k z P :=
  v_put0 j hd hf ha hs hc (by rw [ht]; rfl) (by rw [ht]; exact Int.natCast_nonneg r) hk (fun _ => by cases r <;> rfl) (fun _ => by cases r <;> rfl) h
theorem v_putFA {a ci kf idx r : Nat} {et : FieldType} (j : Nat) (hd : M.2.2.2[j]? = some (pc, .putfield idx, 3)) (hf : FL M.1.2.1 idx ci kf true (.array et)) (ha : 0 < a ∧ a < n) (hs : (S a).1 = ci) (hc : ci < 12) (ht : fc ci kf = 2) (hk : (S a).2.2 kf = none) (hin : M.1.1.name = "<init>") (h : V M d (pc + 3) L st n S (up2 g a kf (r : Int)) k z P) : V M d pc L (.ref r :: .ref a :: st) n S g k z P :=
  v_putF0 j hd hf ha hs hc (by rw [ht]; rfl) (by rw [ht]; exact Int.natCast_nonneg r) hk hin (fun _ => by cases r <;> rfl) (fun _ => by cases r <;> rfl) h
end VRows3
end
section
/-! ROWS OF ARRAYS -/
theorem ixN {x : Int} {N : Nat} (h : 0 ≤ x ∧ x < (N : Int)) (hN : N ≤ 100000) : vp_in (Int32.ofInt x) N ∧ (Int32.ofInt x).toNatClampNeg = x.toNat ∧ x.toNat < N := by
  obtain ⟨q, rfl⟩ : ∃ q : Nat, x = (q : Int) := ⟨x.toNat, by omega⟩
  have e : Int32.ofInt (q : Int) = nI q := Int32.ofInt_eq_ofNat
  rw [e]
  exact ⟨vp_in_nI (by omega) (by omega), by rw [nI_clamp (by omega)]; rfl, by show q < N; omega⟩
theorem arr_upd {cA : ClassId} {N t a q : Nat} {b : Nat} {g : Hp} {x : Int} {v : Value} (hv : vA (fc t q) x = v) : arrV cA N (updV (fun j => cv b (vA (fc t j) (g a j))) q (cv b v)) = arrV cA N (fun j => cv b (vA (fc t j) (up2 g a q x a j))) := by
  refine congrArg (arrV cA N) (funext fun j => ?_)
  unfold updV up2
  by_cases e : j = q
  · subst e; rw [if_pos rfl, if_pos ⟨rfl, rfl⟩, hv]
  · rw [if_neg e, if_neg (fun r => e r.2)]
section VRows4
variable {M : MI} {d pc : Nat} {L L' : List (Nat × Value)} {st : List Value} {n : Nat} {S : Nat → Shp} {g : Hp} {k z : Nat} {P : Pst}
theorem v_iald {a N : Nat} {x : Int} (j : Nat) (hd : M.2.2.2[j]? = some (pc, .iaload, 1)) (ha : 0 < a ∧ a < n) (hs : (S a).1 = 13) (hN : (S a).2.1 = N) (hN2 : N ≤ 100000) (hx : 0 ≤ x ∧ x < (N : Int)) (h : V M d (pc + 1) L (I_ (g a x.toNat) :: st) n S g k z P) : V M d pc L (I_ x :: .ref a :: st) n S g k z P := by
  intro p l e R s m args below meth c b D dA Q C hq H locs ls hl hP hS
  have w := h p l e R s m args below meth c b D dA Q C hq H locs ls hl hP hS
  have hA := hP.arr ha hs (by decide)
  rw [hN] at hA
  obtain ⟨hin, hcl, hlt⟩ := ixN hx hN2
  obtain ⟨a', rfl⟩ : ∃ a', a = a' + 1 := ⟨a - 1, by omega⟩
  refine W.iald C.1 C.2.1 hA ((C.2.2.2.2.2.1.1.2 1 _ rfl).1 _ _) (fun q => by cases q) (by show ¬ (_ ∨ (arrV _ _ _).slots.size ≤ _); rw [arrV_size]; exact hin) (v := cv b (I_ (g (a' + 1) x.toNat))) (by rw [hcl, arrV_read _ _ hlt]; rfl) rfl rfl (C.dec hd) w
theorem v_lald {a N : Nat} {x : Int} (j : Nat) (hd : M.2.2.2[j]? = some (pc, .laload, 1)) (ha : 0 < a ∧ a < n) (hs : (S a).1 = 14) (hN : (S a).2.1 = N) (hN2 : N ≤ 100000) (hx : 0 ≤ x ∧ x < (N : Int)) (h : V M d (pc + 1) L (L_ (g a x.toNat) :: st) n S g k z P) : V M d pc L (I_ x :: .ref a :: st) n S g k z P := by
  intro p l e R s m args below meth c b D dA Q C hq H locs ls hl hP hS
  have w := h p l e R s m args below meth c b D dA Q C hq H locs ls hl hP hS
  have hA := hP.arr ha hs (by decide)
  rw [hN] at hA
  obtain ⟨hin, hcl, hlt⟩ := ixN hx hN2
  obtain ⟨a', rfl⟩ : ∃ a', a = a' + 1 := ⟨a - 1, by omega⟩
  refine W.lald C.1 C.2.1 hA ((C.2.2.2.2.2.1.1.2 2 _ rfl).1 _ _) (fun q => by cases q) (by show ¬ (_ ∨ (arrV _ _ _).slots.size ≤ _); rw [arrV_size]; exact hin) (v := cv b (L_ (g (a' + 1) x.toNat))) (by rw [hcl, arrV_read _ _ hlt]; rfl) rfl rfl (C.dec hd) w
theorem v_bald {a N : Nat} {x : Int} (j : Nat) (hd : M.2.2.2[j]? = some (pc, .baload, 1)) (ha : 0 < a ∧ a < n) (hs : (S a).1 = 12) (hN : (S a).2.1 = N) (hN2 : N ≤ 100000) (hx : 0 ≤ x ∧ x < (N : Int)) (h : V M d (pc + 1) L (I_ (g a x.toNat) :: st) n S g k z P) : V M d pc L (I_ x :: .ref a :: st) n S g k z P := by
  intro p l e R s m args below meth c b D dA Q C hq H locs ls hl hP hS
  have w := h p l e R s m args below meth c b D dA Q C hq H locs ls hl hP hS
  have hA := hP.arr ha hs (by decide)
  rw [hN] at hA
  obtain ⟨hin, hcl, hlt⟩ := ixN hx hN2
  obtain ⟨a', rfl⟩ : ∃ a', a = a' + 1 := ⟨a - 1, by omega⟩
  refine W.bald C.1 C.2.1 hA ((C.2.2.2.2.2.1.1.2 0 _ rfl).1 _ _) (fun q => by cases q) (by show ¬ (_ ∨ (arrV _ _ _).slots.size ≤ _); rw [arrV_size]; exact hin) (v := cv b (I_ (g (a' + 1) x.toNat))) (by rw [hcl, arrV_read _ _ hlt]; rfl) rfl rfl (C.dec hd) w
theorem v_zald {a N : Nat} {x : Int} (j : Nat) (hd : M.2.2.2[j]? = some (pc, .baload, 1)) (ha : 0 < a ∧ a < n) (hs : (S a).1 = 15) (hN : (S a).2.1 = N) (hN2 : N ≤ 100000) (hx : 0 ≤ x ∧ x < (N : Int)) (h : V M d (pc + 1) L (I_ (g a x.toNat) :: st) n S g k z P) : V M d pc L (I_ x :: .ref a :: st) n S g k z P := by
  intro p l e R s m args below meth c b D dA Q C hq H locs ls hl hP hS
  have w := h p l e R s m args below meth c b D dA Q C hq H locs ls hl hP hS
  have hA := hP.arr ha hs (by decide)
  rw [hN] at hA
  obtain ⟨hin, hcl, hlt⟩ := ixN hx hN2
  obtain ⟨a', rfl⟩ : ∃ a', a = a' + 1 := ⟨a - 1, by omega⟩
  refine W.zald C.1 C.2.1 hA ((C.2.2.2.2.2.1.1.2 3 _ rfl).1 _ _) (fun q => by cases q) (by show ¬ (_ ∨ (arrV _ _ _).slots.size ≤ _); rw [arrV_size]; exact hin) (v := cv b (I_ (g (a' + 1) x.toNat))) (by rw [hcl, arrV_read _ _ hlt]; rfl) rfl rfl (C.dec hd) w
theorem v_pald {a N : Nat} {x : Int} (j : Nat) (hd : M.2.2.2[j]? = some (pc, .aaload, 1)) (ha : 0 < a ∧ a < n) (hs : (S a).1 = 16) (hN : (S a).2.1 = N) (hN2 : N ≤ 100000) (hx : 0 ≤ x ∧ x < (N : Int)) (h : V M d (pc + 1) L (.ref (g a x.toNat).toNat :: st) n S g k z P) : V M d pc L (I_ x :: .ref a :: st) n S g k z P := by
  intro p l e R s m args below meth c b D dA Q C hq H locs ls hl hP hS
  have w := h p l e R s m args below meth c b D dA Q C hq H locs ls hl hP hS
  have hA := hP.arr ha hs (by decide)
  rw [hN] at hA
  obtain ⟨hin, hcl, hlt⟩ := ixN hx hN2
  obtain ⟨a', rfl⟩ : ∃ a', a = a' + 1 := ⟨a - 1, by omega⟩
  refine W.aald C.1 C.2.1 hA ((C.2.2.2.2.2.1.1.2 4 _ rfl).1 _ _) rfl (fun q => by cases q) (by show ¬ (_ ∨ (arrV _ _ _).slots.size ≤ _); rw [arrV_size]; exact hin) (v := cv b (.ref (g (a' + 1) x.toNat).toNat)) (by rw [hcl, arrV_read _ _ hlt]; rfl) rfl rfl (C.dec hd) w
theorem v_rald {a N : Nat} {x : Int} (j : Nat) (hd : M.2.2.2[j]? = some (pc, .aaload, 1)) (ha : 0 < a ∧ a < n) (hs : (S a).1 = 17) (hN : (S a).2.1 = N) (hN2 : N ≤ 100000) (hx : 0 ≤ x ∧ x < (N : Int)) (h : V M d (pc + 1) L (.ref (g a x.toNat).toNat :: st) n S g k z P) : V M d pc L (I_ x :: .ref a :: st) n S g k z P := by
  intro p l e R s m args below meth c b D dA Q C hq H locs ls hl hP hS
  have w := h p l e R s m args below meth c b D dA Q C hq H locs ls hl hP hS
  have hA := hP.arr ha hs (by decide)
  rw [hN] at hA
  obtain ⟨hin, hcl, hlt⟩ := ixN hx hN2
  obtain ⟨a', rfl⟩ : ∃ a', a = a' + 1 := ⟨a - 1, by omega⟩
  refine W.aald C.1 C.2.1 hA ((C.2.2.2.2.2.1.1.2 5 _ rfl).1 _ _) rfl (fun q => by cases q) (by show ¬ (_ ∨ (arrV _ _ _).slots.size ≤ _); rw [arrV_size]; exact hin) (v := cv b (.ref (g (a' + 1) x.toNat).toNat)) (by rw [hcl, arrV_read _ _ hlt]; rfl) rfl rfl (C.dec hd) w
theorem v_tald {a N : Nat} {x : Int} (j : Nat) (hd : M.2.2.2[j]? = some (pc, .aaload, 1)) (ha : 0 < a ∧ a < n) (hs : (S a).1 = 18) (hN : (S a).2.1 = N) (hN2 : N ≤ 100000) (hx : 0 ≤ x ∧ x < (N : Int)) (h : V M d (pc + 1) L (.ref (g a x.toNat).toNat :: st) n S g k z P) : V M d pc L (I_ x :: .ref a :: st) n S g k z P := by
  intro p l e R s m args below meth c b D dA Q C hq H locs ls hl hP hS
  have w := h p l e R s m args below meth c b D dA Q C hq H locs ls hl hP hS
  have hA := hP.arr ha hs (by decide)
  rw [hN] at hA
  obtain ⟨hin, hcl, hlt⟩ := ixN hx hN2
  obtain ⟨a', rfl⟩ : ∃ a', a = a' + 1 := ⟨a - 1, by omega⟩
  refine W.aald C.1 C.2.1 hA ((C.2.2.2.2.2.1.1.2 6 _ rfl).1 _ _) rfl (fun q => by cases q) (by show ¬ (_ ∨ (arrV _ _ _).slots.size ≤ _); rw [arrV_size]; exact hin) (v := cv b (.ref (g (a' + 1) x.toNat).toNat)) (by rw [hcl, arrV_read _ _ hlt]; rfl) rfl rfl (C.dec hd) w
theorem v_aald {a N : Nat} {x : Int} (j : Nat) (hd : M.2.2.2[j]? = some (pc, .aaload, 1)) (ha : 0 < a ∧ a < n) (hs : (S a).1 = 19) (hN : (S a).2.1 = N) (hN2 : N ≤ 100000) (hx : 0 ≤ x ∧ x < (N : Int)) (h : V M d (pc + 1) L (.ref (g a x.toNat).toNat :: st) n S g k z P) : V M d pc L (I_ x :: .ref a :: st) n S g k z P := by
  intro p l e R s m args below meth c b D dA Q C hq H locs ls hl hP hS
  have w := h p l e R s m args below meth c b D dA Q C hq H locs ls hl hP hS
  have hA := hP.arr ha hs (by decide)
  rw [hN] at hA
  obtain ⟨hin, hcl, hlt⟩ := ixN hx hN2
  obtain ⟨a', rfl⟩ : ∃ a', a = a' + 1 := ⟨a - 1, by omega⟩
  refine W.aald C.1 C.2.1 hA ((C.2.2.2.2.2.1.1.2 7 _ rfl).1 _ _) rfl (fun q => by cases q) (by show ¬ (_ ∨ (arrV _ _ _).slots.size ≤ _); rw [arrV_size]; exact hin) (v := cv b (.ref (g (a' + 1) x.toNat).toNat)) (by rw [hcl, arrV_read _ _ hlt]; rfl) rfl rfl (C.dec hd) w
theorem v_iast {a N : Nat} {x y : Int} (j : Nat) (hd : M.2.2.2[j]? = some (pc, .iastore, 1)) (ha : 0 < a ∧ a < n) (hs : (S a).1 = 13) (hN : (S a).2.1 = N) (hN2 : N ≤ 100000) (hy : 0 ≤ y ∧ y < (N : Int)) (hx : i3 x) (h : V M d (pc + 1) L st n S (up2 g a y.toNat x) k z P) : V M d pc L (I_ x :: I_ y :: .ref a :: st) n S g k z P := by
  intro p l e R s m args below meth c b D dA Q C hq H locs ls hl hP hS
  have hA := hP.arr ha hs (by decide)
  rw [hN] at hA
  obtain ⟨hin, hcl, hlt⟩ := ixN hy hN2
  obtain ⟨a', rfl⟩ : ∃ a', a = a' + 1 := ⟨a - 1, by omega⟩
  refine W.iast C.1 C.2.1 hA ((C.2.2.2.2.2.1.1.2 1 _ rfl).1 _ _) (fun q => by cases q) (by show ¬ (_ ∨ (arrV _ _ _).slots.size ≤ _); rw [arrV_size]; exact hin) rfl rfl (C.dec hd) fun H' e1 e2 e3 => ?_
  refine h p l e R s m args below meth c b D dA Q C hq H' _ ls hl (hP.set ha e2 e3 (Or.inr ⟨by rw [hs]; decide, ?_⟩) (by rw [hs]; exact hx)) (hS.put e2 e3 (by show b < b + (a' + 1); omega))
  rw [e1, arrV_store, hcl, hs, hN]
  exact congrArg some (arr_upd (v := I_ x) rfl)
theorem v_last {a N : Nat} {x y : Int} (j : Nat) (hd : M.2.2.2[j]? = some (pc, .lastore, 1)) (ha : 0 < a ∧ a < n) (hs : (S a).1 = 14) (hN : (S a).2.1 = N) (hN2 : N ≤ 100000) (hy : 0 ≤ y ∧ y < (N : Int)) (hx : i6 x) (h : V M d (pc + 1) L st n S (up2 g a y.toNat x) k z P) : V M d pc L (L_ x :: I_ y :: .ref a :: st) n S g k z P := by
  intro p l e R s m args below meth c b D dA Q C hq H locs ls hl hP hS
  have hA := hP.arr ha hs (by decide)
  rw [hN] at hA
  obtain ⟨hin, hcl, hlt⟩ := ixN hy hN2
  obtain ⟨a', rfl⟩ : ∃ a', a = a' + 1 := ⟨a - 1, by omega⟩
  refine W.last C.1 C.2.1 hA ((C.2.2.2.2.2.1.1.2 2 _ rfl).1 _ _) (fun q => by cases q) (by show ¬ (_ ∨ (arrV _ _ _).slots.size ≤ _); rw [arrV_size]; exact hin) rfl rfl (C.dec hd) fun H' e1 e2 e3 => ?_
  refine h p l e R s m args below meth c b D dA Q C hq H' _ ls hl (hP.set ha e2 e3 (Or.inr ⟨by rw [hs]; decide, ?_⟩) (by rw [hs]; exact hx)) (hS.put e2 e3 (by show b < b + (a' + 1); omega))
  rw [e1, arrV_store, hcl, hs, hN]
  exact congrArg some (arr_upd (v := L_ x) rfl)
theorem v_bast {a N : Nat} {x y : Int} (j : Nat) (hd : M.2.2.2[j]? = some (pc, .bastore, 1)) (ha : 0 < a ∧ a < n) (hs : (S a).1 = 12) (hN : (S a).2.1 = N) (hN2 : N ≤ 100000) (hy : 0 ≤ y ∧ y < (N : Int)) (hnr : narrow .byte (I_ x) = I_ x) (hx : i3 x) (h : V M d (pc + 1) L st n S (up2 g a y.toNat x) k z P) : V M d pc L (I_ x :: I_ y :: .ref a :: st) n S g k z P := by
  intro p l e R s m args below meth c b D dA Q C hq H locs ls hl hP hS
  have hA := hP.arr ha hs (by decide)
  rw [hN] at hA
  obtain ⟨hin, hcl, hlt⟩ := ixN hy hN2
  obtain ⟨a', rfl⟩ : ∃ a', a = a' + 1 := ⟨a - 1, by omega⟩
  refine W.bast C.1 C.2.1 hA ((C.2.2.2.2.2.1.1.2 0 _ rfl).1 _ _) (fun q => by cases q) (by show ¬ (_ ∨ (arrV _ _ _).slots.size ≤ _); rw [arrV_size]; exact hin) rfl rfl (C.dec hd) fun H' e1 e2 e3 => ?_
  rw [hnr] at e1
  refine h p l e R s m args below meth c b D dA Q C hq H' _ ls hl (hP.set ha e2 e3 (Or.inr ⟨by rw [hs]; decide, ?_⟩) (by rw [hs]; exact hx)) (hS.put e2 e3 (by show b < b + (a' + 1); omega))
  rw [e1, arrV_store, hcl, hs, hN]
  exact congrArg some (arr_upd (v := I_ x) rfl)
theorem v_zast {a N : Nat} {x y : Int} (j : Nat) (hd : M.2.2.2[j]? = some (pc, .bastore, 1)) (ha : 0 < a ∧ a < n) (hs : (S a).1 = 15) (hN : (S a).2.1 = N) (hN2 : N ≤ 100000) (hy : 0 ≤ y ∧ y < (N : Int)) (hz : x = 0 ∨ x = 1) (hx : i3 x) (h : V M d (pc + 1) L st n S (up2 g a y.toNat x) k z P) : V M d pc L (I_ x :: I_ y :: .ref a :: st) n S g k z P := by
  intro p l e R s m args below meth c b D dA Q C hq H locs ls hl hP hS
  have hA := hP.arr ha hs (by decide)
  rw [hN] at hA
  obtain ⟨hin, hcl, hlt⟩ := ixN hy hN2
  obtain ⟨a', rfl⟩ : ∃ a', a = a' + 1 := ⟨a - 1, by omega⟩
  refine W.zast C.1 C.2.1 hA ((C.2.2.2.2.2.1.1.2 3 _ rfl).1 _ _) (fun q => by cases q) (by show ¬ (_ ∨ (arrV _ _ _).slots.size ≤ _); rw [arrV_size]; exact hin) rfl rfl (C.dec hd) fun H' e1 e2 e3 => ?_
  rw [show narrow .boolean (I_ x) = I_ x by rcases hz with rfl | rfl <;> rfl] at e1
  refine h p l e R s m args below meth c b D dA Q C hq H' _ ls hl (hP.set ha e2 e3 (Or.inr ⟨by rw [hs]; decide, ?_⟩) (by rw [hs]; exact hx)) (hS.put e2 e3 (by show b < b + (a' + 1); omega))
  rw [e1, arrV_store, hcl, hs, hN]
  exact congrArg some (arr_upd (v := I_ x) rfl)
/-- a cell of class ci may lie in an array over the class E -/
def Asg (ci : Nat) (E : String) : Prop := ∃ (C : String) (T : u_T) (N : Nat), vwCl[ci]? = some (C, T, N) ∧ (C = E ∨ Cond.castable C E ∈ tbG)
set_option maxHeartbeats 1000000 in
theorem v_past {a r N ci : Nat} {y : Int} (j : Nat) (hd : M.2.2.2[j]? = some (pc, .aastore, 1)) (ha : 0 < a ∧ a < n) (hs : (S a).1 = 16) (hN : (S a).2.1 = N) (hN2 : N ≤ 100000) (hy : 0 ≤ y ∧ y < (N : Int)) (hr : 0 < r ∧ r < n) (hsr : (S r).1 = ci) (hci : ci < 12) (hg : Asg ci "MobileMaker$Part") (h : V M d (pc + 1) L st n S (up2 g a y.toNat (r : Int)) k z P) : V M d pc L (.ref r :: I_ y :: .ref a :: st) n S g k z P := by
  intro p l e R s m args below meth c b D dA Q C hq H locs ls hl hP hS
  have hA := hP.arr ha hs (by decide)
  rw [hN] at hA
  obtain ⟨hin, hcl, hlt⟩ := ixN hy hN2
  have h0 : ¬ Int32.ofInt y < 0 := fun q => hin (Or.inl q)
  obtain ⟨a', rfl⟩ : ∃ a', a = a' + 1 := ⟨a - 1, by omega⟩
  obtain ⟨r', rfl⟩ : ∃ r', r = r' + 1 := ⟨r - 1, by omega⟩
  obtain ⟨cell, q1, q2, q3, q4⟩ := hP.obj hr hsr hci
  obtain ⟨Cn, T, N', g1, g2⟩ := hg
  obtain ⟨hSl, hfc, kC, hkC, hkind⟩ := C.2.2.2.2.2.1.1.1 ci _ g1
  obtain ⟨kA, comp, k1, k2, k3, -⟩ := (C.2.2.2.2.2.1.1.2 4 _ rfl).2
  obtain ⟨kE, hkE, -⟩ := Vm.findClass_spec k3
  have hfc' : s.vm.findClass Cn = some (D.1 ci) := hfc
  have hasg : s.vm.assignable cell.cls comp = true := by
    rw [q2]
    rcases g2 with e | e
    · subst e
      cases hfc'.symm.trans k3
      exact Vm.assignable_self _ _
    · obtain ⟨c0, t0, f1, f2, f3⟩ := Cond.castable_spec (C.2.2.2.2.1 _ e)
      cases hfc'.symm.trans f1
      cases k3.symm.trans f2
      exact f3
  refine W.aast C.1 C.2.1 hA (fun q h => by cases h) (fun h => by cases h) k1 k2 rfl hkE ⟨h0, by show _ < (arrV _ _ _).slots.size; rw [arrV_size, hcl]; exact hlt⟩ q1 (fun q h => by rw [q3] at h; cases h) (by rw [q2]; exact hkC) hasg rfl rfl (C.dec hd) fun H' e1 e2 e3 => ?_
  refine h p l e R s m args below meth c b D dA Q C hq H' _ ls hl (hP.set ha e2 e3 (Or.inr ⟨by rw [hs]; decide, ?_⟩) (by rw [hs]; exact Int.natCast_nonneg _)) (hS.put e2 e3 (by show b < b + (a' + 1); omega))
  rw [e1, arrV_store, hcl, hs, hN]
  exact congrArg some (arr_upd (v := .ref (r' + 1)) rfl)
set_option maxHeartbeats 1000000 in
theorem v_rast {a r N ci : Nat} {y : Int} (j : Nat) (hd : M.2.2.2[j]? = some (pc, .aastore, 1)) (ha : 0 < a ∧ a < n) (hs : (S a).1 = 17) (hN : (S a).2.1 = N) (hN2 : N ≤ 100000) (hy : 0 ≤ y ∧ y < (N : Int)) (hr : 0 < r ∧ r < n) (hsr : (S r).1 = ci) (hci : ci < 12) (hg : Asg ci "MobileMaker$Rod") (h : V M d (pc + 1) L st n S (up2 g a y.toNat (r : Int)) k z P) : V M d pc L (.ref r :: I_ y :: .ref a :: st) n S g k z P := by
  intro p l e R s m args below meth c b D dA Q C hq H locs ls hl hP hS
  have hA := hP.arr ha hs (by decide)
  rw [hN] at hA
  obtain ⟨hin, hcl, hlt⟩ := ixN hy hN2
  have h0 : ¬ Int32.ofInt y < 0 := fun q => hin (Or.inl q)
  obtain ⟨a', rfl⟩ : ∃ a', a = a' + 1 := ⟨a - 1, by omega⟩
  obtain ⟨r', rfl⟩ : ∃ r', r = r' + 1 := ⟨r - 1, by omega⟩
  obtain ⟨cell, q1, q2, q3, q4⟩ := hP.obj hr hsr hci
  obtain ⟨Cn, T, N', g1, g2⟩ := hg
  obtain ⟨hSl, hfc, kC, hkC, hkind⟩ := C.2.2.2.2.2.1.1.1 ci _ g1
  obtain ⟨kA, comp, k1, k2, k3, -⟩ := (C.2.2.2.2.2.1.1.2 5 _ rfl).2
  obtain ⟨kE, hkE, -⟩ := Vm.findClass_spec k3
  have hfc' : s.vm.findClass Cn = some (D.1 ci) := hfc
  have hasg : s.vm.assignable cell.cls comp = true := by
    rw [q2]
    rcases g2 with e | e
    · subst e
      cases hfc'.symm.trans k3
      exact Vm.assignable_self _ _
    · obtain ⟨c0, t0, f1, f2, f3⟩ := Cond.castable_spec (C.2.2.2.2.1 _ e)
      cases hfc'.symm.trans f1
      cases k3.symm.trans f2
      exact f3
  refine W.aast C.1 C.2.1 hA (fun q h => by cases h) (fun h => by cases h) k1 k2 rfl hkE ⟨h0, by show _ < (arrV _ _ _).slots.size; rw [arrV_size, hcl]; exact hlt⟩ q1 (fun q h => by rw [q3] at h; cases h) (by rw [q2]; exact hkC) hasg rfl rfl (C.dec hd) fun H' e1 e2 e3 => ?_
  refine h p l e R s m args below meth c b D dA Q C hq H' _ ls hl (hP.set ha e2 e3 (Or.inr ⟨by rw [hs]; decide, ?_⟩) (by rw [hs]; exact Int.natCast_nonneg _)) (hS.put e2 e3 (by show b < b + (a' + 1); omega))
  rw [e1, arrV_store, hcl, hs, hN]
  exact congrArg some (arr_upd (v := .ref (r' + 1)) rfl)
set_option maxHeartbeats 1000000 in
theorem v_tast {a r N ci : Nat} {y : Int} (j : Nat) (hd : M.2.2.2[j]? = some (pc, .aastore, 1)) (ha : 0 < a ∧ a < n) (hs : (S a).1 = 18) (hN : (S a).2.1 = N) (hN2 : N ≤ 100000) (hy : 0 ≤ y ∧ y < (N : Int)) (hr : 0 < r ∧ r < n) (hsr : (S r).1 = ci) (hci : ci < 12) (hg : Asg ci "MobileMaker$Tray") (h : V M d (pc + 1) L st n S (up2 g a y.toNat (r : Int)) k z P) : V M d pc L (.ref r :: I_ y :: .ref a :: st) n S g k z P := by
  intro p l e R s m args below meth c b D dA Q C hq H locs ls hl hP hS
  have hA := hP.arr ha hs (by decide)
  rw [hN] at hA
  obtain ⟨hin, hcl, hlt⟩ := ixN hy hN2
  have h0 : ¬ Int32.ofInt y < 0 := fun q => hin (Or.inl q)
  obtain ⟨a', rfl⟩ : ∃ a', a = a' + 1 := ⟨a - 1, by omega⟩
  obtain ⟨r', rfl⟩ : ∃ r', r = r' + 1 := ⟨r - 1, by omega⟩
  obtain ⟨cell, q1, q2, q3, q4⟩ := hP.obj hr hsr hci
  obtain ⟨Cn, T, N', g1, g2⟩ := hg
  obtain ⟨hSl, hfc, kC, hkC, hkind⟩ := C.2.2.2.2.2.1.1.1 ci _ g1
  obtain ⟨kA, comp, k1, k2, k3, -⟩ := (C.2.2.2.2.2.1.1.2 6 _ rfl).2
  obtain ⟨kE, hkE, -⟩ := Vm.findClass_spec k3
  have hfc' : s.vm.findClass Cn = some (D.1 ci) := hfc
  have hasg : s.vm.assignable cell.cls comp = true := by
    rw [q2]
    rcases g2 with e | e
    · subst e
      cases hfc'.symm.trans k3
      exact Vm.assignable_self _ _
    · obtain ⟨c0, t0, f1, f2, f3⟩ := Cond.castable_spec (C.2.2.2.2.1 _ e)
      cases hfc'.symm.trans f1
      cases k3.symm.trans f2
      exact f3
  refine W.aast C.1 C.2.1 hA (fun q h => by cases h) (fun h => by cases h) k1 k2 rfl hkE ⟨h0, by show _ < (arrV _ _ _).slots.size; rw [arrV_size, hcl]; exact hlt⟩ q1 (fun q h => by rw [q3] at h; cases h) (by rw [q2]; exact hkC) hasg rfl rfl (C.dec hd) fun H' e1 e2 e3 => ?_
  refine h p l e R s m args below meth c b D dA Q C hq H' _ ls hl (hP.set ha e2 e3 (Or.inr ⟨by rw [hs]; decide, ?_⟩) (by rw [hs]; exact Int.natCast_nonneg _)) (hS.put e2 e3 (by show b < b + (a' + 1); omega))
  rw [e1, arrV_store, hcl, hs, hN]
  exact congrArg some (arr_upd (v := .ref (r' + 1)) rfl)
theorem v_alen {a N : Nat} {t : Nat} {ty : FieldType} (j : Nat) (hd : M.2.2.2[j]? = some (pc, .arraylength, 1)) (ha : 0 < a ∧ a < n) (hs : (S a).1 = t) (ht : 12 ≤ t) (hty : ∀ dA : Nat → ClassId, (aty dA)[t - 12]? = some (dA t, ty)) (hN : (S a).2.1 = N) (h : V M d (pc + 1) L (I_ (N : Int) :: st) n S g k z P) : V M d pc L (.ref a :: st) n S g k z P := by
  intro p l e R s m args below meth c b D dA Q C hq H locs ls hl hP hS
  have w := h p l e R s m args below meth c b D dA Q C hq H locs ls hl hP hS
  have hA := hP.arr ha hs ht
  rw [hN] at hA
  obtain ⟨a', rfl⟩ : ∃ a', a = a' + 1 := ⟨a - 1, by omega⟩
  refine W.alen C.1 C.2.1 hA ((C.2.2.2.2.2.1.1.2 (t - 12) _ (hty dA)).1 _ _) (n := Int32.ofInt (N : Int)) (by rw [arrV_size]; exact Int32.ofInt_eq_ofNat.symm) rfl rfl (C.dec hd) w
/-- what is held is in range -/
theorem v_rng (h : (∀ i q, 0 < i → i < n → rg (fc (S i).1 q) (g i q)) → V M d pc L st n S g k z P) : V M d pc L st n S g k z P :=
  fun p l e R s m args below meth c b D dA Q C hq H locs ls hl hP hS => h hP.2.2 p l e R s m args below meth c b D dA Q C hq H locs ls hl hP hS
/-- another picture of the same cells -/
theorem v_same {S' : Nat → Shp} {g' : Hp} (hs : ∀ i, 0 < i → i < n → (S' i).1 = (S i).1 ∧ (S' i).2.1 = (S i).2.1 ∧ ((S i).1 < 12 → ∀ q, gv S' g' i q = gv S g i q) ∧ (12 ≤ (S i).1 → ∀ q, g' i q = g i q)) (hr : (∀ i q, 0 < i → i < n → rg (fc (S i).1 q) (g i q)) → ∀ i q, 0 < i → i < n → rg (fc (S' i).1 q) (g' i q)) (h : V M d pc L st n S' g' k z P) : V M d pc L st n S g k z P := by
  intro p l e R s m args below meth c b D dA Q C hq H locs ls hl hP hS
  refine h p l e R s m args below meth c b D dA Q C hq H locs ls hl ⟨hP.1, fun i h0 h1 => ?_, hr hP.2.2⟩ hS
  obtain ⟨e1, e2, e3, e4⟩ := hs i h0 h1
  unfold cel
  rw [e1, e2]
  rcases hP.2.1 i h0 h1 with q | q
  · exact Or.inl ⟨q.1, q.2.to (fun k _ => by rw [e3 q.1 k])⟩
  · refine Or.inr ⟨q.1, ?_⟩
    rw [q.2]
    simp only [e4 q.1]
end VRows4
end
section
/-! CALLS -/
section VCalls
variable {p : Program} {l : Launch} {e : Env} {R : Room} {s : State} {m : MethodId} {args : Array Value} {below : List Frame} {meth : Method} {c : Code} {H : Heap} {locs : List Loc} {k z : Nat} {Q : State → Prop}
theorem w_run {mc ms pc b : Nat} {ls : Array Slot} {st0 rest : List Value} {r : Option FieldType} {P' : Pst} {D : va_G} {dA : Nat → ClassId} {a : Array Value} (hr : va_Run p l e R s m args below meth c H locs k z mc ms (F0 m pc ls st0) rest (QcM r P' b D dA a) (AA b)) (hS : va_S (AA b) s.heap H locs)
    (kk : ∀ (v : Option Value) (n' : Nat) (S' : Nat → Shp) (g' : Hp) (H1 : Heap) (locs1 : List Loc), P' v n' S' g' → Pic D dA b n' S' g' H1 → va_S (AA b) s.heap H1 locs1 → W p l e R s m args below meth c H1 locs1 (k + mc) (z + ms) Q (F0 m (pc + 3) ls ((v.map (cv b)).toList ++ rest))) : W p l e R s m args below meth c H locs k z Q (F0 m pc ls st0) := by
  intro T hT X
  obtain ⟨v, st₀, t, T', L, h0, X', hL, e1, e2, ⟨⟨v', n', S', g', hv, hp, hrk, hpic⟩, hz, hk⟩, st⟩ := hr T hT X
  cases hv
  rw [h0] at hz hk
  obtain ⟨t2, a1, b1⟩ := kk v' n' S' g' T'.heap (locs ++ L) hp (by rw [e1]; exact hpic)
    ⟨Nat.le_trans hS.1 (by rw [e1]; exact hz), fun q h1 h2 => by rw [e1, hk q (Nat.lt_of_lt_of_le h1 hS.1) h2]; exact hS.2.1 q h1 h2, fun q hq => by
      rcases List.mem_append.mp hq with h | h
      · exact hS.2.2 q h
      · exact hL q h⟩ T' rfl X'
  exact ⟨t2, st t2 a1, b1⟩
end VCalls
/-- what a call needs of the tables -/
def LkB (M M' : MI) (idx na : Nat) : Prop := (Cond.code M'.1.1 M'.1.2.2 M'.2.1.1 M'.2.1.2 ∈ tbG ∧ Cond.initialized M'.1.1.cls ∈ tbG ∧ Cond.methodLink M.1.2.1 idx M'.1.1 ∈ tbG) ∧ (M'.1.1.cls ≠ "java/lang/invoke/MethodHandle" ∧ M'.1.1.cls ≠ "java/lang/invoke/VarHandle" ∧ (parseMethodDescriptor M'.1.1.desc).map (fun d => d.parameters.length) = some na) ∧ M'.2.1.1 ≤ 40
def LkS (M M' : MI) (idx na : Nat) : Prop := LkB M M' idx na ∧ Cond.static M'.1.1 ∈ tbG
/-- .. of a method of an object of the class ci -/
def LkV (M M' : MI) (idx na ci : Nat) : Prop := LkB M M' idx na ∧ Cond.instanceMethod M'.1.1 ∈ tbG ∧ ∃ (C : String) (T : u_T) (N : Nat), vwCl[ci]? = some (C, T, N) ∧ Cond.selects C M'.1.1 M'.1.1 ∈ tbG
def LkI (M M' : MI) (idx na : Nat) : Prop := LkB M M' idx na ∧ M'.1.1.name = "<init>" ∧ Cond.instanceMethod M'.1.1 ∈ tbG
theorem wsM_good (M' : MI) (h : Cond.code M'.1.1 M'.1.2.2 M'.2.1.1 M'.2.1.2 ∈ tbG) : GoodIn tbG (wsM M') := fun w hw => by
  rcases List.mem_cons.mp hw with e | e
  · subst e; exact ⟨h, tbG_good h⟩
  · exact ⟨e, tbG_good e⟩
theorem PcM_blind (b : Nat) (D : va_G) (dA : Nat → ClassId) (as : List Value) (n : Nat) (S : Nat → Shp) (g : Hp) : FrameBlind (PcM b D dA as n S g) := fun a U gg mk q => ⟨q.1, q.2.1, KK.moved (u := U) (U := U.calling gg mk a) (Vm.Alike.refl U.vm) q.2.2.1, q.2.2.2⟩
theorem PcM_at {b : Nat} {D : va_G} {dA : Nat → ClassId} {as : List Value} {n : Nat} {S : Nat → Shp} {g : Hp} {H : Heap} {s U : State} (hP : Pic D dA b n S g H) (hK : KK D dA s) (hn : 0 < n) (hU : U.heap = H) (hW : s.WarmedH U.vm) : PcM b D dA as n S g (as.map (cv b)).toArray U :=
  ⟨rfl, by rw [hU]; exact hP, hK.moved hW.alike, hn⟩
theorem LkB.cw {M M' : MI} {d idx na : Nat} {p : Program} {R : Room} {s : State} {m : MethodId} {args : Array Value} {meth : Method} {c : Code} {b : Nat} {D : va_G} {dA : Nat → ClassId} (h : LkB M M' idx na) (C : Ctx M (d + 1) p R s m args meth c b D dA) : CallB R s args M.1.2.1 idx M'.1.1 M'.1.2.2 M'.2.1.1 M'.2.1.2 (wsM M') (rmM M' d) M'.2.2.1.1 M'.2.2.1.2 na :=
  callB_of na C.2.2.2.2.1 (wsM_good M' h.1.1) rfl rfl rfl (C.2.2.2.2.1 _ h.1.2.1) (C.2.2.2.2.1 _ h.1.2.2) h.2.1 ⟨C.2.2.2.2.2.2.2.2.1.1, by have h1 := C.2.2.2.2.2.2.2.2.1.2.1; have h2 := h.2.2; show 8 + (M'.2.1.1 + 11) + 64 * d ≤ R.locals; omega⟩
theorem cats_le {b : Nat} {st : List Value} (h : ((st.map fun v => v.category).sum) ≤ 8) (hr : ∀ v ∈ st, ∀ a, v ≠ .retAddr a) : (((st.map (cv b)).map fun v => v.category).sum) ≤ 8 := by
  have e : (st.map (cv b)).map (fun v => v.category) = st.map (fun v => v.category) := by
    rw [List.map_map]
    exact List.map_congr_left fun v hv => cv_cat b v (hr v hv)
  rw [e]; exact h
/-- the words of a stack -/
def wds (st : List Value) : Bool := decide ((st.map fun v => v.category).sum ≤ 8) && st.all fun v => match v with
  | .retAddr _ => false
  | _ => true
theorem wds_le {b : Nat} {st : List Value} (h : wds st = true) : (((st.map (cv b)).map fun v => v.category).sum) ≤ 8 := by
  unfold wds at h
  rw [Bool.and_eq_true, decide_eq_true_eq, List.all_eq_true] at h
  refine cats_le h.1 fun v hv a e => ?_
  have := h.2 v hv
  rw [e] at this
  cases this
section VCalls2
variable {M M' : MI} {d pc : Nat} {L : List (Nat × Value)} {st : List Value} {n : Nat} {S : Nat → Shp} {g : Hp} {k z : Nat} {P : Pst}
theorem v_callS {idx : Nat} (as : List Value) (j : Nat) (hd : M.2.2.2[j]? = some (pc, .invokestatic idx, 3)) (hl : LkS M M' idx as.length) (hw : wds st = true) (hn : 0 < n) (hk : k + M'.2.2.1.1 ≤ M.2.2.1.1) (hz : z + M'.2.2.1.2 ≤ M.2.2.1.2)
    (hr : Runs M' d as n S g (fun v n' S' g' => V M (d + 1) (pc + 3) L (v.toList ++ st) n' S' g' (k + M'.2.2.1.1) (z + M'.2.2.1.2) P)) : V M (d + 1) pc L (as.reverse ++ st) n S g k z P := by
  intro p l e R s m args below meth c b D dA Q C hq H locs ls hls hP hS
  refine w_run (rest := st.map (cv b)) (va_runS (As := as.map (cv b)) ⟨C.1, C.2.1, C.2.2.1, C.2.2.2.1, C.2.2.2.2.1⟩ (hr l b D dA) ⟨hl.1.cw C, C.2.2.2.2.1 _ hl.2⟩ ⟨PcM_blind b D dA as n S g, fun U hU hW => PcM_at hP C.2.2.2.2.2.1 hn hU hW⟩ rfl (List.length_map _) hls.1 ?_ (by show 2 * 0 + _ ≤ 8; rw [Nat.mul_zero, Nat.zero_add]; exact wds_le hw) (C.dec hd) ⟨Nat.le_trans hk C.2.2.2.2.2.2.2.2.1.2.2.1, Nat.le_trans hz C.2.2.2.2.2.2.2.2.1.2.2.2⟩) hS ?_
  · show (as.reverse ++ st).map (cv b) = (as.map (cv b)).reverse ++ st.map (cv b)
    rw [List.map_append, List.map_reverse]
  · intro v n' S' g' H1 locs1 hv hP1 hS1
    have w := hv p l e R s m args below meth c b D dA Q C hq H1 locs1 ls hls hP1 hS1
    rw [List.map_append] at w
    cases v with
    | none => exact w
    | some x => exact w
theorem v_callV {idx a ci : Nat} (as : List Value) (j : Nat) (hd : M.2.2.2[j]? = some (pc, .invokevirtual idx, 3)) (hl : LkV M M' idx as.length ci) (ha : 0 < a ∧ a < n) (hs : (S a).1 = ci) (hc : ci < 12) (hw : wds st = true) (hk : k + M'.2.2.1.1 ≤ M.2.2.1.1) (hz : z + M'.2.2.1.2 ≤ M.2.2.1.2)
    (hr : Runs M' d (.ref a :: as) n S g (fun v n' S' g' => V M (d + 1) (pc + 3) L (v.toList ++ st) n' S' g' (k + M'.2.2.1.1) (z + M'.2.2.1.2) P)) : V M (d + 1) pc L (as.reverse ++ .ref a :: st) n S g k z P := by
  intro p l e R s m args below meth c b D dA Q C hq H locs ls hls hP hS
  obtain ⟨a', rfl⟩ : ∃ a', a = a' + 1 := ⟨a - 1, by omega⟩
  obtain ⟨Cn, T, N, g1, g2⟩ := hl.2.2
  obtain ⟨cell, q1, q2, q3, q4⟩ := hP.obj ha hs hc
  have hfc := (C.2.2.2.2.2.1.1.1 ci _ g1).2.1
  refine w_run (rest := st.map (cv b)) (va_runV (As := as.map (cv b)) (b := b + (a' + 1)) (C := Cn) ⟨C.1, C.2.1, C.2.2.1, C.2.2.2.1, C.2.2.2.2.1⟩ (hr l b D dA) ⟨hl.1.cw C, C.2.2.2.2.1 _ hl.2.1, C.2.2.2.2.1 _ g2⟩ ⟨PcM_blind b D dA _ n S g, ⟨cell, q1, by rw [q3]; rfl, by rw [q2]; exact hfc⟩, fun U hU hW => PcM_at hP C.2.2.2.2.2.1 (by omega) hU hW⟩ rfl (List.length_map _) hls.1 ?_ (by show 2 * 0 + _ ≤ 8; rw [Nat.mul_zero, Nat.zero_add]; exact wds_le hw) (C.dec hd) ⟨Nat.le_trans hk C.2.2.2.2.2.2.2.2.1.2.2.1, Nat.le_trans hz C.2.2.2.2.2.2.2.2.1.2.2.2⟩) hS ?_
  · show (as.reverse ++ .ref (a' + 1) :: st).map (cv b) = (as.map (cv b)).reverse ++ .ref (b + (a' + 1)) :: st.map (cv b)
    rw [List.map_append, List.map_reverse]; rfl
  · intro v n' S' g' H1 locs1 hv hP1 hS1
    have w := hv p l e R s m args below meth c b D dA Q C hq H1 locs1 ls hls hP1 hS1
    rw [List.map_append] at w
    cases v with
    | none => exact w
    | some x => exact w
theorem v_callI {idx a : Nat} (as : List Value) (j : Nat) (hd : M.2.2.2[j]? = some (pc, .invokespecial idx, 3)) (hl : LkI M M' idx as.length) (hret : M'.2.1.2 = none) (ha : 0 < a ∧ a < n) (hw : wds st = true) (hk : k + M'.2.2.1.1 ≤ M.2.2.1.1) (hz : z + M'.2.2.1.2 ≤ M.2.2.1.2)
    (hr : Runs M' d (.ref a :: as) n S g (fun v n' S' g' => V M (d + 1) (pc + 3) L (v.toList ++ st) n' S' g' (k + M'.2.2.1.1) (z + M'.2.2.1.2) P)) : V M (d + 1) pc L (as.reverse ++ .ref a :: st) n S g k z P := by
  intro p l e R s m args below meth c b D dA Q C hq H locs ls hls hP hS
  obtain ⟨a', rfl⟩ : ∃ a', a = a' + 1 := ⟨a - 1, by omega⟩
  have cw := hl.1.cw C
  rw [hret] at cw
  refine w_run (rest := st.map (cv b)) (va_runI (As := as.map (cv b)) (b := b + (a' + 1)) ⟨C.1, C.2.1, C.2.2.1, C.2.2.2.1, C.2.2.2.2.1⟩ (hr l b D dA) ⟨cw, hl.2.1, C.2.2.2.2.1 _ hl.2.2⟩ ⟨PcM_blind b D dA _ n S g, fun U hU hW => PcM_at hP C.2.2.2.2.2.1 (by omega) hU hW⟩ rfl (List.length_map _) hls.1 ?_ (by show 2 * 0 + _ ≤ 8; rw [Nat.mul_zero, Nat.zero_add]; exact wds_le hw) (C.dec hd) ⟨Nat.le_trans hk C.2.2.2.2.2.2.2.2.1.2.2.1, Nat.le_trans hz C.2.2.2.2.2.2.2.2.1.2.2.2⟩) hS ?_
  · show (as.reverse ++ .ref (a' + 1) :: st).map (cv b) = (as.map (cv b)).reverse ++ .ref (b + (a' + 1)) :: st.map (cv b)
    rw [List.map_append, List.map_reverse]; rfl
  · intro v n' S' g' H1 locs1 hv hP1 hS1
    have w := hv p l e R s m args below meth c b D dA Q C hq H1 locs1 ls hls hP1 hS1
    rw [List.map_append] at w
    cases v with
    | none => exact w
    | some x => exact w
end VCalls2
end
