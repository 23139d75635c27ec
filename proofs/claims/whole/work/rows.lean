section
-- ===== PART A: goes FIRST, ahead of the names: the tables' words, and 'selects' of the private methods out of them =====
/-- a private method of a class that the tables say can be made, by its rows of tables_1 -/
def lw_okq (q : MethodName × Nat) : Prop := (q.1.cls ≠ "java/lang/invoke/MethodHandle" ∧ q.1.cls ≠ "java/lang/invoke/VarHandle") ∧ Cond.instantiable q.1.cls q.2 ∈ tables_1 ∧ Cond.privateMethod q.1 ∈ tables_1 ∧ Cond.instanceMethod q.1 ∈ tables_1
theorem lw_p0 : lw_okq (⟨"MobileMaker", "trayAt", "(I)LMobileMaker$Tray;"⟩, 13) := ⟨⟨by decide +kernel, by decide +kernel⟩, List.mem_of_getElem? (i := 23) (by decide +kernel), List.mem_of_getElem? (i := 265) (by decide +kernel), List.mem_of_getElem? (i := 266) (by decide +kernel)⟩
theorem lw_p1 : lw_okq (⟨"MobileMaker", "refuses", "(I)Z"⟩, 13) := ⟨⟨by decide +kernel, by decide +kernel⟩, List.mem_of_getElem? (i := 23) (by decide +kernel), List.mem_of_getElem? (i := 269) (by decide +kernel), List.mem_of_getElem? (i := 270) (by decide +kernel)⟩
theorem lw_p2 : lw_okq (⟨"MobileMaker", "allows", "()Z"⟩, 13) := ⟨⟨by decide +kernel, by decide +kernel⟩, List.mem_of_getElem? (i := 23) (by decide +kernel), List.mem_of_getElem? (i := 280) (by decide +kernel), List.mem_of_getElem? (i := 281) (by decide +kernel)⟩
theorem lw_p3 : lw_okq (⟨"MobileMaker", "newWeight", "(J)I"⟩, 13) := ⟨⟨by decide +kernel, by decide +kernel⟩, List.mem_of_getElem? (i := 23) (by decide +kernel), List.mem_of_getElem? (i := 329) (by decide +kernel), List.mem_of_getElem? (i := 330) (by decide +kernel)⟩
theorem lw_p4 : lw_okq (⟨"MobileMaker", "none", "(I)I"⟩, 13) := ⟨⟨by decide +kernel, by decide +kernel⟩, List.mem_of_getElem? (i := 23) (by decide +kernel), List.mem_of_getElem? (i := 334) (by decide +kernel), List.mem_of_getElem? (i := 335) (by decide +kernel)⟩
theorem lw_p5 : lw_okq (⟨"MobileMaker", "added", "(LMobileMaker$Part;)I"⟩, 13) := ⟨⟨by decide +kernel, by decide +kernel⟩, List.mem_of_getElem? (i := 23) (by decide +kernel), List.mem_of_getElem? (i := 429) (by decide +kernel), List.mem_of_getElem? (i := 430) (by decide +kernel)⟩
theorem lw_p6 : lw_okq (⟨"MobileMaker$Ring", "foldsBackAfter", "(I)Z"⟩, 3) := ⟨⟨by decide +kernel, by decide +kernel⟩, List.mem_of_getElem? (i := 54) (by decide +kernel), List.mem_of_getElem? (i := 513) (by decide +kernel), List.mem_of_getElem? (i := 514) (by decide +kernel)⟩
theorem lw_p7 : lw_okq (⟨"MobileMaker$Ring", "next", "(I)I"⟩, 3) := ⟨⟨by decide +kernel, by decide +kernel⟩, List.mem_of_getElem? (i := 54) (by decide +kernel), List.mem_of_getElem? (i := 517) (by decide +kernel), List.mem_of_getElem? (i := 518) (by decide +kernel)⟩
theorem lw_p8 : lw_okq (⟨"MobileMaker$Ring", "turn", "(III)I"⟩, 3) := ⟨⟨by decide +kernel, by decide +kernel⟩, List.mem_of_getElem? (i := 54) (by decide +kernel), List.mem_of_getElem? (i := 521) (by decide +kernel), List.mem_of_getElem? (i := 522) (by decide +kernel)⟩
theorem lw_p9 : lw_okq (⟨"MobileMaker$Ring", "doSidesMeet", "(II)Z"⟩, 3) := ⟨⟨by decide +kernel, by decide +kernel⟩, List.mem_of_getElem? (i := 54) (by decide +kernel), List.mem_of_getElem? (i := 528) (by decide +kernel), List.mem_of_getElem? (i := 529) (by decide +kernel)⟩
theorem lw_p10 : lw_okq (⟨"MobileMaker$Ring", "isInBox", "(III)Z"⟩, 3) := ⟨⟨by decide +kernel, by decide +kernel⟩, List.mem_of_getElem? (i := 54) (by decide +kernel), List.mem_of_getElem? (i := 532) (by decide +kernel), List.mem_of_getElem? (i := 533) (by decide +kernel)⟩
theorem lw_p11 : lw_okq (⟨"MobileMaker$Ring", "signedTwiceArea", "()I"⟩, 3) := ⟨⟨by decide +kernel, by decide +kernel⟩, List.mem_of_getElem? (i := 54) (by decide +kernel), List.mem_of_getElem? (i := 548) (by decide +kernel), List.mem_of_getElem? (i := 549) (by decide +kernel)⟩
theorem lw_p12 : lw_okq (⟨"MobileMaker$Ring", "crossAfter", "(I)I"⟩, 3) := ⟨⟨by decide +kernel, by decide +kernel⟩, List.mem_of_getElem? (i := 54) (by decide +kernel), List.mem_of_getElem? (i := 552) (by decide +kernel), List.mem_of_getElem? (i := 553) (by decide +kernel)⟩
theorem lw_p13 : lw_okq (⟨"MobileMaker", "partAt", "(I)LMobileMaker$Part;"⟩, 13) := ⟨⟨by decide +kernel, by decide +kernel⟩, List.mem_of_getElem? (i := 23) (by decide +kernel), List.mem_of_getElem? (i := 598) (by decide +kernel), List.mem_of_getElem? (i := 599) (by decide +kernel)⟩
theorem lw_p14 : lw_okq (⟨"MobileMaker", "rodGiven", "(I)LMobileMaker$Rod;"⟩, 13) := ⟨⟨by decide +kernel, by decide +kernel⟩, List.mem_of_getElem? (i := 23) (by decide +kernel), List.mem_of_getElem? (i := 615) (by decide +kernel), List.mem_of_getElem? (i := 616) (by decide +kernel)⟩
theorem lw_p15 : lw_okq (⟨"MobileMaker$Mobile", "add", "(LMobileMaker$Part;IJ)V"⟩, 3) := ⟨⟨by decide +kernel, by decide +kernel⟩, List.mem_of_getElem? (i := 35) (by decide +kernel), List.mem_of_getElem? (i := 684) (by decide +kernel), List.mem_of_getElem? (i := 685) (by decide +kernel)⟩
def lw_privs_1 : List (MethodName × Nat) := [(⟨"MobileMaker", "trayAt", "(I)LMobileMaker$Tray;"⟩, 13), (⟨"MobileMaker", "refuses", "(I)Z"⟩, 13), (⟨"MobileMaker", "allows", "()Z"⟩, 13), (⟨"MobileMaker", "newWeight", "(J)I"⟩, 13), (⟨"MobileMaker", "none", "(I)I"⟩, 13), (⟨"MobileMaker", "added", "(LMobileMaker$Part;)I"⟩, 13), (⟨"MobileMaker$Ring", "foldsBackAfter", "(I)Z"⟩, 3), (⟨"MobileMaker$Ring", "next", "(I)I"⟩, 3), (⟨"MobileMaker$Ring", "turn", "(III)I"⟩, 3), (⟨"MobileMaker$Ring", "doSidesMeet", "(II)Z"⟩, 3), (⟨"MobileMaker$Ring", "isInBox", "(III)Z"⟩, 3), (⟨"MobileMaker$Ring", "signedTwiceArea", "()I"⟩, 3), (⟨"MobileMaker$Ring", "crossAfter", "(I)I"⟩, 3), (⟨"MobileMaker", "partAt", "(I)LMobileMaker$Part;"⟩, 13), (⟨"MobileMaker", "rodGiven", "(I)LMobileMaker$Rod;"⟩, 13), (⟨"MobileMaker$Mobile", "add", "(LMobileMaker$Part;IJ)V"⟩, 3)]
theorem lw_r1 : ∀ q ∈ lw_privs_1, lw_okq q := List.forall_mem_cons.mpr ⟨lw_p0, List.forall_mem_cons.mpr ⟨lw_p1, List.forall_mem_cons.mpr ⟨lw_p2, List.forall_mem_cons.mpr ⟨lw_p3, List.forall_mem_cons.mpr ⟨lw_p4, List.forall_mem_cons.mpr ⟨lw_p5, List.forall_mem_cons.mpr ⟨lw_p6, List.forall_mem_cons.mpr ⟨lw_p7, List.forall_mem_cons.mpr ⟨lw_p8, List.forall_mem_cons.mpr ⟨lw_p9, List.forall_mem_cons.mpr ⟨lw_p10, List.forall_mem_cons.mpr ⟨lw_p11, List.forall_mem_cons.mpr ⟨lw_p12, List.forall_mem_cons.mpr ⟨lw_p13, List.forall_mem_cons.mpr ⟨lw_p14, List.forall_mem_cons.mpr ⟨lw_p15, fun _ h => absurd h List.not_mem_nil⟩⟩⟩⟩⟩⟩⟩⟩⟩⟩⟩⟩⟩⟩⟩⟩
theorem lw_p16 : lw_okq (⟨"MobileMaker", "topGiven", "(I)LMobileMaker$Part;"⟩, 13) := ⟨⟨by decide +kernel, by decide +kernel⟩, List.mem_of_getElem? (i := 23) (by decide +kernel), List.mem_of_getElem? (i := 712) (by decide +kernel), List.mem_of_getElem? (i := 713) (by decide +kernel)⟩
theorem lw_p17 : lw_okq (⟨"MobileMaker$Rod", "upperShare", "()J"⟩, 16) := ⟨⟨by decide +kernel, by decide +kernel⟩, List.mem_of_getElem? (i := 441) (by decide +kernel), List.mem_of_getElem? (i := 729) (by decide +kernel), List.mem_of_getElem? (i := 730) (by decide +kernel)⟩
theorem lw_p18 : lw_okq (⟨"MobileMaker$Rod", "lowerShare", "()J"⟩, 16) := ⟨⟨by decide +kernel, by decide +kernel⟩, List.mem_of_getElem? (i := 441) (by decide +kernel), List.mem_of_getElem? (i := 733) (by decide +kernel), List.mem_of_getElem? (i := 734) (by decide +kernel)⟩
theorem lw_p19 : lw_okq (⟨"MobileMaker", "canTouch", "(LMobileMaker$Rod;)Z"⟩, 13) := ⟨⟨by decide +kernel, by decide +kernel⟩, List.mem_of_getElem? (i := 23) (by decide +kernel), List.mem_of_getElem? (i := 805) (by decide +kernel), List.mem_of_getElem? (i := 806) (by decide +kernel)⟩
theorem lw_p20 : lw_okq (⟨"MobileMaker", "wholeTopStatus", "(I)I"⟩, 13) := ⟨⟨by decide +kernel, by decide +kernel⟩, List.mem_of_getElem? (i := 23) (by decide +kernel), List.mem_of_getElem? (i := 813) (by decide +kernel), List.mem_of_getElem? (i := 814) (by decide +kernel)⟩
theorem lw_p21 : lw_okq (⟨"MobileMaker", "canMeet", "(LMobileMaker$Part;LMobileMaker$Part;I)Z"⟩, 13) := ⟨⟨by decide +kernel, by decide +kernel⟩, List.mem_of_getElem? (i := 23) (by decide +kernel), List.mem_of_getElem? (i := 822) (by decide +kernel), List.mem_of_getElem? (i := 823) (by decide +kernel)⟩
theorem lw_p22 : lw_okq (⟨"MobileMaker", "prepareClearing", "()V"⟩, 13) := ⟨⟨by decide +kernel, by decide +kernel⟩, List.mem_of_getElem? (i := 23) (by decide +kernel), List.mem_of_getElem? (i := 831) (by decide +kernel), List.mem_of_getElem? (i := 832) (by decide +kernel)⟩
theorem lw_p23 : lw_okq (⟨"MobileMaker$Clearing", "lengthen", "(II)I"⟩, 11) := ⟨⟨by decide +kernel, by decide +kernel⟩, List.mem_of_getElem? (i := 89) (by decide +kernel), List.mem_of_getElem? (i := 856) (by decide +kernel), List.mem_of_getElem? (i := 857) (by decide +kernel)⟩
theorem lw_p24 : lw_okq (⟨"MobileMaker$Clearing", "look", "()I"⟩, 11) := ⟨⟨by decide +kernel, by decide +kernel⟩, List.mem_of_getElem? (i := 89) (by decide +kernel), List.mem_of_getElem? (i := 860) (by decide +kernel), List.mem_of_getElem? (i := 861) (by decide +kernel)⟩
theorem lw_p25 : lw_okq (⟨"MobileMaker$Clearing", "doMeet", "(I)Z"⟩, 11) := ⟨⟨by decide +kernel, by decide +kernel⟩, List.mem_of_getElem? (i := 89) (by decide +kernel), List.mem_of_getElem? (i := 864) (by decide +kernel), List.mem_of_getElem? (i := 865) (by decide +kernel)⟩
theorem lw_p26 : lw_okq (⟨"MobileMaker", "givenStatus", "(II)I"⟩, 13) := ⟨⟨by decide +kernel, by decide +kernel⟩, List.mem_of_getElem? (i := 23) (by decide +kernel), List.mem_of_getElem? (i := 877) (by decide +kernel), List.mem_of_getElem? (i := 878) (by decide +kernel)⟩
theorem lw_p27 : lw_okq (⟨"MobileMaker", "shapeStatus", "(LMobileMaker$Part;LMobileMaker$Tray;)I"⟩, 13) := ⟨⟨by decide +kernel, by decide +kernel⟩, List.mem_of_getElem? (i := 23) (by decide +kernel), List.mem_of_getElem? (i := 881) (by decide +kernel), List.mem_of_getElem? (i := 882) (by decide +kernel)⟩
theorem lw_p28 : lw_okq (⟨"MobileMaker", "waysFound", "(LMobileMaker$Part;LMobileMaker$Tray;)I"⟩, 13) := ⟨⟨by decide +kernel, by decide +kernel⟩, List.mem_of_getElem? (i := 23) (by decide +kernel), List.mem_of_getElem? (i := 897) (by decide +kernel), List.mem_of_getElem? (i := 898) (by decide +kernel)⟩
theorem lw_p29 : lw_okq (⟨"MobileMaker$Parting", "takeNumbers", "(LMobileMaker$Tray;)V"⟩, 11) := ⟨⟨by decide +kernel, by decide +kernel⟩, List.mem_of_getElem? (i := 131) (by decide +kernel), List.mem_of_getElem? (i := 905) (by decide +kernel), List.mem_of_getElem? (i := 906) (by decide +kernel)⟩
theorem lw_p30 : lw_okq (⟨"MobileMaker$Parting", "sumOfNumbers", "()I"⟩, 11) := ⟨⟨by decide +kernel, by decide +kernel⟩, List.mem_of_getElem? (i := 131) (by decide +kernel), List.mem_of_getElem? (i := 911) (by decide +kernel), List.mem_of_getElem? (i := 912) (by decide +kernel)⟩
theorem lw_p31 : lw_okq (⟨"MobileMaker$Parting", "share", "(LMobileMaker$Rod;II)V"⟩, 11) := ⟨⟨by decide +kernel, by decide +kernel⟩, List.mem_of_getElem? (i := 131) (by decide +kernel), List.mem_of_getElem? (i := 915) (by decide +kernel), List.mem_of_getElem? (i := 916) (by decide +kernel)⟩
def lw_privs_2 : List (MethodName × Nat) := [(⟨"MobileMaker", "topGiven", "(I)LMobileMaker$Part;"⟩, 13), (⟨"MobileMaker$Rod", "upperShare", "()J"⟩, 16), (⟨"MobileMaker$Rod", "lowerShare", "()J"⟩, 16), (⟨"MobileMaker", "canTouch", "(LMobileMaker$Rod;)Z"⟩, 13), (⟨"MobileMaker", "wholeTopStatus", "(I)I"⟩, 13), (⟨"MobileMaker", "canMeet", "(LMobileMaker$Part;LMobileMaker$Part;I)Z"⟩, 13), (⟨"MobileMaker", "prepareClearing", "()V"⟩, 13), (⟨"MobileMaker$Clearing", "lengthen", "(II)I"⟩, 11), (⟨"MobileMaker$Clearing", "look", "()I"⟩, 11), (⟨"MobileMaker$Clearing", "doMeet", "(I)Z"⟩, 11), (⟨"MobileMaker", "givenStatus", "(II)I"⟩, 13), (⟨"MobileMaker", "shapeStatus", "(LMobileMaker$Part;LMobileMaker$Tray;)I"⟩, 13), (⟨"MobileMaker", "waysFound", "(LMobileMaker$Part;LMobileMaker$Tray;)I"⟩, 13), (⟨"MobileMaker$Parting", "takeNumbers", "(LMobileMaker$Tray;)V"⟩, 11), (⟨"MobileMaker$Parting", "sumOfNumbers", "()I"⟩, 11), (⟨"MobileMaker$Parting", "share", "(LMobileMaker$Rod;II)V"⟩, 11)]
theorem lw_r2 : ∀ q ∈ lw_privs_2, lw_okq q := List.forall_mem_cons.mpr ⟨lw_p16, List.forall_mem_cons.mpr ⟨lw_p17, List.forall_mem_cons.mpr ⟨lw_p18, List.forall_mem_cons.mpr ⟨lw_p19, List.forall_mem_cons.mpr ⟨lw_p20, List.forall_mem_cons.mpr ⟨lw_p21, List.forall_mem_cons.mpr ⟨lw_p22, List.forall_mem_cons.mpr ⟨lw_p23, List.forall_mem_cons.mpr ⟨lw_p24, List.forall_mem_cons.mpr ⟨lw_p25, List.forall_mem_cons.mpr ⟨lw_p26, List.forall_mem_cons.mpr ⟨lw_p27, List.forall_mem_cons.mpr ⟨lw_p28, List.forall_mem_cons.mpr ⟨lw_p29, List.forall_mem_cons.mpr ⟨lw_p30, List.forall_mem_cons.mpr ⟨lw_p31, fun _ h => absurd h List.not_mem_nil⟩⟩⟩⟩⟩⟩⟩⟩⟩⟩⟩⟩⟩⟩⟩⟩
theorem lw_p32 : lw_okq (⟨"MobileMaker$Parting", "shareSide", "(LMobileMaker$Part;II)V"⟩, 11) := ⟨⟨by decide +kernel, by decide +kernel⟩, List.mem_of_getElem? (i := 131) (by decide +kernel), List.mem_of_getElem? (i := 920) (by decide +kernel), List.mem_of_getElem? (i := 921) (by decide +kernel)⟩
theorem lw_p33 : lw_okq (⟨"MobileMaker$Parting", "listSets", "()V"⟩, 11) := ⟨⟨by decide +kernel, by decide +kernel⟩, List.mem_of_getElem? (i := 131) (by decide +kernel), List.mem_of_getElem? (i := 925) (by decide +kernel), List.mem_of_getElem? (i := 926) (by decide +kernel)⟩
theorem lw_p34 : lw_okq (⟨"MobileMaker$Parting", "list", "(I)V"⟩, 11) := ⟨⟨by decide +kernel, by decide +kernel⟩, List.mem_of_getElem? (i := 131) (by decide +kernel), List.mem_of_getElem? (i := 932) (by decide +kernel), List.mem_of_getElem? (i := 933) (by decide +kernel)⟩
theorem lw_p35 : lw_okq (⟨"MobileMaker$Parting", "likeAhead", "(I)I"⟩, 11) := ⟨⟨by decide +kernel, by decide +kernel⟩, List.mem_of_getElem? (i := 131) (by decide +kernel), List.mem_of_getElem? (i := 936) (by decide +kernel), List.mem_of_getElem? (i := 937) (by decide +kernel)⟩
theorem lw_p36 : lw_okq (⟨"MobileMaker$Parting", "goOnFrom", "(I)V"⟩, 11) := ⟨⟨by decide +kernel, by decide +kernel⟩, List.mem_of_getElem? (i := 131) (by decide +kernel), List.mem_of_getElem? (i := 940) (by decide +kernel), List.mem_of_getElem? (i := 941) (by decide +kernel)⟩
theorem lw_p37 : lw_okq (⟨"MobileMaker$Parting", "extend", "(III)V"⟩, 11) := ⟨⟨by decide +kernel, by decide +kernel⟩, List.mem_of_getElem? (i := 131) (by decide +kernel), List.mem_of_getElem? (i := 944) (by decide +kernel), List.mem_of_getElem? (i := 945) (by decide +kernel)⟩
theorem lw_p38 : lw_okq (⟨"MobileMaker$Parting", "fullSet", "()I"⟩, 11) := ⟨⟨by decide +kernel, by decide +kernel⟩, List.mem_of_getElem? (i := 131) (by decide +kernel), List.mem_of_getElem? (i := 948) (by decide +kernel), List.mem_of_getElem? (i := 949) (by decide +kernel)⟩
theorem lw_p39 : lw_okq (⟨"MobileMaker", "fewestStatus", "(LMobileMaker$Part;I)I"⟩, 13) := ⟨⟨by decide +kernel, by decide +kernel⟩, List.mem_of_getElem? (i := 23) (by decide +kernel), List.mem_of_getElem? (i := 964) (by decide +kernel), List.mem_of_getElem? (i := 965) (by decide +kernel)⟩
theorem lw_p40 : lw_okq (⟨"MobileMaker", "suspectAllWeights", "()V"⟩, 13) := ⟨⟨by decide +kernel, by decide +kernel⟩, List.mem_of_getElem? (i := 23) (by decide +kernel), List.mem_of_getElem? (i := 983) (by decide +kernel), List.mem_of_getElem? (i := 984) (by decide +kernel)⟩
theorem lw_p41 : lw_okq (⟨"MobileMaker$Text", "tellPart", "(LMobileMaker$Part;)V"⟩, 5) := ⟨⟨by decide +kernel, by decide +kernel⟩, List.mem_of_getElem? (i := 173) (by decide +kernel), List.mem_of_getElem? (i := 1018) (by decide +kernel), List.mem_of_getElem? (i := 1019) (by decide +kernel)⟩
theorem lw_p42 : lw_okq (⟨"MobileMaker$Text", "put", "(C)V"⟩, 5) := ⟨⟨by decide +kernel, by decide +kernel⟩, List.mem_of_getElem? (i := 173) (by decide +kernel), List.mem_of_getElem? (i := 1023) (by decide +kernel), List.mem_of_getElem? (i := 1024) (by decide +kernel)⟩
theorem lw_p43 : lw_okq (⟨"MobileMaker$Text", "putNumber", "(I)V"⟩, 5) := ⟨⟨by decide +kernel, by decide +kernel⟩, List.mem_of_getElem? (i := 173) (by decide +kernel), List.mem_of_getElem? (i := 1027) (by decide +kernel), List.mem_of_getElem? (i := 1028) (by decide +kernel)⟩
theorem lw_p44 : lw_okq (⟨"MobileMaker$Text", "goOnWith", "(I)V"⟩, 5) := ⟨⟨by decide +kernel, by decide +kernel⟩, List.mem_of_getElem? (i := 173) (by decide +kernel), List.mem_of_getElem? (i := 1032) (by decide +kernel), List.mem_of_getElem? (i := 1033) (by decide +kernel)⟩
theorem lw_p45 : lw_okq (⟨"MobileMaker$Text", "tellSide", "(LMobileMaker$Part;)V"⟩, 5) := ⟨⟨by decide +kernel, by decide +kernel⟩, List.mem_of_getElem? (i := 173) (by decide +kernel), List.mem_of_getElem? (i := 1036) (by decide +kernel), List.mem_of_getElem? (i := 1037) (by decide +kernel)⟩
theorem lw_p46 : lw_okq (⟨"java/lang/Throwable", "fillInStackTrace", "(I)Ljava/lang/Throwable;"⟩, 6) := ⟨⟨by decide +kernel, by decide +kernel⟩, List.mem_of_getElem? (i := 1088) (by decide +kernel), List.mem_of_getElem? (i := 1086) (by decide +kernel), List.mem_of_getElem? (i := 1087) (by decide +kernel)⟩
theorem lw_p47 : lw_okq (⟨"MobileMakerModel", "no", "(I)Z"⟩, 58) := ⟨⟨by decide +kernel, by decide +kernel⟩, List.mem_of_getElem? (i := 1122) (by decide +kernel), List.mem_of_getElem? (i := 1316) (by decide +kernel), List.mem_of_getElem? (i := 1317) (by decide +kernel)⟩
def lw_privs_3 : List (MethodName × Nat) := [(⟨"MobileMaker$Parting", "shareSide", "(LMobileMaker$Part;II)V"⟩, 11), (⟨"MobileMaker$Parting", "listSets", "()V"⟩, 11), (⟨"MobileMaker$Parting", "list", "(I)V"⟩, 11), (⟨"MobileMaker$Parting", "likeAhead", "(I)I"⟩, 11), (⟨"MobileMaker$Parting", "goOnFrom", "(I)V"⟩, 11), (⟨"MobileMaker$Parting", "extend", "(III)V"⟩, 11), (⟨"MobileMaker$Parting", "fullSet", "()I"⟩, 11), (⟨"MobileMaker", "fewestStatus", "(LMobileMaker$Part;I)I"⟩, 13), (⟨"MobileMaker", "suspectAllWeights", "()V"⟩, 13), (⟨"MobileMaker$Text", "tellPart", "(LMobileMaker$Part;)V"⟩, 5), (⟨"MobileMaker$Text", "put", "(C)V"⟩, 5), (⟨"MobileMaker$Text", "putNumber", "(I)V"⟩, 5), (⟨"MobileMaker$Text", "goOnWith", "(I)V"⟩, 5), (⟨"MobileMaker$Text", "tellSide", "(LMobileMaker$Part;)V"⟩, 5), (⟨"java/lang/Throwable", "fillInStackTrace", "(I)Ljava/lang/Throwable;"⟩, 6), (⟨"MobileMakerModel", "no", "(I)Z"⟩, 58)]
theorem lw_r3 : ∀ q ∈ lw_privs_3, lw_okq q := List.forall_mem_cons.mpr ⟨lw_p32, List.forall_mem_cons.mpr ⟨lw_p33, List.forall_mem_cons.mpr ⟨lw_p34, List.forall_mem_cons.mpr ⟨lw_p35, List.forall_mem_cons.mpr ⟨lw_p36, List.forall_mem_cons.mpr ⟨lw_p37, List.forall_mem_cons.mpr ⟨lw_p38, List.forall_mem_cons.mpr ⟨lw_p39, List.forall_mem_cons.mpr ⟨lw_p40, List.forall_mem_cons.mpr ⟨lw_p41, List.forall_mem_cons.mpr ⟨lw_p42, List.forall_mem_cons.mpr ⟨lw_p43, List.forall_mem_cons.mpr ⟨lw_p44, List.forall_mem_cons.mpr ⟨lw_p45, List.forall_mem_cons.mpr ⟨lw_p46, List.forall_mem_cons.mpr ⟨lw_p47, fun _ h => absurd h List.not_mem_nil⟩⟩⟩⟩⟩⟩⟩⟩⟩⟩⟩⟩⟩⟩⟩⟩
theorem lw_p48 : lw_okq (⟨"MobileMakerModel", "placed", "(II)I"⟩, 58) := ⟨⟨by decide +kernel, by decide +kernel⟩, List.mem_of_getElem? (i := 1122) (by decide +kernel), List.mem_of_getElem? (i := 1324) (by decide +kernel), List.mem_of_getElem? (i := 1325) (by decide +kernel)⟩
theorem lw_p49 : lw_okq (⟨"MobileMakerModel", "newWeight", "(J)I"⟩, 58) := ⟨⟨by decide +kernel, by decide +kernel⟩, List.mem_of_getElem? (i := 1122) (by decide +kernel), List.mem_of_getElem? (i := 1344) (by decide +kernel), List.mem_of_getElem? (i := 1345) (by decide +kernel)⟩
theorem lw_p50 : lw_okq (⟨"MobileMakerModel", "refuse", "(I)I"⟩, 58) := ⟨⟨by decide +kernel, by decide +kernel⟩, List.mem_of_getElem? (i := 1122) (by decide +kernel), List.mem_of_getElem? (i := 1349) (by decide +kernel), List.mem_of_getElem? (i := 1350) (by decide +kernel)⟩
theorem lw_p51 : lw_okq (⟨"MobileMakerModel", "newPart", "(IJ)I"⟩, 58) := ⟨⟨by decide +kernel, by decide +kernel⟩, List.mem_of_getElem? (i := 1122) (by decide +kernel), List.mem_of_getElem? (i := 1353) (by decide +kernel), List.mem_of_getElem? (i := 1354) (by decide +kernel)⟩
theorem lw_p52 : lw_okq (⟨"MobileMakerModel", "isRing", "(I)Z"⟩, 58) := ⟨⟨by decide +kernel, by decide +kernel⟩, List.mem_of_getElem? (i := 1122) (by decide +kernel), List.mem_of_getElem? (i := 1372) (by decide +kernel), List.mem_of_getElem? (i := 1373) (by decide +kernel)⟩
theorem lw_p53 : lw_okq (⟨"MobileMakerModel", "isOn", "(III)Z"⟩, 58) := ⟨⟨by decide +kernel, by decide +kernel⟩, List.mem_of_getElem? (i := 1122) (by decide +kernel), List.mem_of_getElem? (i := 1376) (by decide +kernel), List.mem_of_getElem? (i := 1377) (by decide +kernel)⟩
theorem lw_p54 : lw_okq (⟨"MobileMakerModel", "turn", "(III)J"⟩, 58) := ⟨⟨by decide +kernel, by decide +kernel⟩, List.mem_of_getElem? (i := 1122) (by decide +kernel), List.mem_of_getElem? (i := 1382) (by decide +kernel), List.mem_of_getElem? (i := 1383) (by decide +kernel)⟩
theorem lw_p55 : lw_okq (⟨"MobileMakerModel", "touches", "(IIII)Z"⟩, 58) := ⟨⟨by decide +kernel, by decide +kernel⟩, List.mem_of_getElem? (i := 1122) (by decide +kernel), List.mem_of_getElem? (i := 1386) (by decide +kernel), List.mem_of_getElem? (i := 1387) (by decide +kernel)⟩
theorem lw_p56 : lw_okq (⟨"MobileMakerModel", "isPart", "(I)Z"⟩, 58) := ⟨⟨by decide +kernel, by decide +kernel⟩, List.mem_of_getElem? (i := 1122) (by decide +kernel), List.mem_of_getElem? (i := 1398) (by decide +kernel), List.mem_of_getElem? (i := 1399) (by decide +kernel)⟩
theorem lw_p57 : lw_okq (⟨"MobileMakerModel", "heightOf", "(I)I"⟩, 58) := ⟨⟨by decide +kernel, by decide +kernel⟩, List.mem_of_getElem? (i := 1122) (by decide +kernel), List.mem_of_getElem? (i := 1410) (by decide +kernel), List.mem_of_getElem? (i := 1411) (by decide +kernel)⟩
theorem lw_p58 : lw_okq (⟨"MobileMakerModel", "topOf", "(I)I"⟩, 58) := ⟨⟨by decide +kernel, by decide +kernel⟩, List.mem_of_getElem? (i := 1122) (by decide +kernel), List.mem_of_getElem? (i := 1414) (by decide +kernel), List.mem_of_getElem? (i := 1415) (by decide +kernel)⟩
theorem lw_p59 : lw_okq (⟨"MobileMakerModel", "rodded", "(I)I"⟩, 58) := ⟨⟨by decide +kernel, by decide +kernel⟩, List.mem_of_getElem? (i := 1122) (by decide +kernel), List.mem_of_getElem? (i := 1422) (by decide +kernel), List.mem_of_getElem? (i := 1423) (by decide +kernel)⟩
theorem lw_p60 : lw_okq (⟨"MobileMakerModel", "isRod", "(I)Z"⟩, 58) := ⟨⟨by decide +kernel, by decide +kernel⟩, List.mem_of_getElem? (i := 1122) (by decide +kernel), List.mem_of_getElem? (i := 1426) (by decide +kernel), List.mem_of_getElem? (i := 1427) (by decide +kernel)⟩
theorem lw_p61 : lw_okq (⟨"MobileMakerModel", "isAbove", "(II)Z"⟩, 58) := ⟨⟨by decide +kernel, by decide +kernel⟩, List.mem_of_getElem? (i := 1122) (by decide +kernel), List.mem_of_getElem? (i := 1434) (by decide +kernel), List.mem_of_getElem? (i := 1435) (by decide +kernel)⟩
theorem lw_p62 : lw_okq (⟨"MobileMakerModel", "takeOff", "(I)V"⟩, 58) := ⟨⟨by decide +kernel, by decide +kernel⟩, List.mem_of_getElem? (i := 1122) (by decide +kernel), List.mem_of_getElem? (i := 1442) (by decide +kernel), List.mem_of_getElem? (i := 1443) (by decide +kernel)⟩
theorem lw_p63 : lw_okq (⟨"MobileMakerModel", "allThere", "()V"⟩, 58) := ⟨⟨by decide +kernel, by decide +kernel⟩, List.mem_of_getElem? (i := 1122) (by decide +kernel), List.mem_of_getElem? (i := 1463) (by decide +kernel), List.mem_of_getElem? (i := 1464) (by decide +kernel)⟩
def lw_privs_4 : List (MethodName × Nat) := [(⟨"MobileMakerModel", "placed", "(II)I"⟩, 58), (⟨"MobileMakerModel", "newWeight", "(J)I"⟩, 58), (⟨"MobileMakerModel", "refuse", "(I)I"⟩, 58), (⟨"MobileMakerModel", "newPart", "(IJ)I"⟩, 58), (⟨"MobileMakerModel", "isRing", "(I)Z"⟩, 58), (⟨"MobileMakerModel", "isOn", "(III)Z"⟩, 58), (⟨"MobileMakerModel", "turn", "(III)J"⟩, 58), (⟨"MobileMakerModel", "touches", "(IIII)Z"⟩, 58), (⟨"MobileMakerModel", "isPart", "(I)Z"⟩, 58), (⟨"MobileMakerModel", "heightOf", "(I)I"⟩, 58), (⟨"MobileMakerModel", "topOf", "(I)I"⟩, 58), (⟨"MobileMakerModel", "rodded", "(I)I"⟩, 58), (⟨"MobileMakerModel", "isRod", "(I)Z"⟩, 58), (⟨"MobileMakerModel", "isAbove", "(II)Z"⟩, 58), (⟨"MobileMakerModel", "takeOff", "(I)V"⟩, 58), (⟨"MobileMakerModel", "allThere", "()V"⟩, 58)]
theorem lw_r4 : ∀ q ∈ lw_privs_4, lw_okq q := List.forall_mem_cons.mpr ⟨lw_p48, List.forall_mem_cons.mpr ⟨lw_p49, List.forall_mem_cons.mpr ⟨lw_p50, List.forall_mem_cons.mpr ⟨lw_p51, List.forall_mem_cons.mpr ⟨lw_p52, List.forall_mem_cons.mpr ⟨lw_p53, List.forall_mem_cons.mpr ⟨lw_p54, List.forall_mem_cons.mpr ⟨lw_p55, List.forall_mem_cons.mpr ⟨lw_p56, List.forall_mem_cons.mpr ⟨lw_p57, List.forall_mem_cons.mpr ⟨lw_p58, List.forall_mem_cons.mpr ⟨lw_p59, List.forall_mem_cons.mpr ⟨lw_p60, List.forall_mem_cons.mpr ⟨lw_p61, List.forall_mem_cons.mpr ⟨lw_p62, List.forall_mem_cons.mpr ⟨lw_p63, fun _ h => absurd h List.not_mem_nil⟩⟩⟩⟩⟩⟩⟩⟩⟩⟩⟩⟩⟩⟩⟩⟩
theorem lw_p64 : lw_okq (⟨"MobileMakerModel", "orders", "()V"⟩, 58) := ⟨⟨by decide +kernel, by decide +kernel⟩, List.mem_of_getElem? (i := 1122) (by decide +kernel), List.mem_of_getElem? (i := 1467) (by decide +kernel), List.mem_of_getElem? (i := 1468) (by decide +kernel)⟩
theorem lw_p65 : lw_okq (⟨"MobileMakerModel", "loads", "()V"⟩, 58) := ⟨⟨by decide +kernel, by decide +kernel⟩, List.mem_of_getElem? (i := 1122) (by decide +kernel), List.mem_of_getElem? (i := 1471) (by decide +kernel), List.mem_of_getElem? (i := 1472) (by decide +kernel)⟩
theorem lw_p66 : lw_okq (⟨"MobileMakerModel", "tilt", "(I)I"⟩, 58) := ⟨⟨by decide +kernel, by decide +kernel⟩, List.mem_of_getElem? (i := 1122) (by decide +kernel), List.mem_of_getElem? (i := 1479) (by decide +kernel), List.mem_of_getElem? (i := 1480) (by decide +kernel)⟩
theorem lw_p67 : lw_okq (⟨"MobileMakerModel", "levelP", "(I)J"⟩, 58) := ⟨⟨by decide +kernel, by decide +kernel⟩, List.mem_of_getElem? (i := 1122) (by decide +kernel), List.mem_of_getElem? (i := 1483) (by decide +kernel), List.mem_of_getElem? (i := 1484) (by decide +kernel)⟩
theorem lw_p68 : lw_okq (⟨"MobileMakerModel", "loadAt", "(I)J"⟩, 58) := ⟨⟨by decide +kernel, by decide +kernel⟩, List.mem_of_getElem? (i := 1122) (by decide +kernel), List.mem_of_getElem? (i := 1487) (by decide +kernel), List.mem_of_getElem? (i := 1488) (by decide +kernel)⟩
theorem lw_p69 : lw_okq (⟨"MobileMakerModel", "levelQ", "(I)J"⟩, 58) := ⟨⟨by decide +kernel, by decide +kernel⟩, List.mem_of_getElem? (i := 1122) (by decide +kernel), List.mem_of_getElem? (i := 1491) (by decide +kernel), List.mem_of_getElem? (i := 1492) (by decide +kernel)⟩
theorem lw_p70 : lw_okq (⟨"MobileMakerModel", "topped", "(I)I"⟩, 58) := ⟨⟨by decide +kernel, by decide +kernel⟩, List.mem_of_getElem? (i := 1122) (by decide +kernel), List.mem_of_getElem? (i := 1499) (by decide +kernel), List.mem_of_getElem? (i := 1500) (by decide +kernel)⟩
theorem lw_p71 : lw_okq (⟨"MobileMakerModel", "marks", "(I)V"⟩, 58) := ⟨⟨by decide +kernel, by decide +kernel⟩, List.mem_of_getElem? (i := 1122) (by decide +kernel), List.mem_of_getElem? (i := 1503) (by decide +kernel), List.mem_of_getElem? (i := 1504) (by decide +kernel)⟩
theorem lw_p72 : lw_okq (⟨"MobileMakerModel", "wrongRods", "()I"⟩, 58) := ⟨⟨by decide +kernel, by decide +kernel⟩, List.mem_of_getElem? (i := 1122) (by decide +kernel), List.mem_of_getElem? (i := 1507) (by decide +kernel), List.mem_of_getElem? (i := 1508) (by decide +kernel)⟩
theorem lw_p73 : lw_okq (⟨"MobileMakerModel", "canBeLevel", "(I)Z"⟩, 58) := ⟨⟨by decide +kernel, by decide +kernel⟩, List.mem_of_getElem? (i := 1122) (by decide +kernel), List.mem_of_getElem? (i := 1515) (by decide +kernel), List.mem_of_getElem? (i := 1516) (by decide +kernel)⟩
theorem lw_p74 : lw_okq (⟨"MobileMakerModel", "arms", "(IIZ)V"⟩, 58) := ⟨⟨by decide +kernel, by decide +kernel⟩, List.mem_of_getElem? (i := 1122) (by decide +kernel), List.mem_of_getElem? (i := 1527) (by decide +kernel), List.mem_of_getElem? (i := 1528) (by decide +kernel)⟩
theorem lw_p75 : lw_okq (⟨"MobileMakerModel", "isWhole", "(I)Z"⟩, 58) := ⟨⟨by decide +kernel, by decide +kernel⟩, List.mem_of_getElem? (i := 1122) (by decide +kernel), List.mem_of_getElem? (i := 1531) (by decide +kernel), List.mem_of_getElem? (i := 1532) (by decide +kernel)⟩
theorem lw_p76 : lw_okq (⟨"MobileMakerModel", "arm", "(II)I"⟩, 58) := ⟨⟨by decide +kernel, by decide +kernel⟩, List.mem_of_getElem? (i := 1122) (by decide +kernel), List.mem_of_getElem? (i := 1535) (by decide +kernel), List.mem_of_getElem? (i := 1536) (by decide +kernel)⟩
theorem lw_p77 : lw_okq (⟨"MobileMakerModel", "armsLeast", "()I"⟩, 58) := ⟨⟨by decide +kernel, by decide +kernel⟩, List.mem_of_getElem? (i := 1122) (by decide +kernel), List.mem_of_getElem? (i := 1539) (by decide +kernel), List.mem_of_getElem? (i := 1540) (by decide +kernel)⟩
theorem lw_p78 : lw_okq (⟨"MobileMakerModel", "near", "(II)I"⟩, 58) := ⟨⟨by decide +kernel, by decide +kernel⟩, List.mem_of_getElem? (i := 1122) (by decide +kernel), List.mem_of_getElem? (i := 1551) (by decide +kernel), List.mem_of_getElem? (i := 1552) (by decide +kernel)⟩
theorem lw_p79 : lw_okq (⟨"MobileMakerModel", "lastAbove", "(II)I"⟩, 58) := ⟨⟨by decide +kernel, by decide +kernel⟩, List.mem_of_getElem? (i := 1122) (by decide +kernel), List.mem_of_getElem? (i := 1555) (by decide +kernel), List.mem_of_getElem? (i := 1556) (by decide +kernel)⟩
def lw_privs_5 : List (MethodName × Nat) := [(⟨"MobileMakerModel", "orders", "()V"⟩, 58), (⟨"MobileMakerModel", "loads", "()V"⟩, 58), (⟨"MobileMakerModel", "tilt", "(I)I"⟩, 58), (⟨"MobileMakerModel", "levelP", "(I)J"⟩, 58), (⟨"MobileMakerModel", "loadAt", "(I)J"⟩, 58), (⟨"MobileMakerModel", "levelQ", "(I)J"⟩, 58), (⟨"MobileMakerModel", "topped", "(I)I"⟩, 58), (⟨"MobileMakerModel", "marks", "(I)V"⟩, 58), (⟨"MobileMakerModel", "wrongRods", "()I"⟩, 58), (⟨"MobileMakerModel", "canBeLevel", "(I)Z"⟩, 58), (⟨"MobileMakerModel", "arms", "(IIZ)V"⟩, 58), (⟨"MobileMakerModel", "isWhole", "(I)Z"⟩, 58), (⟨"MobileMakerModel", "arm", "(II)I"⟩, 58), (⟨"MobileMakerModel", "armsLeast", "()I"⟩, 58), (⟨"MobileMakerModel", "near", "(II)I"⟩, 58), (⟨"MobileMakerModel", "lastAbove", "(II)I"⟩, 58)]
theorem lw_r5 : ∀ q ∈ lw_privs_5, lw_okq q := List.forall_mem_cons.mpr ⟨lw_p64, List.forall_mem_cons.mpr ⟨lw_p65, List.forall_mem_cons.mpr ⟨lw_p66, List.forall_mem_cons.mpr ⟨lw_p67, List.forall_mem_cons.mpr ⟨lw_p68, List.forall_mem_cons.mpr ⟨lw_p69, List.forall_mem_cons.mpr ⟨lw_p70, List.forall_mem_cons.mpr ⟨lw_p71, List.forall_mem_cons.mpr ⟨lw_p72, List.forall_mem_cons.mpr ⟨lw_p73, List.forall_mem_cons.mpr ⟨lw_p74, List.forall_mem_cons.mpr ⟨lw_p75, List.forall_mem_cons.mpr ⟨lw_p76, List.forall_mem_cons.mpr ⟨lw_p77, List.forall_mem_cons.mpr ⟨lw_p78, List.forall_mem_cons.mpr ⟨lw_p79, fun _ h => absurd h List.not_mem_nil⟩⟩⟩⟩⟩⟩⟩⟩⟩⟩⟩⟩⟩⟩⟩⟩
theorem lw_p80 : lw_okq (⟨"MobileMakerModel", "wholes", "(I)I"⟩, 58) := ⟨⟨by decide +kernel, by decide +kernel⟩, List.mem_of_getElem? (i := 1122) (by decide +kernel), List.mem_of_getElem? (i := 1563) (by decide +kernel), List.mem_of_getElem? (i := 1564) (by decide +kernel)⟩
theorem lw_p81 : lw_okq (⟨"MobileMakerModel", "findPairs", "()V"⟩, 58) := ⟨⟨by decide +kernel, by decide +kernel⟩, List.mem_of_getElem? (i := 1122) (by decide +kernel), List.mem_of_getElem? (i := 1567) (by decide +kernel), List.mem_of_getElem? (i := 1568) (by decide +kernel)⟩
theorem lw_p82 : lw_okq (⟨"MobileMakerModel", "noMore", "()V"⟩, 58) := ⟨⟨by decide +kernel, by decide +kernel⟩, List.mem_of_getElem? (i := 1122) (by decide +kernel), List.mem_of_getElem? (i := 1571) (by decide +kernel), List.mem_of_getElem? (i := 1572) (by decide +kernel)⟩
theorem lw_p83 : lw_okq (⟨"MobileMakerModel", "meets", "()I"⟩, 58) := ⟨⟨by decide +kernel, by decide +kernel⟩, List.mem_of_getElem? (i := 1122) (by decide +kernel), List.mem_of_getElem? (i := 1575) (by decide +kernel), List.mem_of_getElem? (i := 1576) (by decide +kernel)⟩
theorem lw_p84 : lw_okq (⟨"MobileMakerModel", "areThreads", "(I)Z"⟩, 58) := ⟨⟨by decide +kernel, by decide +kernel⟩, List.mem_of_getElem? (i := 1122) (by decide +kernel), List.mem_of_getElem? (i := 1583) (by decide +kernel), List.mem_of_getElem? (i := 1584) (by decide +kernel)⟩
theorem lw_p85 : lw_okq (⟨"MobileMakerModel", "lengthen", "(II)I"⟩, 58) := ⟨⟨by decide +kernel, by decide +kernel⟩, List.mem_of_getElem? (i := 1122) (by decide +kernel), List.mem_of_getElem? (i := 1587) (by decide +kernel), List.mem_of_getElem? (i := 1588) (by decide +kernel)⟩
theorem lw_p86 : lw_okq (⟨"MobileMakerModel", "nextChoice", "(I)Z"⟩, 58) := ⟨⟨by decide +kernel, by decide +kernel⟩, List.mem_of_getElem? (i := 1122) (by decide +kernel), List.mem_of_getElem? (i := 1591) (by decide +kernel), List.mem_of_getElem? (i := 1592) (by decide +kernel)⟩
theorem lw_p87 : lw_okq (⟨"MobileMakerModel", "parted", "(IIIZ)I"⟩, 58) := ⟨⟨by decide +kernel, by decide +kernel⟩, List.mem_of_getElem? (i := 1122) (by decide +kernel), List.mem_of_getElem? (i := 1599) (by decide +kernel), List.mem_of_getElem? (i := 1600) (by decide +kernel)⟩
theorem lw_p88 : lw_okq (⟨"MobileMakerModel", "shapes", "(I)I"⟩, 58) := ⟨⟨by decide +kernel, by decide +kernel⟩, List.mem_of_getElem? (i := 1122) (by decide +kernel), List.mem_of_getElem? (i := 1603) (by decide +kernel), List.mem_of_getElem? (i := 1604) (by decide +kernel)⟩
theorem lw_p89 : lw_okq (⟨"MobileMakerModel", "shapesOn", "(I)I"⟩, 58) := ⟨⟨by decide +kernel, by decide +kernel⟩, List.mem_of_getElem? (i := 1122) (by decide +kernel), List.mem_of_getElem? (i := 1608) (by decide +kernel), List.mem_of_getElem? (i := 1609) (by decide +kernel)⟩
theorem lw_p90 : lw_okq (⟨"MobileMakerModel", "waysOf", "(I)I"⟩, 58) := ⟨⟨by decide +kernel, by decide +kernel⟩, List.mem_of_getElem? (i := 1122) (by decide +kernel), List.mem_of_getElem? (i := 1612) (by decide +kernel), List.mem_of_getElem? (i := 1613) (by decide +kernel)⟩
theorem lw_p91 : lw_okq (⟨"MobileMakerModel", "isFirstOf", "(II)Z"⟩, 58) := ⟨⟨by decide +kernel, by decide +kernel⟩, List.mem_of_getElem? (i := 1122) (by decide +kernel), List.mem_of_getElem? (i := 1616) (by decide +kernel), List.mem_of_getElem? (i := 1617) (by decide +kernel)⟩
theorem lw_p92 : lw_okq (⟨"MobileMakerModel", "isLike", "(II)Z"⟩, 58) := ⟨⟨by decide +kernel, by decide +kernel⟩, List.mem_of_getElem? (i := 1122) (by decide +kernel), List.mem_of_getElem? (i := 1646) (by decide +kernel), List.mem_of_getElem? (i := 1647) (by decide +kernel)⟩
theorem lw_p93 : lw_okq (⟨"MobileMakerModel", "isSide", "(II)Z"⟩, 58) := ⟨⟨by decide +kernel, by decide +kernel⟩, List.mem_of_getElem? (i := 1122) (by decide +kernel), List.mem_of_getElem? (i := 1650) (by decide +kernel), List.mem_of_getElem? (i := 1651) (by decide +kernel)⟩
theorem lw_p94 : lw_okq (⟨"MobileMakerModel", "later", "(II)V"⟩, 58) := ⟨⟨by decide +kernel, by decide +kernel⟩, List.mem_of_getElem? (i := 1122) (by decide +kernel), List.mem_of_getElem? (i := 1658) (by decide +kernel), List.mem_of_getElem? (i := 1659) (by decide +kernel)⟩
theorem lw_p95 : lw_okq (⟨"MobileMakerModel", "showPart", "(I)V"⟩, 58) := ⟨⟨by decide +kernel, by decide +kernel⟩, List.mem_of_getElem? (i := 1122) (by decide +kernel), List.mem_of_getElem? (i := 1662) (by decide +kernel), List.mem_of_getElem? (i := 1663) (by decide +kernel)⟩
def lw_privs_6 : List (MethodName × Nat) := [(⟨"MobileMakerModel", "wholes", "(I)I"⟩, 58), (⟨"MobileMakerModel", "findPairs", "()V"⟩, 58), (⟨"MobileMakerModel", "noMore", "()V"⟩, 58), (⟨"MobileMakerModel", "meets", "()I"⟩, 58), (⟨"MobileMakerModel", "areThreads", "(I)Z"⟩, 58), (⟨"MobileMakerModel", "lengthen", "(II)I"⟩, 58), (⟨"MobileMakerModel", "nextChoice", "(I)Z"⟩, 58), (⟨"MobileMakerModel", "parted", "(IIIZ)I"⟩, 58), (⟨"MobileMakerModel", "shapes", "(I)I"⟩, 58), (⟨"MobileMakerModel", "shapesOn", "(I)I"⟩, 58), (⟨"MobileMakerModel", "waysOf", "(I)I"⟩, 58), (⟨"MobileMakerModel", "isFirstOf", "(II)Z"⟩, 58), (⟨"MobileMakerModel", "isLike", "(II)Z"⟩, 58), (⟨"MobileMakerModel", "isSide", "(II)Z"⟩, 58), (⟨"MobileMakerModel", "later", "(II)V"⟩, 58), (⟨"MobileMakerModel", "showPart", "(I)V"⟩, 58)]
theorem lw_r6 : ∀ q ∈ lw_privs_6, lw_okq q := List.forall_mem_cons.mpr ⟨lw_p80, List.forall_mem_cons.mpr ⟨lw_p81, List.forall_mem_cons.mpr ⟨lw_p82, List.forall_mem_cons.mpr ⟨lw_p83, List.forall_mem_cons.mpr ⟨lw_p84, List.forall_mem_cons.mpr ⟨lw_p85, List.forall_mem_cons.mpr ⟨lw_p86, List.forall_mem_cons.mpr ⟨lw_p87, List.forall_mem_cons.mpr ⟨lw_p88, List.forall_mem_cons.mpr ⟨lw_p89, List.forall_mem_cons.mpr ⟨lw_p90, List.forall_mem_cons.mpr ⟨lw_p91, List.forall_mem_cons.mpr ⟨lw_p92, List.forall_mem_cons.mpr ⟨lw_p93, List.forall_mem_cons.mpr ⟨lw_p94, List.forall_mem_cons.mpr ⟨lw_p95, fun _ h => absurd h List.not_mem_nil⟩⟩⟩⟩⟩⟩⟩⟩⟩⟩⟩⟩⟩⟩⟩⟩
theorem lw_p96 : lw_okq (⟨"MobileMakerModel", "put", "(I)V"⟩, 58) := ⟨⟨by decide +kernel, by decide +kernel⟩, List.mem_of_getElem? (i := 1122) (by decide +kernel), List.mem_of_getElem? (i := 1666) (by decide +kernel), List.mem_of_getElem? (i := 1667) (by decide +kernel)⟩
theorem lw_p97 : lw_okq (⟨"MobileMakerModel", "putNumber", "(J)V"⟩, 58) := ⟨⟨by decide +kernel, by decide +kernel⟩, List.mem_of_getElem? (i := 1122) (by decide +kernel), List.mem_of_getElem? (i := 1670) (by decide +kernel), List.mem_of_getElem? (i := 1671) (by decide +kernel)⟩
def lw_privs_7 : List (MethodName × Nat) := [(⟨"MobileMakerModel", "put", "(I)V"⟩, 58), (⟨"MobileMakerModel", "putNumber", "(J)V"⟩, 58)]
theorem lw_r7 : ∀ q ∈ lw_privs_7, lw_okq q := List.forall_mem_cons.mpr ⟨lw_p96, List.forall_mem_cons.mpr ⟨lw_p97, fun _ h => absurd h List.not_mem_nil⟩⟩
def lw_privs : List (MethodName × Nat) := lw_privs_1 ++ (lw_privs_2 ++ (lw_privs_3 ++ (lw_privs_4 ++ (lw_privs_5 ++ (lw_privs_6 ++ (lw_privs_7))))))
def lw_tbl : List Cond := k2_sels lw_privs ++ tables_1
theorem lw_privs_ok : ∀ q ∈ lw_privs, lw_okq q := by
  show ∀ q ∈ lw_privs_1 ++ (lw_privs_2 ++ (lw_privs_3 ++ (lw_privs_4 ++ (lw_privs_5 ++ (lw_privs_6 ++ (lw_privs_7)))))), lw_okq q
  exact List.forall_mem_append.mpr ⟨lw_r1, List.forall_mem_append.mpr ⟨lw_r2, List.forall_mem_append.mpr ⟨lw_r3, List.forall_mem_append.mpr ⟨lw_r4, List.forall_mem_append.mpr ⟨lw_r5, List.forall_mem_append.mpr ⟨lw_r6, lw_r7⟩⟩⟩⟩⟩⟩
end
section
/-! ===== BEGIN words of one list among another's, by their places ===== -/
theorem goodIn_r {big : List Cond} (ws : List Cond) (ps : List Nat) (hp : ws = ps.filterMap (fun i => big[i]?)) (h : ws.all goodWord = true) : GoodIn big ws := by
  intro w hw
  have h1 := List.all_eq_true.mp h w hw
  rw [hp] at hw
  obtain ⟨i, -, hi⟩ := List.mem_filterMap.mp hw
  have hm : w ∈ big := by first | exact List.mem_of_getElem? hi | exact List.getElem?_mem hi
  exact ⟨hm, good_of_word h1⟩
theorem goodIn_app {big a b : List Cond} (ha : GoodIn big a) (hb : GoodIn big b) : GoodIn big (a ++ b) := fun w h => (List.mem_append.mp h).elim (ha w) (hb w)
theorem goodIn_ca {big a b : List Cond} {c : Cond} (ha : GoodIn big (c :: a)) (hb : GoodIn big b) : GoodIn big (c :: (a ++ b)) := fun w h => (List.mem_cons.mp h).elim (fun e => ha w (List.mem_cons.mpr (Or.inl e))) (fun h => (List.mem_append.mp h).elim (fun h => ha w (List.mem_cons.mpr (Or.inr h))) (hb w))
theorem goodIn_sub {big ws : List Cond} (hm : ∀ w ∈ ws, w ∈ big) (h : ws.all goodWord = true) : GoodIn big ws := fun w hw => ⟨hm w hw, good_of_word (List.all_eq_true.mp h w hw)⟩
/-! ===== END ===== -/
end
section
def RX0 : String := "MobileMaker$Clearing"
def TX0 : u_T := fun k => match k with
  | 0 => ("MobileMaker$Clearing", "offered", "[LMobileMaker$Part;", true)
  | 1 => ("MobileMaker$Clearing", "longer", "[I", true)
  | 2 => ("MobileMaker$Clearing", "offers", "I", false)
  | 3 => ("MobileMaker$Clearing", "chosen", "[J", true)
  | 4 => ("MobileMaker$Clearing", "choices", "I", false)
  | 5 => ("MobileMaker$Clearing", "firstAlone", "[J", true)
  | 6 => ("MobileMaker$Clearing", "secondAlone", "[J", true)
  | 7 => ("MobileMaker$Clearing", "apart", "[I", true)
  | 8 => ("MobileMaker$Clearing", "pairs", "I", false)
  | 9 => ("MobileMaker$Clearing", "latest", "I", false)
  | _ => ("MobileMaker$Clearing", "tries", "I", false)
def tyX0 : Nat → FieldType := fun k => match k with
  | 0 => .array (.object "MobileMaker$Part")
  | 1 => .array .int
  | 2 => .int
  | 3 => .array .long
  | 4 => .int
  | 5 => .array .long
  | 6 => .array .long
  | 7 => .array .int
  | 8 => .int
  | 9 => .int
  | _ => .int
abbrev wsX00 : List Cond := u_ws RX0 TX0 11
theorem nmX0 : ∀ a, a < 11 → ∀ b, b < 11 → a ≠ b → (TX0 a).2.1 ≠ (TX0 b).2.1 := by decide +kernel
theorem tyX0_ok : ∀ k, k < 11 → parseFieldDescriptor (TX0 k).2.2.1 = some (tyX0 k) := by decide +kernel
abbrev cX0_init : ByteArray := prog_2_method_1_code
def yX0_init : MethodName := ⟨RX0, "<init>", "()V"⟩
abbrev cX0_begin : ByteArray := prog_2_method_2_code
def yX0_begin : MethodName := ⟨RX0, "begin", "()V"⟩
abbrev cX0_offer : ByteArray := prog_2_method_3_code
def yX0_offer : MethodName := ⟨RX0, "offer", "(LMobileMaker$Part;)V"⟩
abbrev cX0_watch : ByteArray := prog_2_method_4_code
def yX0_watch : MethodName := ⟨RX0, "watch", "(LMobileMaker$Part;LMobileMaker$Part;)V"⟩
abbrev cX0_search : ByteArray := prog_2_method_5_code
def yX0_search : MethodName := ⟨RX0, "search", "(I)I"⟩
abbrev cX0_lengthen : ByteArray := prog_2_method_6_code
def yX0_lengthen : MethodName := ⟨RX0, "lengthen", "(II)I"⟩
abbrev cX0_look : ByteArray := prog_2_method_7_code
def yX0_look : MethodName := ⟨RX0, "look", "()I"⟩
abbrev cX0_doMeet : ByteArray := prog_2_method_8_code
def yX0_doMeet : MethodName := ⟨RX0, "doMeet", "(I)Z"⟩
abbrev cX0_lengthenThreads : ByteArray := prog_2_method_9_code
def yX0_lengthenThreads : MethodName := ⟨RX0, "lengthenThreads", "()V"⟩
def RX1 : String := "MobileMaker$Mobile"
def TX1 : u_T := fun k => match k with
  | 0 => ("MobileMaker$Mobile", "members", "[LMobileMaker$Part;", true)
  | 1 => ("MobileMaker$Mobile", "many", "I", false)
  | _ => ("MobileMaker$Mobile", "numbers", "J", false)
def tyX1 : Nat → FieldType := fun k => match k with
  | 0 => .array (.object "MobileMaker$Part")
  | 1 => .int
  | _ => .long
abbrev wsX10 : List Cond := u_ws RX1 TX1 3
theorem nmX1 : ∀ a, a < 3 → ∀ b, b < 3 → a ≠ b → (TX1 a).2.1 ≠ (TX1 b).2.1 := by decide +kernel
theorem tyX1_ok : ∀ k, k < 3 → parseFieldDescriptor (TX1 k).2.2.1 = some (tyX1 k) := by decide +kernel
abbrev cX1_init : ByteArray := prog_3_method_1_code
def yX1_init : MethodName := ⟨RX1, "<init>", "()V"⟩
abbrev cX1_gather : ByteArray := prog_3_method_2_code
def yX1_gather : MethodName := ⟨RX1, "gather", "(LMobileMaker$Part;)V"⟩
abbrev cX1_add : ByteArray := prog_3_method_3_code
def yX1_add : MethodName := ⟨RX1, "add", "(LMobileMaker$Part;IJ)V"⟩
abbrev cX1_holds : ByteArray := prog_3_method_4_code
def yX1_holds : MethodName := ⟨RX1, "holds", "(LMobileMaker$Part;)Z"⟩
abbrev cX1_countOf : ByteArray := prog_3_method_5_code
def yX1_countOf : MethodName := ⟨RX1, "countOf", "(I)I"⟩
abbrev cX1_notLevel : ByteArray := prog_3_method_6_code
def yX1_notLevel : MethodName := ⟨RX1, "notLevel", "()I"⟩
abbrev cX1_canAllBeLevel : ByteArray := prog_3_method_7_code
def yX1_canAllBeLevel : MethodName := ⟨RX1, "canAllBeLevel", "()Z"⟩
abbrev cX1_tieAllLevel : ByteArray := prog_3_method_8_code
def yX1_tieAllLevel : MethodName := ⟨RX1, "tieAllLevel", "()I"⟩
abbrev cX1_hasWholeArms : ByteArray := prog_3_method_9_code
def yX1_hasWholeArms : MethodName := ⟨RX1, "hasWholeArms", "()Z"⟩
abbrev cX1_isShape : ByteArray := prog_3_method_10_code
def yX1_isShape : MethodName := ⟨RX1, "isShape", "()Z"⟩
abbrev cX1_lowestNumber : ByteArray := prog_3_method_11_code
def yX1_lowestNumber : MethodName := ⟨RX1, "lowestNumber", "()I"⟩
abbrev cX1_staysLevelBare : ByteArray := prog_3_method_12_code
def yX1_staysLevelBare : MethodName := ⟨RX1, "staysLevelBare", "()Z"⟩
def RX2 : String := "MobileMaker$Part"
def TX2 : u_T := fun k => match k with
  | _ => ("", "", "", false)
def tyX2 : Nat → FieldType := fun k => match k with
  | _ => .int
abbrev wsX20 : List Cond := u_ws RX2 TX2 0
theorem nmX2 : ∀ a, a < 0 → ∀ b, b < 0 → a ≠ b → (TX2 a).2.1 ≠ (TX2 b).2.1 := by decide +kernel
theorem tyX2_ok : ∀ k, k < 0 → parseFieldDescriptor (TX2 k).2.2.1 = some (tyX2 k) := by decide +kernel
abbrev cX2_init : ByteArray := prog_4_method_1_code
def yX2_init : MethodName := ⟨RX2, "<init>", "(III)V"⟩
abbrev cX2_bit : ByteArray := prog_4_method_2_code
def yX2_bit : MethodName := ⟨RX2, "bit", "()J"⟩
abbrev cX2_comeOff : ByteArray := prog_4_method_3_code
def yX2_comeOff : MethodName := ⟨RX2, "comeOff", "()V"⟩
def RX3 : String := "MobileMaker$Parting"
def TX3 : u_T := fun k => match k with
  | 0 => ("MobileMaker$Parting", "value", "[I", true)
  | 1 => ("MobileMaker$Parting", "numbers", "I", false)
  | 2 => ("MobileMaker$Parting", "before", "[I", true)
  | 3 => ("MobileMaker$Parting", "places", "I", false)
  | 4 => ("MobileMaker$Parting", "isWhole", "Z", false)
  | 5 => ("MobileMaker$Parting", "sum", "[I", true)
  | 6 => ("MobileMaker$Parting", "digits", "[I", true)
  | 7 => ("MobileMaker$Parting", "sets", "[[I", true)
  | 8 => ("MobileMaker$Parting", "setsMany", "[I", true)
  | 9 => ("MobileMaker$Parting", "chains", "[I", true)
  | _ => ("MobileMaker$Parting", "first", "[I", true)
def tyX3 : Nat → FieldType := fun k => match k with
  | 0 => .array .int
  | 1 => .int
  | 2 => .array .int
  | 3 => .int
  | 4 => .boolean
  | 5 => .array .int
  | 6 => .array .int
  | 7 => .array (.array .int)
  | 8 => .array .int
  | 9 => .array .int
  | _ => .array .int
abbrev wsX30 : List Cond := u_ws RX3 TX3 11
theorem nmX3 : ∀ a, a < 11 → ∀ b, b < 11 → a ≠ b → (TX3 a).2.1 ≠ (TX3 b).2.1 := by decide +kernel
theorem tyX3_ok : ∀ k, k < 11 → parseFieldDescriptor (TX3 k).2.2.1 = some (tyX3 k) := by decide +kernel
abbrev cX3_init : ByteArray := prog_5_method_1_code
def yX3_init : MethodName := ⟨RX3, "<init>", "()V"⟩
abbrev cX3_count : ByteArray := prog_5_method_2_code
def yX3_count : MethodName := ⟨RX3, "count", "(LMobileMaker$Rod;LMobileMaker$Tray;)I"⟩
abbrev cX3_firstPlaceOf : ByteArray := prog_5_method_3_code
def yX3_firstPlaceOf : MethodName := ⟨RX3, "firstPlaceOf", "(I)I"⟩
abbrev cX3_fullSet : ByteArray := prog_5_method_4_code
def yX3_fullSet : MethodName := ⟨RX3, "fullSet", "()I"⟩
abbrev cX3_takeNumbers : ByteArray := prog_5_method_5_code
def yX3_takeNumbers : MethodName := ⟨RX3, "takeNumbers", "(LMobileMaker$Tray;)V"⟩
abbrev cX3_sumOfNumbers : ByteArray := prog_5_method_6_code
def yX3_sumOfNumbers : MethodName := ⟨RX3, "sumOfNumbers", "()I"⟩
abbrev cX3_share : ByteArray := prog_5_method_7_code
def yX3_share : MethodName := ⟨RX3, "share", "(LMobileMaker$Rod;II)V"⟩
abbrev cX3_shareSide : ByteArray := prog_5_method_8_code
def yX3_shareSide : MethodName := ⟨RX3, "shareSide", "(LMobileMaker$Part;II)V"⟩
abbrev cX3_listSets : ByteArray := prog_5_method_9_code
def yX3_listSets : MethodName := ⟨RX3, "listSets", "()V"⟩
abbrev cX3_likeAhead : ByteArray := prog_5_method_10_code
def yX3_likeAhead : MethodName := ⟨RX3, "likeAhead", "(I)I"⟩
abbrev cX3_list : ByteArray := prog_5_method_11_code
def yX3_list : MethodName := ⟨RX3, "list", "(I)V"⟩
abbrev cX3_goOnFrom : ByteArray := prog_5_method_12_code
def yX3_goOnFrom : MethodName := ⟨RX3, "goOnFrom", "(I)V"⟩
abbrev cX3_extend : ByteArray := prog_5_method_13_code
def yX3_extend : MethodName := ⟨RX3, "extend", "(III)V"⟩
def RX4 : String := "MobileMaker$Plate"
def TX4 : u_T := fun k => match k with
  | 0 => ("MobileMaker$Part", "number", "I", true)
  | 1 => ("MobileMaker$Part", "kind", "I", true)
  | 2 => ("MobileMaker$Part", "own", "I", true)
  | 3 => ("MobileMaker$Part", "above", "LMobileMaker$Rod;", false)
  | 4 => ("MobileMaker$Part", "end", "I", false)
  | 5 => ("MobileMaker$Part", "thread", "I", false)
  | 6 => ("MobileMaker$Part", "path", "J", false)
  | 7 => ("MobileMaker$Part", "height", "I", false)
  | 8 => ("MobileMaker$Part", "load", "J", false)
  | 9 => ("MobileMaker$Part", "bareLoss", "J", false)
  | 10 => ("MobileMaker$Plate", "xUpper", "J", true)
  | 11 => ("MobileMaker$Plate", "xLower", "J", true)
  | 12 => ("MobileMaker$Plate", "yUpper", "J", true)
  | _ => ("MobileMaker$Plate", "yLower", "J", true)
def tyX4 : Nat → FieldType := fun k => match k with
  | 0 => .int
  | 1 => .int
  | 2 => .int
  | 3 => .object "MobileMaker$Rod"
  | 4 => .int
  | 5 => .int
  | 6 => .long
  | 7 => .int
  | 8 => .long
  | 9 => .long
  | 10 => .long
  | 11 => .long
  | 12 => .long
  | _ => .long
abbrev wsX40 : List Cond := u_ws RX4 TX4 14
theorem nmX4 : ∀ a, a < 14 → ∀ b, b < 14 → a ≠ b → (TX4 a).2.1 ≠ (TX4 b).2.1 := by decide +kernel
theorem tyX4_ok : ∀ k, k < 14 → parseFieldDescriptor (TX4 k).2.2.1 = some (tyX4 k) := by decide +kernel
abbrev cX4_init : ByteArray := prog_6_method_1_code
def yX4_init : MethodName := ⟨RX4, "<init>", "(ILMobileMaker$Ring;)V"⟩
abbrev cX4_middleAt : ByteArray := prog_6_method_2_code
def yX4_middleAt : MethodName := ⟨RX4, "middleAt", "(I)J"⟩
def RX5 : String := "MobileMaker$Ring"
def TX5 : u_T := fun k => match k with
  | 0 => ("MobileMaker$Ring", "x", "[I", true)
  | 1 => ("MobileMaker$Ring", "y", "[I", true)
  | _ => ("MobileMaker$Ring", "corners", "I", false)
def tyX5 : Nat → FieldType := fun k => match k with
  | 0 => .array .int
  | 1 => .array .int
  | _ => .int
abbrev wsX50 : List Cond := u_ws RX5 TX5 3
theorem nmX5 : ∀ a, a < 3 → ∀ b, b < 3 → a ≠ b → (TX5 a).2.1 ≠ (TX5 b).2.1 := by decide +kernel
theorem tyX5_ok : ∀ k, k < 3 → parseFieldDescriptor (TX5 k).2.2.1 = some (tyX5 k) := by decide +kernel
abbrev cX5_init : ByteArray := prog_7_method_1_code
def yX5_init : MethodName := ⟨RX5, "<init>", "()V"⟩
abbrev cX5_draw : ByteArray := prog_7_method_2_code
def yX5_draw : MethodName := ⟨RX5, "draw", "(LMobileMaker$Tray;I)Z"⟩
abbrev cX5_isTooFar : ByteArray := prog_7_method_3_code
def yX5_isTooFar : MethodName := ⟨RX5, "isTooFar", "(J)Z"⟩
abbrev cX5_next : ByteArray := prog_7_method_4_code
def yX5_next : MethodName := ⟨RX5, "next", "(I)I"⟩
abbrev cX5_touchesItself : ByteArray := prog_7_method_5_code
def yX5_touchesItself : MethodName := ⟨RX5, "touchesItself", "()Z"⟩
abbrev cX5_foldsBackAfter : ByteArray := prog_7_method_6_code
def yX5_foldsBackAfter : MethodName := ⟨RX5, "foldsBackAfter", "(I)Z"⟩
abbrev cX5_doSidesMeet : ByteArray := prog_7_method_7_code
def yX5_doSidesMeet : MethodName := ⟨RX5, "doSidesMeet", "(II)Z"⟩
abbrev cX5_turn : ByteArray := prog_7_method_8_code
def yX5_turn : MethodName := ⟨RX5, "turn", "(III)I"⟩
abbrev cX5_isInBox : ByteArray := prog_7_method_9_code
def yX5_isInBox : MethodName := ⟨RX5, "isInBox", "(III)Z"⟩
abbrev cX5_crossAfter : ByteArray := prog_7_method_10_code
def yX5_crossAfter : MethodName := ⟨RX5, "crossAfter", "(I)I"⟩
abbrev cX5_signedTwiceArea : ByteArray := prog_7_method_11_code
def yX5_signedTwiceArea : MethodName := ⟨RX5, "signedTwiceArea", "()I"⟩
abbrev cX5_twiceArea : ByteArray := prog_7_method_12_code
def yX5_twiceArea : MethodName := ⟨RX5, "twiceArea", "()I"⟩
abbrev cX5_middleSum : ByteArray := prog_7_method_13_code
def yX5_middleSum : MethodName := ⟨RX5, "middleSum", "(Z)J"⟩
def RX6 : String := "MobileMaker$Rod"
def TX6 : u_T := fun k => match k with
  | 0 => ("MobileMaker$Part", "number", "I", true)
  | 1 => ("MobileMaker$Part", "kind", "I", true)
  | 2 => ("MobileMaker$Part", "own", "I", true)
  | 3 => ("MobileMaker$Part", "above", "LMobileMaker$Rod;", false)
  | 4 => ("MobileMaker$Part", "end", "I", false)
  | 5 => ("MobileMaker$Part", "thread", "I", false)
  | 6 => ("MobileMaker$Part", "path", "J", false)
  | 7 => ("MobileMaker$Part", "height", "I", false)
  | 8 => ("MobileMaker$Part", "load", "J", false)
  | 9 => ("MobileMaker$Part", "bareLoss", "J", false)
  | 10 => ("MobileMaker$Rod", "length", "I", true)
  | 11 => ("MobileMaker$Rod", "heft", "I", true)
  | 12 => ("MobileMaker$Rod", "p", "I", false)
  | 13 => ("MobileMaker$Rod", "q", "I", false)
  | 14 => ("MobileMaker$Rod", "left", "LMobileMaker$Part;", false)
  | _ => ("MobileMaker$Rod", "right", "LMobileMaker$Part;", false)
def tyX6 : Nat → FieldType := fun k => match k with
  | 0 => .int
  | 1 => .int
  | 2 => .int
  | 3 => .object "MobileMaker$Rod"
  | 4 => .int
  | 5 => .int
  | 6 => .long
  | 7 => .int
  | 8 => .long
  | 9 => .long
  | 10 => .int
  | 11 => .int
  | 12 => .int
  | 13 => .int
  | 14 => .object "MobileMaker$Part"
  | _ => .object "MobileMaker$Part"
abbrev wsX60 : List Cond := u_ws RX6 TX6 16
theorem nmX6 : ∀ a, a < 16 → ∀ b, b < 16 → a ≠ b → (TX6 a).2.1 ≠ (TX6 b).2.1 := by decide +kernel
theorem tyX6_ok : ∀ k, k < 16 → parseFieldDescriptor (TX6 k).2.2.1 = some (tyX6 k) := by decide +kernel
abbrev cX6_init : ByteArray := prog_8_method_1_code
def yX6_init : MethodName := ⟨RX6, "<init>", "(IIII)V"⟩
abbrev cX6_side : ByteArray := prog_8_method_2_code
def yX6_side : MethodName := ⟨RX6, "side", "(I)LMobileMaker$Part;"⟩
abbrev cX6_bear : ByteArray := prog_8_method_3_code
def yX6_bear : MethodName := ⟨RX6, "bear", "(ILMobileMaker$Part;)V"⟩
abbrev cX6_hasWholeArms : ByteArray := prog_8_method_4_code
def yX6_hasWholeArms : MethodName := ⟨RX6, "hasWholeArms", "()Z"⟩
abbrev cX6_arm : ByteArray := prog_8_method_5_code
def yX6_arm : MethodName := ⟨RX6, "arm", "(I)I"⟩
abbrev cX6_isTiedAt : ByteArray := prog_8_method_6_code
def yX6_isTiedAt : MethodName := ⟨RX6, "isTiedAt", "(II)Z"⟩
abbrev cX6_loadOf : ByteArray := prog_8_method_7_code
def yX6_loadOf : MethodName := ⟨RX6, "loadOf", "(LMobileMaker$Part;)J"⟩
abbrev cX6_bareLossOf : ByteArray := prog_8_method_8_code
def yX6_bareLossOf : MethodName := ⟨RX6, "bareLossOf", "(LMobileMaker$Part;)J"⟩
abbrev cX6_lean : ByteArray := prog_8_method_9_code
def yX6_lean : MethodName := ⟨RX6, "lean", "()J"⟩
abbrev cX6_keepsLevelBare : ByteArray := prog_8_method_10_code
def yX6_keepsLevelBare : MethodName := ⟨RX6, "keepsLevelBare", "()Z"⟩
abbrev cX6_upperShare : ByteArray := prog_8_method_11_code
def yX6_upperShare : MethodName := ⟨RX6, "upperShare", "()J"⟩
abbrev cX6_lowerShare : ByteArray := prog_8_method_12_code
def yX6_lowerShare : MethodName := ⟨RX6, "lowerShare", "()J"⟩
abbrev cX6_canBeLevel : ByteArray := prog_8_method_13_code
def yX6_canBeLevel : MethodName := ⟨RX6, "canBeLevel", "()Z"⟩
abbrev cX6_levelUpper : ByteArray := prog_8_method_14_code
def yX6_levelUpper : MethodName := ⟨RX6, "levelUpper", "()I"⟩
abbrev cX6_levelLower : ByteArray := prog_8_method_15_code
def yX6_levelLower : MethodName := ⟨RX6, "levelLower", "()I"⟩
abbrev cX6_tieLevel : ByteArray := prog_8_method_16_code
def yX6_tieLevel : MethodName := ⟨RX6, "tieLevel", "()V"⟩
def RX7 : String := "MobileMaker$Span"
def TX7 : u_T := fun k => match k with
  | 0 => ("MobileMaker$Span", "sum", "I", false)
  | 1 => ("MobileMaker$Span", "longest", "I", false)
  | _ => ("MobileMaker$Span", "whole", "Z", false)
def tyX7 : Nat → FieldType := fun k => match k with
  | 0 => .int
  | 1 => .int
  | _ => .boolean
abbrev wsX70 : List Cond := u_ws RX7 TX7 3
theorem nmX7 : ∀ a, a < 3 → ∀ b, b < 3 → a ≠ b → (TX7 a).2.1 ≠ (TX7 b).2.1 := by decide +kernel
theorem tyX7_ok : ∀ k, k < 3 → parseFieldDescriptor (TX7 k).2.2.1 = some (tyX7 k) := by decide +kernel
abbrev cX7_init : ByteArray := prog_9_method_1_code
def yX7_init : MethodName := ⟨RX7, "<init>", "()V"⟩
abbrev cX7_measure : ByteArray := prog_9_method_2_code
def yX7_measure : MethodName := ⟨RX7, "measure", "(LMobileMaker$Part;LMobileMaker$Rod;)V"⟩
abbrev cX7_least : ByteArray := prog_9_method_3_code
def yX7_least : MethodName := ⟨RX7, "least", "()I"⟩
def RX8 : String := "MobileMaker$Text"
def TX8 : u_T := fun k => match k with
  | 0 => ("MobileMaker$Text", "kept", "[B", true)
  | 1 => ("MobileMaker$Text", "bytes", "I", false)
  | 2 => ("MobileMaker$Text", "open", "[LMobileMaker$Rod;", true)
  | 3 => ("MobileMaker$Text", "sidesTold", "[I", true)
  | _ => ("MobileMaker$Text", "opened", "I", false)
def tyX8 : Nat → FieldType := fun k => match k with
  | 0 => .array .byte
  | 1 => .int
  | 2 => .array (.object "MobileMaker$Rod")
  | 3 => .array .int
  | _ => .int
abbrev wsX80 : List Cond := u_ws RX8 TX8 5
theorem nmX8 : ∀ a, a < 5 → ∀ b, b < 5 → a ≠ b → (TX8 a).2.1 ≠ (TX8 b).2.1 := by decide +kernel
theorem tyX8_ok : ∀ k, k < 5 → parseFieldDescriptor (TX8 k).2.2.1 = some (tyX8 k) := by decide +kernel
abbrev cX8_init : ByteArray := prog_10_method_1_code
def yX8_init : MethodName := ⟨RX8, "<init>", "()V"⟩
abbrev cX8_has : ByteArray := prog_10_method_2_code
def yX8_has : MethodName := ⟨RX8, "has", "(I)Z"⟩
abbrev cX8_at : ByteArray := prog_10_method_3_code
def yX8_at : MethodName := ⟨RX8, "at", "(I)I"⟩
abbrev cX8_tell : ByteArray := prog_10_method_4_code
def yX8_tell : MethodName := ⟨RX8, "tell", "(LMobileMaker$Part;)I"⟩
abbrev cX8_goOnWith : ByteArray := prog_10_method_5_code
def yX8_goOnWith : MethodName := ⟨RX8, "goOnWith", "(I)V"⟩
abbrev cX8_tellSide : ByteArray := prog_10_method_6_code
def yX8_tellSide : MethodName := ⟨RX8, "tellSide", "(LMobileMaker$Part;)V"⟩
abbrev cX8_tellPart : ByteArray := prog_10_method_7_code
def yX8_tellPart : MethodName := ⟨RX8, "tellPart", "(LMobileMaker$Part;)V"⟩
abbrev cX8_putNumber : ByteArray := prog_10_method_8_code
def yX8_putNumber : MethodName := ⟨RX8, "putNumber", "(I)V"⟩
abbrev cX8_put : ByteArray := prog_10_method_9_code
def yX8_put : MethodName := ⟨RX8, "put", "(C)V"⟩
def RX9 : String := "MobileMaker$Tray"
def TX9 : u_T := fun k => match k with
  | 0 => ("MobileMaker$Tray", "sort", "I", false)
  | 1 => ("MobileMaker$Tray", "many", "I", false)
  | _ => ("MobileMaker$Tray", "row", "[J", true)
def tyX9 : Nat → FieldType := fun k => match k with
  | 0 => .int
  | 1 => .int
  | _ => .array .long
abbrev wsX90 : List Cond := u_ws RX9 TX9 3
theorem nmX9 : ∀ a, a < 3 → ∀ b, b < 3 → a ≠ b → (TX9 a).2.1 ≠ (TX9 b).2.1 := by decide +kernel
theorem tyX9_ok : ∀ k, k < 3 → parseFieldDescriptor (TX9 k).2.2.1 = some (tyX9 k) := by decide +kernel
abbrev cX9_init : ByteArray := prog_11_method_1_code
def yX9_init : MethodName := ⟨RX9, "<init>", "()V"⟩
abbrev cX9_isMissing : ByteArray := prog_11_method_2_code
def yX9_isMissing : MethodName := ⟨RX9, "isMissing", "()Z"⟩
abbrev cX9_lay : ByteArray := prog_11_method_3_code
def yX9_lay : MethodName := ⟨RX9, "lay", "(II)V"⟩
abbrev cX9_has : ByteArray := prog_11_method_4_code
def yX9_has : MethodName := ⟨RX9, "has", "(I)Z"⟩
abbrev cX9_hasFrom : ByteArray := prog_11_method_5_code
def yX9_hasFrom : MethodName := ⟨RX9, "hasFrom", "(II)Z"⟩
abbrev cX9_at : ByteArray := prog_11_method_6_code
def yX9_at : MethodName := ⟨RX9, "at", "(I)J"⟩
abbrev cX9_put : ByteArray := prog_11_method_7_code
def yX9_put : MethodName := ⟨RX9, "put", "(IJ)V"⟩
abbrev cX9_canBeParted : ByteArray := prog_11_method_8_code
def yX9_canBeParted : MethodName := ⟨RX9, "canBeParted", "()Z"⟩
def RX10 : String := "MobileMaker$Weight"
def TX10 : u_T := fun k => match k with
  | 0 => ("MobileMaker$Part", "number", "I", true)
  | 1 => ("MobileMaker$Part", "kind", "I", true)
  | 2 => ("MobileMaker$Part", "own", "I", true)
  | 3 => ("MobileMaker$Part", "above", "LMobileMaker$Rod;", false)
  | 4 => ("MobileMaker$Part", "end", "I", false)
  | 5 => ("MobileMaker$Part", "thread", "I", false)
  | 6 => ("MobileMaker$Part", "path", "J", false)
  | 7 => ("MobileMaker$Part", "height", "I", false)
  | 8 => ("MobileMaker$Part", "load", "J", false)
  | _ => ("MobileMaker$Part", "bareLoss", "J", false)
def tyX10 : Nat → FieldType := fun k => match k with
  | 0 => .int
  | 1 => .int
  | 2 => .int
  | 3 => .object "MobileMaker$Rod"
  | 4 => .int
  | 5 => .int
  | 6 => .long
  | 7 => .int
  | 8 => .long
  | _ => .long
abbrev wsX100 : List Cond := u_ws RX10 TX10 10
theorem nmX10 : ∀ a, a < 10 → ∀ b, b < 10 → a ≠ b → (TX10 a).2.1 ≠ (TX10 b).2.1 := by decide +kernel
theorem tyX10_ok : ∀ k, k < 10 → parseFieldDescriptor (TX10 k).2.2.1 = some (tyX10 k) := by decide +kernel
abbrev cX10_init : ByteArray := prog_12_method_1_code
def yX10_init : MethodName := ⟨RX10, "<init>", "(II)V"⟩
def RX11 : String := "MobileMaker"
def TX11 : u_T := fun k => match k with
  | 0 => ("MobileMaker", "trays", "[LMobileMaker$Tray;", true)
  | 1 => ("MobileMaker", "parts", "[LMobileMaker$Part;", true)
  | 2 => ("MobileMaker", "made", "I", false)
  | 3 => ("MobileMaker", "status", "I", false)
  | 4 => ("MobileMaker", "mobile", "LMobileMaker$Mobile;", true)
  | 5 => ("MobileMaker", "ring", "LMobileMaker$Ring;", true)
  | 6 => ("MobileMaker", "one", "LMobileMaker$Span;", true)
  | 7 => ("MobileMaker", "other", "LMobileMaker$Span;", true)
  | 8 => ("MobileMaker", "clearing", "LMobileMaker$Clearing;", true)
  | 9 => ("MobileMaker", "parting", "LMobileMaker$Parting;", true)
  | 10 => ("MobileMaker", "suspects", "[I", true)
  | 11 => ("MobileMaker", "suspected", "I", false)
  | _ => ("MobileMaker", "shown", "LMobileMaker$Text;", true)
def tyX11 : Nat → FieldType := fun k => match k with
  | 0 => .array (.object "MobileMaker$Tray")
  | 1 => .array (.object "MobileMaker$Part")
  | 2 => .int
  | 3 => .int
  | 4 => .object "MobileMaker$Mobile"
  | 5 => .object "MobileMaker$Ring"
  | 6 => .object "MobileMaker$Span"
  | 7 => .object "MobileMaker$Span"
  | 8 => .object "MobileMaker$Clearing"
  | 9 => .object "MobileMaker$Parting"
  | 10 => .array .int
  | 11 => .int
  | _ => .object "MobileMaker$Text"
abbrev wsX110 : List Cond := u_ws RX11 TX11 13
theorem nmX11 : ∀ a, a < 13 → ∀ b, b < 13 → a ≠ b → (TX11 a).2.1 ≠ (TX11 b).2.1 := by decide +kernel
theorem tyX11_ok : ∀ k, k < 13 → parseFieldDescriptor (TX11 k).2.2.1 = some (tyX11 k) := by decide +kernel
abbrev cX11_init : ByteArray := prog_1_method_1_code
def yX11_init : MethodName := ⟨RX11, "<init>", "()V"⟩
abbrev cX11_status : ByteArray := prog_1_method_2_code
def yX11_status : MethodName := ⟨RX11, "status", "()I"⟩
abbrev cX11_tray : ByteArray := prog_1_method_3_code
def yX11_tray : MethodName := ⟨RX11, "tray", "(III)Z"⟩
abbrev cX11_write : ByteArray := prog_1_method_4_code
def yX11_write : MethodName := ⟨RX11, "write", "(IIJ)Z"⟩
abbrev cX11_read : ByteArray := prog_1_method_5_code
def yX11_read : MethodName := ⟨RX11, "read", "(II)J"⟩
abbrev cX11_pour : ByteArray := prog_1_method_6_code
def yX11_pour : MethodName := ⟨RX11, "pour", "(IIIII)Z"⟩
abbrev cX11_weight : ByteArray := prog_1_method_7_code
def yX11_weight : MethodName := ⟨RX11, "weight", "(I)I"⟩
abbrev cX11_load : ByteArray := prog_1_method_8_code
def yX11_load : MethodName := ⟨RX11, "load", "(II)I"⟩
abbrev cX11_rod : ByteArray := prog_1_method_9_code
def yX11_rod : MethodName := ⟨RX11, "rod", "(IIZ)I"⟩
abbrev cX11_plate : ByteArray := prog_1_method_10_code
def yX11_plate : MethodName := ⟨RX11, "plate", "(II)I"⟩
abbrev cX11_part : ByteArray := prog_1_method_11_code
def yX11_part : MethodName := ⟨RX11, "part", "(II)I"⟩
abbrev cX11_rodAt : ByteArray := prog_1_method_12_code
def yX11_rodAt : MethodName := ⟨RX11, "rodAt", "(II)J"⟩
abbrev cX11_middle : ByteArray := prog_1_method_13_code
def yX11_middle : MethodName := ⟨RX11, "middle", "(II)J"⟩
abbrev cX11_hang : ByteArray := prog_1_method_14_code
def yX11_hang : MethodName := ⟨RX11, "hang", "(IIII)Z"⟩
abbrev cX11_take : ByteArray := prog_1_method_15_code
def yX11_take : MethodName := ⟨RX11, "take", "(I)Z"⟩
abbrev cX11_thread : ByteArray := prog_1_method_16_code
def yX11_thread : MethodName := ⟨RX11, "thread", "(II)Z"⟩
abbrev cX11_tied : ByteArray := prog_1_method_17_code
def yX11_tied : MethodName := ⟨RX11, "tied", "(III)Z"⟩
abbrev cX11_swap : ByteArray := prog_1_method_18_code
def yX11_swap : MethodName := ⟨RX11, "swap", "(I)Z"⟩
abbrev cX11_bears : ByteArray := prog_1_method_19_code
def yX11_bears : MethodName := ⟨RX11, "bears", "(I)J"⟩
abbrev cX11_tilts : ByteArray := prog_1_method_20_code
def yX11_tilts : MethodName := ⟨RX11, "tilts", "(I)I"⟩
abbrev cX11_wrong : ByteArray := prog_1_method_21_code
def yX11_wrong : MethodName := ⟨RX11, "wrong", "(I)I"⟩
abbrev cX11_tie : ByteArray := prog_1_method_22_code
def yX11_tie : MethodName := ⟨RX11, "tie", "(II)J"⟩
abbrev cX11_all : ByteArray := prog_1_method_23_code
def yX11_all : MethodName := ⟨RX11, "all", "(I)I"⟩
abbrev cX11_reach : ByteArray := prog_1_method_24_code
def yX11_reach : MethodName := ⟨RX11, "reach", "(IIZ)I"⟩
abbrev cX11_lowest : ByteArray := prog_1_method_25_code
def yX11_lowest : MethodName := ⟨RX11, "lowest", "(I)I"⟩
abbrev cX11_clash : ByteArray := prog_1_method_26_code
def yX11_clash : MethodName := ⟨RX11, "clash", "(II)I"⟩
abbrev cX11_clashes : ByteArray := prog_1_method_27_code
def yX11_clashes : MethodName := ⟨RX11, "clashes", "(I)I"⟩
abbrev cX11_clear : ByteArray := prog_1_method_28_code
def yX11_clear : MethodName := ⟨RX11, "clear", "(I)I"⟩
abbrev cX11_ways : ByteArray := prog_1_method_29_code
def yX11_ways : MethodName := ⟨RX11, "ways", "(II)I"⟩
abbrev cX11_fill : ByteArray := prog_1_method_30_code
def yX11_fill : MethodName := ⟨RX11, "fill", "(III)I"⟩
abbrev cX11_fewest : ByteArray := prog_1_method_31_code
def yX11_fewest : MethodName := ⟨RX11, "fewest", "(II)I"⟩
abbrev cX11_suspect : ByteArray := prog_1_method_32_code
def yX11_suspect : MethodName := ⟨RX11, "suspect", "(I)I"⟩
abbrev cX11_cut : ByteArray := prog_1_method_33_code
def yX11_cut : MethodName := ⟨RX11, "cut", "()I"⟩
abbrev cX11_same : ByteArray := prog_1_method_34_code
def yX11_same : MethodName := ⟨RX11, "same", "(II)I"⟩
abbrev cX11_show : ByteArray := prog_1_method_35_code
def yX11_show : MethodName := ⟨RX11, "show", "(I)I"⟩
abbrev cX11_out : ByteArray := prog_1_method_36_code
def yX11_out : MethodName := ⟨RX11, "out", "(I)I"⟩
abbrev cX11_allows : ByteArray := prog_1_method_37_code
def yX11_allows : MethodName := ⟨RX11, "allows", "()Z"⟩
abbrev cX11_refuses : ByteArray := prog_1_method_38_code
def yX11_refuses : MethodName := ⟨RX11, "refuses", "(I)Z"⟩
abbrev cX11_none : ByteArray := prog_1_method_39_code
def yX11_none : MethodName := ⟨RX11, "none", "(I)I"⟩
abbrev cX11_trayAt : ByteArray := prog_1_method_40_code
def yX11_trayAt : MethodName := ⟨RX11, "trayAt", "(I)LMobileMaker$Tray;"⟩
abbrev cX11_partAt : ByteArray := prog_1_method_41_code
def yX11_partAt : MethodName := ⟨RX11, "partAt", "(I)LMobileMaker$Part;"⟩
abbrev cX11_asRod : ByteArray := prog_1_method_42_code
def yX11_asRod : MethodName := ⟨RX11, "asRod", "(LMobileMaker$Part;)LMobileMaker$Rod;"⟩
abbrev cX11_placeStatus : ByteArray := prog_1_method_43_code
def yX11_placeStatus : MethodName := ⟨RX11, "placeStatus", "(LMobileMaker$Tray;I)I"⟩
abbrev cX11_rodGiven : ByteArray := prog_1_method_44_code
def yX11_rodGiven : MethodName := ⟨RX11, "rodGiven", "(I)LMobileMaker$Rod;"⟩
abbrev cX11_topGiven : ByteArray := prog_1_method_45_code
def yX11_topGiven : MethodName := ⟨RX11, "topGiven", "(I)LMobileMaker$Part;"⟩
abbrev cX11_wholeTopStatus : ByteArray := prog_1_method_46_code
def yX11_wholeTopStatus : MethodName := ⟨RX11, "wholeTopStatus", "(I)I"⟩
abbrev cX11_isThread : ByteArray := prog_1_method_47_code
def yX11_isThread : MethodName := ⟨RX11, "isThread", "(I)Z"⟩
abbrev cX11_newWeight : ByteArray := prog_1_method_48_code
def yX11_newWeight : MethodName := ⟨RX11, "newWeight", "(J)I"⟩
abbrev cX11_added : ByteArray := prog_1_method_49_code
def yX11_added : MethodName := ⟨RX11, "added", "(LMobileMaker$Part;)I"⟩
abbrev cX11_partTold : ByteArray := prog_1_method_50_code
def yX11_partTold : MethodName := ⟨RX11, "partTold", "(LMobileMaker$Part;I)I"⟩
abbrev cX11_rodTold : ByteArray := prog_1_method_51_code
def yX11_rodTold : MethodName := ⟨RX11, "rodTold", "(LMobileMaker$Rod;I)J"⟩
abbrev cX11_topOf : ByteArray := prog_1_method_52_code
def yX11_topOf : MethodName := ⟨RX11, "topOf", "(LMobileMaker$Part;)LMobileMaker$Part;"⟩
abbrev cX11_heightOf : ByteArray := prog_1_method_53_code
def yX11_heightOf : MethodName := ⟨RX11, "heightOf", "(LMobileMaker$Part;)I"⟩
abbrev cX11_isAbove : ByteArray := prog_1_method_54_code
def yX11_isAbove : MethodName := ⟨RX11, "isAbove", "(LMobileMaker$Part;LMobileMaker$Part;)Z"⟩
abbrev cX11_lastAboveBoth : ByteArray := prog_1_method_55_code
def yX11_lastAboveBoth : MethodName := ⟨RX11, "lastAboveBoth", "(LMobileMaker$Part;LMobileMaker$Part;)LMobileMaker$Rod;"⟩
abbrev cX11_canTouch : ByteArray := prog_1_method_56_code
def yX11_canTouch : MethodName := ⟨RX11, "canTouch", "(LMobileMaker$Rod;)Z"⟩
abbrev cX11_canMeet : ByteArray := prog_1_method_57_code
def yX11_canMeet : MethodName := ⟨RX11, "canMeet", "(LMobileMaker$Part;LMobileMaker$Part;I)Z"⟩
abbrev cX11_prepareClearing : ByteArray := prog_1_method_58_code
def yX11_prepareClearing : MethodName := ⟨RX11, "prepareClearing", "()V"⟩
abbrev cX11_givenStatus : ByteArray := prog_1_method_59_code
def yX11_givenStatus : MethodName := ⟨RX11, "givenStatus", "(II)I"⟩
abbrev cX11_shapeStatus : ByteArray := prog_1_method_60_code
def yX11_shapeStatus : MethodName := ⟨RX11, "shapeStatus", "(LMobileMaker$Part;LMobileMaker$Tray;)I"⟩
abbrev cX11_waysFound : ByteArray := prog_1_method_61_code
def yX11_waysFound : MethodName := ⟨RX11, "waysFound", "(LMobileMaker$Part;LMobileMaker$Tray;)I"⟩
abbrev cX11_fewestStatus : ByteArray := prog_1_method_62_code
def yX11_fewestStatus : MethodName := ⟨RX11, "fewestStatus", "(LMobileMaker$Part;I)I"⟩
abbrev cX11_suspectAllWeights : ByteArray := prog_1_method_63_code
def yX11_suspectAllWeights : MethodName := ⟨RX11, "suspectAllWeights", "()V"⟩
abbrev cX11_areAlike : ByteArray := prog_1_method_64_code
def yX11_areAlike : MethodName := ⟨RX11, "areAlike", "(LMobileMaker$Part;LMobileMaker$Part;I)Z"⟩
abbrev cX11_areSidesAlike : ByteArray := prog_1_method_65_code
def yX11_areSidesAlike : MethodName := ⟨RX11, "areSidesAlike", "(LMobileMaker$Part;LMobileMaker$Part;I)Z"⟩
abbrev cX11_commonDivisor : ByteArray := prog_1_method_66_code
def yX11_commonDivisor : MethodName := ⟨RX11, "commonDivisor", "(JJ)J"⟩
def RX12 : String := "MobileMakerModel"
def TX12 : u_T := fun k => match k with
  | 0 => ("MobileMakerModel", "status", "I", false)
  | 1 => ("MobileMakerModel", "thrown", "I", false)
  | 2 => ("MobileMakerModel", "traySort", "[I", true)
  | 3 => ("MobileMakerModel", "trayMany", "[I", true)
  | 4 => ("MobileMakerModel", "numbers", "[J", true)
  | 5 => ("MobileMakerModel", "parts", "I", false)
  | 6 => ("MobileMakerModel", "kind", "[I", true)
  | 7 => ("MobileMakerModel", "heft", "[I", true)
  | 8 => ("MobileMakerModel", "length", "[I", true)
  | 9 => ("MobileMakerModel", "on", "[I", true)
  | 10 => ("MobileMakerModel", "at", "[I", true)
  | 11 => ("MobileMakerModel", "thread", "[I", true)
  | 12 => ("MobileMakerModel", "own", "[J", true)
  | 13 => ("MobileMakerModel", "p", "[J", true)
  | 14 => ("MobileMakerModel", "q", "[J", true)
  | 15 => ("MobileMakerModel", "left", "[I", true)
  | 16 => ("MobileMakerModel", "right", "[I", true)
  | 17 => ("MobileMakerModel", "corners", "[I", true)
  | 18 => ("MobileMakerModel", "cornerX", "[I", true)
  | 19 => ("MobileMakerModel", "cornerY", "[I", true)
  | 20 => ("MobileMakerModel", "order", "[I", true)
  | 21 => ("MobileMakerModel", "deep", "[I", true)
  | 22 => ("MobileMakerModel", "like", "[I", true)
  | 23 => ("MobileMakerModel", "load", "[J", true)
  | 24 => ("MobileMakerModel", "inIt", "[Z", true)
  | 25 => ("MobileMakerModel", "gone", "[Z", true)
  | 26 => ("MobileMakerModel", "keptMany", "I", false)
  | 27 => ("MobileMakerModel", "kept", "[I", true)
  | 28 => ("MobileMakerModel", "out", "[B", true)
  | 29 => ("MobileMakerModel", "outs", "I", false)
  | 30 => ("MobileMakerModel", "px", "[I", true)
  | 31 => ("MobileMakerModel", "py", "[I", true)
  | 32 => ("MobileMakerModel", "armsWhole", "Z", false)
  | 33 => ("MobileMakerModel", "armsSum", "I", false)
  | 34 => ("MobileMakerModel", "armsMost", "I", false)
  | 35 => ("MobileMakerModel", "pairs", "I", false)
  | 36 => ("MobileMakerModel", "pairA", "[I", true)
  | 37 => ("MobileMakerModel", "pairB", "[I", true)
  | 38 => ("MobileMakerModel", "high", "[I", true)
  | 39 => ("MobileMakerModel", "more", "[I", true)
  | 40 => ("MobileMakerModel", "hangs", "[I", true)
  | 41 => ("MobileMakerModel", "ends", "I", false)
  | 42 => ("MobileMakerModel", "things", "I", false)
  | 43 => ("MobileMakerModel", "top2", "[J", true)
  | 44 => ("MobileMakerModel", "low2", "[J", true)
  | 45 => ("MobileMakerModel", "want", "[J", true)
  | 46 => ("MobileMakerModel", "value", "[J", true)
  | 47 => ("MobileMakerModel", "walk", "[I", true)
  | 48 => ("MobileMakerModel", "walkEnd", "[I", true)
  | 49 => ("MobileMakerModel", "freeTop", "[J", true)
  | 50 => ("MobileMakerModel", "freeLow", "[J", true)
  | 51 => ("MobileMakerModel", "tooSmall", "Z", false)
  | 52 => ("MobileMakerModel", "counts", "[I", true)
  | 53 => ("MobileMakerModel", "sumOf", "[J", true)
  | 54 => ("MobileMakerModel", "choice", "[I", true)
  | 55 => ("MobileMakerModel", "waits", "[I", true)
  | 56 => ("MobileMakerModel", "waitsFor", "[I", true)
  | _ => ("MobileMakerModel", "waiting", "I", false)
def tyX12 : Nat → FieldType := fun k => match k with
  | 0 => .int
  | 1 => .int
  | 2 => .array .int
  | 3 => .array .int
  | 4 => .array .long
  | 5 => .int
  | 6 => .array .int
  | 7 => .array .int
  | 8 => .array .int
  | 9 => .array .int
  | 10 => .array .int
  | 11 => .array .int
  | 12 => .array .long
  | 13 => .array .long
  | 14 => .array .long
  | 15 => .array .int
  | 16 => .array .int
  | 17 => .array .int
  | 18 => .array .int
  | 19 => .array .int
  | 20 => .array .int
  | 21 => .array .int
  | 22 => .array .int
  | 23 => .array .long
  | 24 => .array .boolean
  | 25 => .array .boolean
  | 26 => .int
  | 27 => .array .int
  | 28 => .array .byte
  | 29 => .int
  | 30 => .array .int
  | 31 => .array .int
  | 32 => .boolean
  | 33 => .int
  | 34 => .int
  | 35 => .int
  | 36 => .array .int
  | 37 => .array .int
  | 38 => .array .int
  | 39 => .array .int
  | 40 => .array .int
  | 41 => .int
  | 42 => .int
  | 43 => .array .long
  | 44 => .array .long
  | 45 => .array .long
  | 46 => .array .long
  | 47 => .array .int
  | 48 => .array .int
  | 49 => .array .long
  | 50 => .array .long
  | 51 => .boolean
  | 52 => .array .int
  | 53 => .array .long
  | 54 => .array .int
  | 55 => .array .int
  | 56 => .array .int
  | _ => .int
abbrev wsX120 : List Cond := u_ws RX12 TX12 58
theorem nmX12 : ∀ a, a < 58 → ∀ b, b < 58 → a ≠ b → (TX12 a).2.1 ≠ (TX12 b).2.1 := by decide +kernel
theorem tyX12_ok : ∀ k, k < 58 → parseFieldDescriptor (TX12 k).2.2.1 = some (tyX12 k) := by decide +kernel
abbrev cX12_init : ByteArray := prog_14_method_1_code
def yX12_init : MethodName := ⟨RX12, "<init>", "()V"⟩
abbrev cX12_thrown : ByteArray := prog_14_method_2_code
def yX12_thrown : MethodName := ⟨RX12, "thrown", "()I"⟩
abbrev cX12_status : ByteArray := prog_14_method_3_code
def yX12_status : MethodName := ⟨RX12, "status", "()I"⟩
abbrev cX12_refuse : ByteArray := prog_14_method_4_code
def yX12_refuse : MethodName := ⟨RX12, "refuse", "(I)I"⟩
abbrev cX12_no : ByteArray := prog_14_method_5_code
def yX12_no : MethodName := ⟨RX12, "no", "(I)Z"⟩
abbrev cX12_cut : ByteArray := prog_14_method_6_code
def yX12_cut : MethodName := ⟨RX12, "cut", "(IJ)J"⟩
abbrev cX12_tray : ByteArray := prog_14_method_7_code
def yX12_tray : MethodName := ⟨RX12, "tray", "(III)Z"⟩
abbrev cX12_placed : ByteArray := prog_14_method_8_code
def yX12_placed : MethodName := ⟨RX12, "placed", "(II)I"⟩
abbrev cX12_write : ByteArray := prog_14_method_9_code
def yX12_write : MethodName := ⟨RX12, "write", "(IIJ)Z"⟩
abbrev cX12_read : ByteArray := prog_14_method_10_code
def yX12_read : MethodName := ⟨RX12, "read", "(II)J"⟩
abbrev cX12_pour : ByteArray := prog_14_method_11_code
def yX12_pour : MethodName := ⟨RX12, "pour", "(IIIII)Z"⟩
abbrev cX12_newPart : ByteArray := prog_14_method_12_code
def yX12_newPart : MethodName := ⟨RX12, "newPart", "(IJ)I"⟩
abbrev cX12_newWeight : ByteArray := prog_14_method_13_code
def yX12_newWeight : MethodName := ⟨RX12, "newWeight", "(J)I"⟩
abbrev cX12_weight : ByteArray := prog_14_method_14_code
def yX12_weight : MethodName := ⟨RX12, "weight", "(I)I"⟩
abbrev cX12_load : ByteArray := prog_14_method_15_code
def yX12_load : MethodName := ⟨RX12, "load", "(II)I"⟩
abbrev cX12_rod : ByteArray := prog_14_method_16_code
def yX12_rod : MethodName := ⟨RX12, "rod", "(IIZ)I"⟩
abbrev cX12_turn : ByteArray := prog_14_method_17_code
def yX12_turn : MethodName := ⟨RX12, "turn", "(III)J"⟩
abbrev cX12_isOn : ByteArray := prog_14_method_18_code
def yX12_isOn : MethodName := ⟨RX12, "isOn", "(III)Z"⟩
abbrev cX12_sign : ByteArray := prog_14_method_19_code
def yX12_sign : MethodName := ⟨RX12, "sign", "(J)I"⟩
abbrev cX12_touches : ByteArray := prog_14_method_20_code
def yX12_touches : MethodName := ⟨RX12, "touches", "(IIII)Z"⟩
abbrev cX12_isRing : ByteArray := prog_14_method_21_code
def yX12_isRing : MethodName := ⟨RX12, "isRing", "(I)Z"⟩
abbrev cX12_plate : ByteArray := prog_14_method_22_code
def yX12_plate : MethodName := ⟨RX12, "plate", "(II)I"⟩
abbrev cX12_common : ByteArray := prog_14_method_23_code
def yX12_common : MethodName := ⟨RX12, "common", "(JJ)J"⟩
abbrev cX12_middle : ByteArray := prog_14_method_24_code
def yX12_middle : MethodName := ⟨RX12, "middle", "(II)J"⟩
abbrev cX12_isPart : ByteArray := prog_14_method_25_code
def yX12_isPart : MethodName := ⟨RX12, "isPart", "(I)Z"⟩
abbrev cX12_isRod : ByteArray := prog_14_method_26_code
def yX12_isRod : MethodName := ⟨RX12, "isRod", "(I)Z"⟩
abbrev cX12_topOf : ByteArray := prog_14_method_27_code
def yX12_topOf : MethodName := ⟨RX12, "topOf", "(I)I"⟩
abbrev cX12_heightOf : ByteArray := prog_14_method_28_code
def yX12_heightOf : MethodName := ⟨RX12, "heightOf", "(I)I"⟩
abbrev cX12_part : ByteArray := prog_14_method_29_code
def yX12_part : MethodName := ⟨RX12, "part", "(II)I"⟩
abbrev cX12_rodded : ByteArray := prog_14_method_30_code
def yX12_rodded : MethodName := ⟨RX12, "rodded", "(I)I"⟩
abbrev cX12_rodAt : ByteArray := prog_14_method_31_code
def yX12_rodAt : MethodName := ⟨RX12, "rodAt", "(II)J"⟩
abbrev cX12_isAbove : ByteArray := prog_14_method_32_code
def yX12_isAbove : MethodName := ⟨RX12, "isAbove", "(II)Z"⟩
abbrev cX12_hang : ByteArray := prog_14_method_33_code
def yX12_hang : MethodName := ⟨RX12, "hang", "(IIII)Z"⟩
abbrev cX12_takeOff : ByteArray := prog_14_method_34_code
def yX12_takeOff : MethodName := ⟨RX12, "takeOff", "(I)V"⟩
abbrev cX12_take : ByteArray := prog_14_method_35_code
def yX12_take : MethodName := ⟨RX12, "take", "(I)Z"⟩
abbrev cX12_thread : ByteArray := prog_14_method_36_code
def yX12_thread : MethodName := ⟨RX12, "thread", "(II)Z"⟩
abbrev cX12_tied : ByteArray := prog_14_method_37_code
def yX12_tied : MethodName := ⟨RX12, "tied", "(III)Z"⟩
abbrev cX12_swap : ByteArray := prog_14_method_38_code
def yX12_swap : MethodName := ⟨RX12, "swap", "(I)Z"⟩
abbrev cX12_orders : ByteArray := prog_14_method_39_code
def yX12_orders : MethodName := ⟨RX12, "orders", "()V"⟩
abbrev cX12_loads : ByteArray := prog_14_method_40_code
def yX12_loads : MethodName := ⟨RX12, "loads", "()V"⟩
abbrev cX12_allThere : ByteArray := prog_14_method_41_code
def yX12_allThere : MethodName := ⟨RX12, "allThere", "()V"⟩
abbrev cX12_loadAt : ByteArray := prog_14_method_42_code
def yX12_loadAt : MethodName := ⟨RX12, "loadAt", "(I)J"⟩
abbrev cX12_levelP : ByteArray := prog_14_method_43_code
def yX12_levelP : MethodName := ⟨RX12, "levelP", "(I)J"⟩
abbrev cX12_levelQ : ByteArray := prog_14_method_44_code
def yX12_levelQ : MethodName := ⟨RX12, "levelQ", "(I)J"⟩
abbrev cX12_tilt : ByteArray := prog_14_method_45_code
def yX12_tilt : MethodName := ⟨RX12, "tilt", "(I)I"⟩
abbrev cX12_bears : ByteArray := prog_14_method_46_code
def yX12_bears : MethodName := ⟨RX12, "bears", "(I)J"⟩
abbrev cX12_tilts : ByteArray := prog_14_method_47_code
def yX12_tilts : MethodName := ⟨RX12, "tilts", "(I)I"⟩
abbrev cX12_marks : ByteArray := prog_14_method_48_code
def yX12_marks : MethodName := ⟨RX12, "marks", "(I)V"⟩
abbrev cX12_topped : ByteArray := prog_14_method_49_code
def yX12_topped : MethodName := ⟨RX12, "topped", "(I)I"⟩
abbrev cX12_wrongRods : ByteArray := prog_14_method_50_code
def yX12_wrongRods : MethodName := ⟨RX12, "wrongRods", "()I"⟩
abbrev cX12_wrong : ByteArray := prog_14_method_51_code
def yX12_wrong : MethodName := ⟨RX12, "wrong", "(I)I"⟩
abbrev cX12_canBeLevel : ByteArray := prog_14_method_52_code
def yX12_canBeLevel : MethodName := ⟨RX12, "canBeLevel", "(I)Z"⟩
abbrev cX12_tie : ByteArray := prog_14_method_53_code
def yX12_tie : MethodName := ⟨RX12, "tie", "(II)J"⟩
abbrev cX12_all : ByteArray := prog_14_method_54_code
def yX12_all : MethodName := ⟨RX12, "all", "(I)I"⟩
abbrev cX12_isWhole : ByteArray := prog_14_method_55_code
def yX12_isWhole : MethodName := ⟨RX12, "isWhole", "(I)Z"⟩
abbrev cX12_arm : ByteArray := prog_14_method_56_code
def yX12_arm : MethodName := ⟨RX12, "arm", "(II)I"⟩
abbrev cX12_arms : ByteArray := prog_14_method_57_code
def yX12_arms : MethodName := ⟨RX12, "arms", "(IIZ)V"⟩
abbrev cX12_armsLeast : ByteArray := prog_14_method_58_code
def yX12_armsLeast : MethodName := ⟨RX12, "armsLeast", "()I"⟩
abbrev cX12_reach : ByteArray := prog_14_method_59_code
def yX12_reach : MethodName := ⟨RX12, "reach", "(IIZ)I"⟩
abbrev cX12_lowest : ByteArray := prog_14_method_60_code
def yX12_lowest : MethodName := ⟨RX12, "lowest", "(I)I"⟩
abbrev cX12_lastAbove : ByteArray := prog_14_method_61_code
def yX12_lastAbove : MethodName := ⟨RX12, "lastAbove", "(II)I"⟩
abbrev cX12_near : ByteArray := prog_14_method_62_code
def yX12_near : MethodName := ⟨RX12, "near", "(II)I"⟩
abbrev cX12_clash : ByteArray := prog_14_method_63_code
def yX12_clash : MethodName := ⟨RX12, "clash", "(II)I"⟩
abbrev cX12_wholes : ByteArray := prog_14_method_64_code
def yX12_wholes : MethodName := ⟨RX12, "wholes", "(I)I"⟩
abbrev cX12_findPairs : ByteArray := prog_14_method_65_code
def yX12_findPairs : MethodName := ⟨RX12, "findPairs", "()V"⟩
abbrev cX12_meets : ByteArray := prog_14_method_66_code
def yX12_meets : MethodName := ⟨RX12, "meets", "()I"⟩
abbrev cX12_noMore : ByteArray := prog_14_method_67_code
def yX12_noMore : MethodName := ⟨RX12, "noMore", "()V"⟩
abbrev cX12_clashes : ByteArray := prog_14_method_68_code
def yX12_clashes : MethodName := ⟨RX12, "clashes", "(I)I"⟩
abbrev cX12_clear : ByteArray := prog_14_method_69_code
def yX12_clear : MethodName := ⟨RX12, "clear", "(I)I"⟩
abbrev cX12_areThreads : ByteArray := prog_14_method_70_code
def yX12_areThreads : MethodName := ⟨RX12, "areThreads", "(I)Z"⟩
abbrev cX12_lengthen : ByteArray := prog_14_method_71_code
def yX12_lengthen : MethodName := ⟨RX12, "lengthen", "(II)I"⟩
abbrev cX12_nextChoice : ByteArray := prog_14_method_72_code
def yX12_nextChoice : MethodName := ⟨RX12, "nextChoice", "(I)Z"⟩
abbrev cX12_shapes : ByteArray := prog_14_method_73_code
def yX12_shapes : MethodName := ⟨RX12, "shapes", "(I)I"⟩
abbrev cX12_shapesOn : ByteArray := prog_14_method_74_code
def yX12_shapesOn : MethodName := ⟨RX12, "shapesOn", "(I)I"⟩
abbrev cX12_parted : ByteArray := prog_14_method_75_code
def yX12_parted : MethodName := ⟨RX12, "parted", "(IIIZ)I"⟩
abbrev cX12_isFirstOf : ByteArray := prog_14_method_76_code
def yX12_isFirstOf : MethodName := ⟨RX12, "isFirstOf", "(II)Z"⟩
abbrev cX12_waysOf : ByteArray := prog_14_method_77_code
def yX12_waysOf : MethodName := ⟨RX12, "waysOf", "(I)I"⟩
abbrev cX12_ways : ByteArray := prog_14_method_78_code
def yX12_ways : MethodName := ⟨RX12, "ways", "(II)I"⟩
abbrev cX12_fill : ByteArray := prog_14_method_79_code
def yX12_fill : MethodName := ⟨RX12, "fill", "(III)I"⟩
abbrev cX12_fewest : ByteArray := prog_14_method_80_code
def yX12_fewest : MethodName := ⟨RX12, "fewest", "(II)I"⟩
abbrev cX12_suspect : ByteArray := prog_14_method_81_code
def yX12_suspect : MethodName := ⟨RX12, "suspect", "(I)I"⟩
abbrev cX12_cut_ : ByteArray := prog_14_method_82_code
def yX12_cut_ : MethodName := ⟨RX12, "cut", "()I"⟩
abbrev cX12_isSide : ByteArray := prog_14_method_83_code
def yX12_isSide : MethodName := ⟨RX12, "isSide", "(II)Z"⟩
abbrev cX12_isLike : ByteArray := prog_14_method_84_code
def yX12_isLike : MethodName := ⟨RX12, "isLike", "(II)Z"⟩
abbrev cX12_same : ByteArray := prog_14_method_85_code
def yX12_same : MethodName := ⟨RX12, "same", "(II)I"⟩
abbrev cX12_put : ByteArray := prog_14_method_86_code
def yX12_put : MethodName := ⟨RX12, "put", "(I)V"⟩
abbrev cX12_putNumber : ByteArray := prog_14_method_87_code
def yX12_putNumber : MethodName := ⟨RX12, "putNumber", "(J)V"⟩
abbrev cX12_later : ByteArray := prog_14_method_88_code
def yX12_later : MethodName := ⟨RX12, "later", "(II)V"⟩
abbrev cX12_show : ByteArray := prog_14_method_89_code
def yX12_show : MethodName := ⟨RX12, "show", "(I)I"⟩
abbrev cX12_showPart : ByteArray := prog_14_method_90_code
def yX12_showPart : MethodName := ⟨RX12, "showPart", "(I)V"⟩
abbrev cX12_out : ByteArray := prog_14_method_91_code
def yX12_out : MethodName := ⟨RX12, "out", "(I)I"⟩
def RJ6 : String := "java/lang/Integer"
def TJ6 : u_T := fun k => match k with
  | _ => ("", "", "", false)
def tyJ6 : Nat → FieldType := fun k => match k with
  | _ => .int
abbrev wsJ60 : List Cond := u_ws RJ6 TJ6 0
theorem nmJ6 : ∀ a, a < 0 → ∀ b, b < 0 → a ≠ b → (TJ6 a).2.1 ≠ (TJ6 b).2.1 := by decide +kernel
theorem tyJ6_ok : ∀ k, k < 0 → parseFieldDescriptor (TJ6 k).2.2.1 = some (tyJ6 k) := by decide +kernel
abbrev cJ6_compare_7cf53 : ByteArray := prog_16_method_40_code
def yJ6_compare_7cf53 : MethodName := ⟨RJ6, "compare", "(II)I"⟩
abbrev cJ6_bitCount_0f7a4 : ByteArray := prog_16_method_49_code
def yJ6_bitCount_0f7a4 : MethodName := ⟨RJ6, "bitCount", "(I)I"⟩
def RJ9 : String := "java/lang/Math"
def TJ9 : u_T := fun k => match k with
  | _ => ("", "", "", false)
def tyJ9 : Nat → FieldType := fun k => match k with
  | _ => .int
abbrev wsJ90 : List Cond := u_ws RJ9 TJ9 0
theorem nmJ9 : ∀ a, a < 0 → ∀ b, b < 0 → a ≠ b → (TJ9 a).2.1 ≠ (TJ9 b).2.1 := by decide +kernel
theorem tyJ9_ok : ∀ k, k < 0 → parseFieldDescriptor (TJ9 k).2.2.1 = some (tyJ9 k) := by decide +kernel
abbrev cJ9_abs_0f7a4 : ByteArray := prog_17_method_59_code
def yJ9_abs_0f7a4 : MethodName := ⟨RJ9, "abs", "(I)I"⟩
abbrev cJ9_abs_067f4 : ByteArray := prog_17_method_61_code
def yJ9_abs_067f4 : MethodName := ⟨RJ9, "abs", "(J)J"⟩
abbrev cJ9_max_7cf53 : ByteArray := prog_17_method_65_code
def yJ9_max_7cf53 : MethodName := ⟨RJ9, "max", "(II)I"⟩
abbrev cJ9_min_7cf53 : ByteArray := prog_17_method_69_code
def yJ9_min_7cf53 : MethodName := ⟨RJ9, "min", "(II)I"⟩
def RJ0 : String := "java/lang/String"
def TJ0 : u_T := fun k => match k with
  | _ => ("", "", "", false)
def tyJ0 : Nat → FieldType := fun k => match k with
  | _ => .int
abbrev wsJ00 : List Cond := u_ws RJ0 TJ0 0
theorem nmJ0 : ∀ a, a < 0 → ∀ b, b < 0 → a ≠ b → (TJ0 a).2.1 ≠ (TJ0 b).2.1 := by decide +kernel
theorem tyJ0_ok : ∀ k, k < 0 → parseFieldDescriptor (TJ0 k).2.2.1 = some (tyJ0 k) := by decide +kernel
def RJ10 : String := "java/lang/System"
def TJ10 : u_T := fun k => match k with
  | _ => ("", "", "", false)
def tyJ10 : Nat → FieldType := fun k => match k with
  | _ => .int
abbrev wsJ100 : List Cond := u_ws RJ10 TJ10 0
theorem nmJ10 : ∀ a, a < 0 → ∀ b, b < 0 → a ≠ b → (TJ10 a).2.1 ≠ (TJ10 b).2.1 := by decide +kernel
theorem tyJ10_ok : ∀ k, k < 0 → parseFieldDescriptor (TJ10 k).2.2.1 = some (tyJ10 k) := by decide +kernel
def RJ7 : String := "java/util/Arrays"
def TJ7 : u_T := fun k => match k with
  | _ => ("", "", "", false)
def tyJ7 : Nat → FieldType := fun k => match k with
  | _ => .int
abbrev wsJ70 : List Cond := u_ws RJ7 TJ7 0
theorem nmJ7 : ∀ a, a < 0 → ∀ b, b < 0 → a ≠ b → (TJ7 a).2.1 ≠ (TJ7 b).2.1 := by decide +kernel
theorem tyJ7_ok : ∀ k, k < 0 → parseFieldDescriptor (TJ7 k).2.2.1 = some (tyJ7 k) := by decide +kernel
abbrev cJ7_fill_d0a16 : ByteArray := prog_22_method_101_code
def yJ7_fill_d0a16 : MethodName := ⟨RJ7, "fill", "([JJ)V"⟩
abbrev cJ7_fill_53178 : ByteArray := prog_22_method_103_code
def yJ7_fill_53178 : MethodName := ⟨RJ7, "fill", "([II)V"⟩
def RL : String := "MobileMakerLaw"
abbrev cL_out : ByteArray := method_3_code
def yL_out : MethodName := ⟨RL, "out", "(LMobileMaker;I[J)I"⟩
abbrev cL_law : ByteArray := code
def yL_law : MethodName := ⟨RL, "law", "([I)Z"⟩
abbrev vwCl : List vw_C := [(RX0, TX0, 11), (RX1, TX1, 3), (RX3, TX3, 11), (RX4, TX4, 14), (RX5, TX5, 3), (RX6, TX6, 16), (RX7, TX7, 3), (RX8, TX8, 5), (RX9, TX9, 3), (RX10, TX10, 10), (RX11, TX11, 13), (RX12, TX12, 58)]
def tbG : List Cond := lw_tbl.filter goodWord
theorem tbG_in {w : Cond} (h : w ∈ lw_tbl) (hg : goodWord w = true) : w ∈ tbG := List.mem_filter.mpr ⟨h, hg⟩
theorem tbG_good {w : Cond} (h : w ∈ tbG) : (w.onTables && w.keeps) = true ∨ ∃ ty, w = .arrayClass ty := good_of_word (List.mem_filter.mp h).2
end
section
/-! THE ABSTRACT HEAP: cells 1, 2 .. n-1 lie at b + 1, b + 2 ..; what a cell holds is a row of Ints (a reference: the cell's number, 0 is null) -/
abbrev I_ (x : Int) : Value := .int (Int32.ofInt x)
abbrev L_ (x : Int) : Value := .long (Int64.ofInt x)
abbrev i3 (x : Int) : Prop := -2147483648 ≤ x ∧ x ≤ 2147483647
abbrev i6 (x : Int) : Prop := -9223372036854775808 ≤ x ∧ x ≤ 9223372036854775807
/-- an abstract value, seen from b; retAddr: an address of its own -/
def cv (b : Nat) (v : Value) : Value := match v with
  | .ref 0 => .null
  | .ref (i + 1) => .ref (b + (i + 1))
  | .retAddr a => .ref a
  | v => v
/-- what a slot of kind t (0 int, 1 long, 2 reference) holds -/
def vA (t : Nat) (x : Int) : Value := match t with
  | 0 => I_ x
  | 1 => L_ x
  | _ => .ref x.toNat
def rg (t : Nat) (x : Int) : Prop := match t with
  | 0 => i3 x
  | 1 => i6 x
  | _ => 0 ≤ x
abbrev Shp : Type := Nat × Nat × (Nat → Option Int)
abbrev Hp : Type := Nat → Nat → Int
/-- kinds 0 to 11 are the classes, 12 byte[], 13 int[], 14 long[], 15 boolean[], 16 Part[], 17 Rod[], 18 Tray[], 19 int[][] -/
def ftab : List (List Nat) := [[2, 2, 0, 2, 0, 2, 2, 2, 0, 0, 0], [2, 0, 1], [2, 0, 2, 0, 0, 2, 2, 2, 2, 2, 2], [0, 0, 0, 2, 0, 0, 1, 0, 1, 1, 1, 1, 1, 1], [2, 2, 0], [0, 0, 0, 2, 0, 0, 1, 0, 1, 1, 0, 0, 0, 0, 2, 2], [0, 0, 0], [2, 0, 2, 2, 0], [0, 0, 2], [0, 0, 0, 2, 0, 0, 1, 0, 1, 1], [2, 2, 0, 0, 2, 2, 2, 2, 2, 2, 2, 0, 2], [0, 0, 2, 2, 2, 0, 2, 2, 2, 2, 2, 2, 2, 2, 2, 2, 2, 2, 2, 2, 2, 2, 2, 2, 2, 2, 0, 2, 2, 0, 2, 2, 0, 0, 0, 0, 2, 2, 2, 2, 2, 0, 0, 2, 2, 2, 2, 2, 2, 2, 2, 0, 2, 2, 2, 2, 2, 0]]
def fc (t k : Nat) : Nat := if t < 12 then (ftab.getD t []).getD k 0 else if t = 14 then 1 else if t < 16 then 0 else 2
def nf (t : Nat) : Nat := ([11, 3, 11, 14, 3, 16, 3, 5, 3, 10, 13, 58] : List Nat).getD t 0
def gv (S : Nat → Shp) (g : Hp) (i k : Nat) : Int := match (S i).2.2 k with
  | some v => v
  | none => g i k
def up2 (g : Hp) (i k : Nat) (x : Int) : Hp := fun j q => if j = i ∧ q = k then x else g j q
def upr (g : Hp) (i : Nat) (r : Nat → Int) : Hp := fun j q => if j = i then r q else g j q
def aty (dA : Nat → ClassId) : List (ClassId × FieldType) := [(dA 12, .byte), (dA 13, .int), (dA 14, .long), (dA 15, .boolean), (dA 16, .object "MobileMaker$Part"), (dA 17, .object "MobileMaker$Rod"), (dA 18, .object "MobileMaker$Tray"), (dA 19, .array .int)]
def cel (D : va_G) (dA : Nat → ClassId) (b : Nat) (S : Nat → Shp) (g : Hp) (i : Nat) (H : Heap) : Prop :=
  ((S i).1 < 12 ∧ t_OB (b + i) (D.1 (S i).1) (nf (S i).1) (D.2 (S i).1) H (fun k => cv b (vA (fc (S i).1 k) (gv S g i k)))) ∨
  (12 ≤ (S i).1 ∧ H[b + i]? = some (arrV (dA (S i).1) (S i).2.1 (fun j => cv b (vA (fc (S i).1 j) (g i j)))))
def Pic (D : va_G) (dA : Nat → ClassId) (b n : Nat) (S : Nat → Shp) (g : Hp) (H : Heap) : Prop :=
  H.size = b + n ∧ (∀ i, 0 < i → i < n → cel D dA b S g i H) ∧ ∀ i k, 0 < i → i < n → rg (fc (S i).1 k) (g i k)
/-- what the tables say of the classes -/
def KK (D : va_G) (dA : Nat → ClassId) (U : State) : Prop := va_K D vwCl (aty dA) U ∧ (va_Nc "MobileMaker$Weight" "MobileMaker$Rod" U ∧ va_Nc "MobileMaker$Plate" "MobileMaker$Rod" U) ∧ va_Nc "MobileMaker$Weight" "MobileMaker$Plate" U ∧ va_Nc "MobileMaker$Rod" "MobileMaker$Plate" U
theorem KK.moved {D : va_G} {dA : Nat → ClassId} {u U : State} (hvm : u.vm.Alike U.vm) (h : KK D dA u) : KK D dA U := ⟨va_K.moved hvm h.1, ⟨h.2.1.1.moved hvm, h.2.1.2.moved hvm⟩, h.2.2.1.moved hvm, h.2.2.2.moved hvm⟩
/-- a method: name, its class, bytes; locals, what it returns; cells and slots that it may make; its instructions -/
abbrev MI : Type := (MethodName × String × ByteArray) × (Nat × Option FieldType) × (Nat × Nat) × List (Nat × Instr × Nat)
abbrev Pst : Type := Option Value → Nat → (Nat → Shp) → Hp → Prop
def rop (v : Option Value) : Instr := match v with
  | none => .return_
  | some (.int _) => .ireturn
  | some (.long _) => .lreturn
  | some _ => .areturn
def rok (r : Option FieldType) (v : Option Value) : Prop := match r, v with
  | none, none => True
  | some .int, some (.int _) => True
  | some .boolean, some (.int x) => x = 0 ∨ x = 1
  | some .long, some (.long _) => True
  | some (.object _), some (.ref _) => True
  | _, _ => False
def Ctx (M : MI) (d : Nat) (p : Program) (R : Room) (s : State) (m : MethodId) (args : Array Value) (meth : Method) (c : Code) (b : Nat) (D : va_G) (dA : Nat → ClassId) : Prop :=
  p.tables.exec = Jvm.exec ∧ c.code = M.1.2.2 ∧ c.maxLocals = M.2.1.1 ∧ s.vm.findClass M.1.2.1 = some m.cls ∧ (∀ w ∈ tbG, w.before args s = true) ∧ KK D dA s ∧ b < s.heap.size ∧ meth.name = M.1.1.name ∧ (d ≤ R.frames ∧ 64 * d ≤ R.locals ∧ M.2.2.1.1 ≤ R.cells ∧ M.2.2.1.2 ≤ R.slots) ∧ ∀ q ∈ M.2.2.2, decode M.1.2.2 q.1 = .ok q.2
abbrev AA (b : Nat) : Nat → Prop := fun q => b < q
abbrev lmap (b : Nat) (L : List (Nat × Value)) : List (Nat × Value) := L.map (fun q => (q.1, cv b q.2))
def V (M : MI) (d pc : Nat) (L : List (Nat × Value)) (st : List Value) (n : Nat) (S : Nat → Shp) (g : Hp) (k z : Nat) (P : Pst) : Prop :=
  ∀ (p : Program) (l : Launch) (e : Env) (R : Room) (s : State) (m : MethodId) (args : Array Value) (below : List Frame) (meth : Method) (c : Code) (b : Nat) (D : va_G) (dA : Nat → ClassId) (Q : State → Prop),
    Ctx M d p R s m args meth c b D dA →
    (∀ (v : Option Value) (n' : Nat) (S' : Nat → Shp) (g' : Hp), P v n' S' g' → rok M.2.1.2 v → ∀ (H : Heap) (locs : List Loc) (ls : Array Slot) (pc k z : Nat), k ≤ M.2.2.1.1 → z ≤ M.2.2.1.2 → Pic D dA b n' S' g' H → va_S (AA b) s.heap H locs → decode M.1.2.2 pc = .ok (rop v, 1) → W p l e R s m args below meth c H locs k z Q (F0 m pc ls ((v.map (cv b)).toList))) →
    ∀ (H : Heap) (locs : List Loc) (ls : Array Slot), lv_has ls M.2.1.1 (lmap b L) → Pic D dA b n S g H → va_S (AA b) s.heap H locs →
      W p l e R s m args below meth c H locs k z Q (F0 m pc ls (st.map (cv b)))
def rmM (M : MI) (d : Nat) : Room := { frames := d, cells := M.2.2.1.1, slots := M.2.2.1.2, locals := 64 * d }
def wsM (M : MI) : List Cond := .code M.1.1 M.1.2.2 M.2.1.1 M.2.1.2 :: tbG
def PcM (b : Nat) (D : va_G) (dA : Nat → ClassId) (as : List Value) (n : Nat) (S : Nat → Shp) (g : Hp) : Array Value → State → Prop := fun a U => a = (as.map (cv b)).toArray ∧ Pic D dA b n S g U.heap ∧ KK D dA U ∧ 0 < n
def QcM (r : Option FieldType) (P : Pst) (b : Nat) (D : va_G) (dA : Nat → ClassId) : Array Value → State → Outcome → State → Prop := fun _ st oc t =>
  (∃ (v : Option Value) (n' : Nat) (S' : Nat → Shp) (g' : Hp), oc = .returned (v.map (cv b)) ∧ P v n' S' g' ∧ rok r v ∧ Pic D dA b n' S' g' t.heap) ∧ va_F (AA b) st t
def Runs (M : MI) (d : Nat) (as : List Value) (n : Nat) (S : Nat → Shp) (g : Hp) (P : Pst) : Prop :=
  ∀ (l : Launch) (b : Nat) (D : va_G) (dA : Nat → ClassId), Met l M.1.1 (wsM M) (rmM M d) (PcM b D dA as n S g) (QcM M.2.1.2 P b D dA) M.2.2.1.1 M.2.2.1.2 (AA b)
theorem cv_cat (b : Nat) (v : Value) (h : ∀ a, v ≠ .retAddr a) : (cv b v).category = v.category := by
  cases v with
  | ref a => cases a <;> rfl
  | retAddr a => exact absurd rfl (h a)
  | _ => rfl
theorem cv_cat2 (b : Nat) (v : Value) : (cv b v).category = 2 ↔ v.category = 2 := by
  cases v with
  | ref a => cases a <;> simp [cv, Value.category]
  | retAddr a => simp [cv, Value.category]
  | _ => simp [cv]
theorem cv_catb (b : Nat) (v : Value) : ((cv b v).category == 2) = (v.category == 2) := by
  rw [Bool.eq_iff_iff, beq_iff_eq, beq_iff_eq]
  exact cv_cat2 b v
theorem Ctx.dec {M : MI} {d : Nat} {p : Program} {R : Room} {s : State} {m : MethodId} {args : Array Value} {meth : Method} {c : Code} {b : Nat} {D : va_G} {dA : Nat → ClassId} (C : Ctx M d p R s m args meth c b D dA) {j pc len : Nat} {i : Instr} (h : M.2.2.2[j]? = some (pc, i, len)) : decode M.1.2.2 pc = .ok (i, len) :=
  C.2.2.2.2.2.2.2.2.2 (pc, i, len) (List.mem_of_getElem? h)
/-- a method's contract out of the walk of its body -/
theorem lv_args_map (b : Nat) : ∀ (as : List Value) (i : Nat), lv_args i (as.map (cv b)) = lmap b (lv_args i as)
  | [], _ => rfl
  | v :: vs, i => by
    show (i, cv b v) :: lv_args (if (cv b v).category = 2 then i + 2 else i + 1) (vs.map (cv b)) = (i, cv b v) :: lmap b (lv_args (if v.category = 2 then i + 2 else i + 1) vs)
    rw [lv_args_map b vs]
    by_cases h : v.category = 2
    · rw [if_pos h, if_pos ((cv_cat2 b v).mpr h)]
    · rw [if_neg h, if_neg (fun q => h ((cv_cat2 b v).mp q))]
theorem lg_len_map (b : Nat) (as : List Value) : (lg_sl (as.map (cv b))).length = (lg_sl as).length := by
  unfold lg_sl
  induction as with
  | nil => rfl
  | cons v vs ih =>
    simp only [List.map_cons, List.flatMap_cons, List.length_append]
    rw [ih]
    by_cases h : v.category = 2
    · rw [if_pos h, if_pos ((cv_cat2 b v).mpr h)]; rfl
    · rw [if_neg h, if_neg (fun q => h ((cv_cat2 b v).mp q))]; rfl
theorem rok_none {r : Option FieldType} (h : rok r none) : r = none := by
  cases r with
  | none => rfl
  | some t => cases t <;> exact h.elim
theorem rok_int {r : Option FieldType} {x : Int32} (h : rok r (some (.int x))) : ∃ ty, r = some ty ∧ narrow ty (.int x) = .int x := by
  cases r with
  | none => exact h.elim
  | some t =>
    cases t with
    | int => exact ⟨_, rfl, rfl⟩
    | boolean =>
      refine ⟨_, rfl, ?_⟩
      rcases h with rfl | rfl
      · rfl
      · rfl
    | _ => exact h.elim
theorem rok_long {r : Option FieldType} {x : Int64} (h : rok r (some (.long x))) : r = some .long := by
  cases r with
  | none => exact h.elim
  | some t =>
    cases t with
    | long => rfl
    | _ => exact h.elim
theorem rok_ref {r : Option FieldType} {x : Nat} (h : rok r (some (.ref x))) : ∃ nm, r = some (.object nm) := by
  cases r with
  | none => exact h.elim
  | some t =>
    cases t with
    | object nm => exact ⟨nm, rfl⟩
    | _ => exact h.elim
theorem cv_ref (b a : Nat) : cv b (.ref a) = .null ∨ ∃ q, cv b (.ref a) = .ref q := by
  cases a with
  | zero => exact Or.inl rfl
  | succ a => exact Or.inr ⟨_, rfl⟩
set_option maxHeartbeats 1000000 in
theorem Runs.of {M : MI} {d : Nat} {as : List Value} {n : Nat} {S : Nat → Shp} {g : Hp} {P : Pst} (hpl : plainName M.1.1.cls = true) (hcls : M.1.2.1 = M.1.1.cls) (hdec : ∀ q ∈ M.2.2.2, decode M.1.2.2 q.1 = .ok q.2) (hlen : (lg_sl as).length ≤ M.2.1.1) (hV : V M d 0 (lv_args 0 as) [] n S g 0 0 P) : Runs M d as n S g P := by
  intro l b D dA
  refine Met.ofW (cc := M.1.2.2) (maxL := M.2.1.1) (ret := M.2.1.2) hpl rfl ?_
  intro p e s m args below meth c s₁ B hml hv
  obtain ⟨rfl, hP, hK, hn⟩ := hv
  rw [lg_entry_eq]
  have hl := lv_entry (as.map (cv b)) (n := M.2.1.1) (by rw [lg_len_map]; exact hlen)
  rw [lv_args_map] at hl
  have hts := atoms_spec (ws := wsM M) B.pre
  have hnm := (name_of_methodNamed B.named B.method).1
  have hr := B.returns
  have hlocks := B.notSynchronized
  refine hV p l e _ s m _ below meth c b D dA _ ⟨B.exec, B.bytes, hml, by rw [hcls]; exact findClass_of_methodNamed B.named, fun w hw => hts w (List.mem_cons_of_mem _ hw), hK, by rw [hP.1]; omega, hnm, ⟨Nat.le_refl _, Nat.le_refl _, Nat.le_refl _, Nat.le_refl _⟩, hdec⟩ ?_ s.heap [] _ hl hP va_S.rf
  intro v n' S' g' hPv hrk H locs ls pc k z hk hz hPic hS hdg
  refine W.widen (k := M.2.2.1.1) (n := M.2.2.1.2) hk hz ?_
  have hQ : ∀ t : State, t.heap = H → s.WarmedH t.vm → QcM M.2.1.2 P b D dA (as.map (cv b)).toArray s (.returned (v.map (cv b))) t := fun t ht hW => ⟨⟨v, n', S', g', rfl, hPv, hrk, by rw [ht]; exact hPic⟩, hS.F ht⟩
  cases v with
  | none => exact W.vret B.exec B.bytes (hr.trans (rok_none hrk)) hQ hS.2.2 hdg
  | some w =>
    cases w with
    | int x =>
      obtain ⟨ty, e1, e2⟩ := rok_int hrk
      exact W.zret B.exec B.bytes (hr.trans e1) e2 hQ hS.2.2 hdg
    | long x => exact W.lret B.exec B.bytes (hr.trans (rok_long hrk)) hQ hS.2.2 hdg
    | ref x =>
      obtain ⟨nm, e1⟩ := rok_ref hrk
      exact W.aret B.exec B.bytes (hr.trans e1) (Or.inl ⟨nm, rfl⟩) (cv_ref b x) hQ hS.2.2 hdg
    | float x => exact absurd hrk (by cases M.2.1.2 with | none => exact id | some t => cases t <;> exact id)
    | double x => exact absurd hrk (by cases M.2.1.2 with | none => exact id | some t => cases t <;> exact id)
    | null => exact absurd hrk (by cases M.2.1.2 with | none => exact id | some t => cases t <;> exact id)
    | retAddr x => exact absurd hrk (by cases M.2.1.2 with | none => exact id | some t => cases t <;> exact id)
end
section
/-! ROWS: an instruction each, over the abstract heap -/
section VRows
variable {M : MI} {d pc : Nat} {L L' : List (Nat × Value)} {st : List Value} {n : Nat} {S : Nat → Shp} {g : Hp} {k z : Nat} {P : Pst}
theorem v_go {pc' : Nat} {st' : List Value} (h : V M d pc' L st' n S g k z P)
    (hs : ∀ (p : Program) (l : Launch) (e : Env) (R : Room) (s : State) (m : MethodId) (args : Array Value) (below : List Frame) (meth : Method) (c : Code) (b : Nat) (D : va_G) (dA : Nat → ClassId) (Q : State → Prop), Ctx M d p R s m args meth c b D dA → ∀ (H : Heap) (locs : List Loc) (ls : Array Slot), lv_has ls M.2.1.1 (lmap b L) →
      W p l e R s m args below meth c H locs k z Q (F0 m pc' ls (st'.map (cv b))) → W p l e R s m args below meth c H locs k z Q (F0 m pc ls (st.map (cv b)))) : V M d pc L st n S g k z P :=
  fun p l e R s m args below meth c b D dA Q C hq H locs ls hl hP hS => hs p l e R s m args below meth c b D dA Q C H locs ls hl (h p l e R s m args below meth c b D dA Q C hq H locs ls hl hP hS)
/-- the same with other locals -/
theorem v_goL {pc' : Nat} {st' : List Value} (h : V M d pc' L' st' n S g k z P)
    (hs : ∀ (p : Program) (l : Launch) (e : Env) (R : Room) (s : State) (m : MethodId) (args : Array Value) (below : List Frame) (meth : Method) (c : Code) (b : Nat) (D : va_G) (dA : Nat → ClassId) (Q : State → Prop), Ctx M d p R s m args meth c b D dA → ∀ (H : Heap) (locs : List Loc) (ls : Array Slot), lv_has ls M.2.1.1 (lmap b L) →
      (∀ ls' : Array Slot, lv_has ls' M.2.1.1 (lmap b L') → W p l e R s m args below meth c H locs k z Q (F0 m pc' ls' (st'.map (cv b)))) → W p l e R s m args below meth c H locs k z Q (F0 m pc ls (st.map (cv b)))) : V M d pc L st n S g k z P :=
  fun p l e R s m args below meth c b D dA Q C hq H locs ls hl hP hS => hs p l e R s m args below meth c b D dA Q C H locs ls hl (fun ls' hl' => h p l e R s m args below meth c b D dA Q C hq H locs ls' hl' hP hS)
theorem lmap_at {b : Nat} {ls : Array Slot} {N q i : Nat} {v : Value} (hl : lv_has ls N (lmap b L)) (h : L[q]? = some (i, v)) : ls[i]? = some (.val (cv b v)) :=
  lv_at hl q (by show (L.map _)[q]? = _; rw [List.getElem?_map, h]; rfl)
theorem lmap_sub {b : Nat} {ls : Array Slot} {N : Nat} (hl : lv_has ls N (lmap b L)) (ks : List Nat) (h : lv_pick L ks = L') : lv_has ls N (lmap b L') := by
  refine lv_sub hl ks ?_
  subst h
  unfold lv_pick lmap
  rw [List.map_filterMap]
  congr 1
  funext q
  rw [List.getElem?_map]
theorem v_loc (ks : List Nat) (hL : lv_pick L ks = L') (h : V M d pc L' st n S g k z P) : V M d pc L st n S g k z P :=
  fun p l e R s m args below meth c b D dA Q C hq H locs ls hl hP hS => h p l e R s m args below meth c b D dA Q C hq H locs ls (lmap_sub hl ks hL) hP hS
/-- locals behind a store -/
def sl1 (i : Nat) (v : Value) (L : List (Nat × Value)) : List (Nat × Value) := (i, v) :: L.filter (fun q => !(q.1 == i) && !(q.1 + 1 == i && q.2.category == 2))
def sl2 (i : Nat) (v : Value) (L : List (Nat × Value)) : List (Nat × Value) := (i, v) :: L.filter (fun q => !(q.1 == i) && (!(q.1 == i + 1) && !(q.1 + 1 == i && q.2.category == 2)))
theorem sl1_map (b i : Nat) (v : Value) (L : List (Nat × Value)) : (i, cv b v) :: (lmap b L).filter (fun q => !(q.1 == i) && !(q.1 + 1 == i && q.2.category == 2)) = lmap b (sl1 i v L) := by
  unfold sl1 lmap
  rw [List.map_cons, List.filter_map]
  congr 2
  apply List.filter_congr
  intro q _
  simp only [Function.comp, cv_catb]
theorem sl2_map (b i : Nat) (v : Value) (L : List (Nat × Value)) : (i, cv b v) :: (lmap b L).filter (fun q => !(q.1 == i) && (!(q.1 == i + 1) && !(q.1 + 1 == i && q.2.category == 2))) = lmap b (sl2 i v L) := by
  unfold sl2 lmap
  rw [List.map_cons, List.filter_map]
  congr 2
  apply List.filter_congr
  intro q _
  simp only [Function.comp, cv_catb]
theorem i3_of {x : Int} (h : i3 x) : (Int32.ofInt x).toInt = x := by
  rw [Int32.toInt_ofInt]
  exact Int.bmod_eq_of_le (by have := h.1; simp [Int32.size]; omega) (by have := h.2; simp [Int32.size]; omega)
theorem i6_of {x : Int} (h : i6 x) : (Int64.ofInt x).toInt = x := by
  rw [Int64.toInt_ofInt]
  exact Int.bmod_eq_of_le (by have := h.1; simp [Int64.size]; omega) (by have := h.2; simp [Int64.size]; omega)
theorem i3_eq {x y : Int} (hx : i3 x) (hy : i3 y) : Int32.ofInt x = Int32.ofInt y ↔ x = y := by
  rw [← Int32.toInt_inj, i3_of hx, i3_of hy]
theorem i3_le {x y : Int} (hx : i3 x) (hy : i3 y) : Int32.ofInt x ≤ Int32.ofInt y ↔ x ≤ y := by
  rw [Int32.le_iff_toInt_le, i3_of hx, i3_of hy]
theorem i3_lt {x y : Int} (hx : i3 x) (hy : i3 y) : Int32.ofInt x < Int32.ofInt y ↔ x < y := by
  rw [Int32.lt_iff_toInt_lt, i3_of hx, i3_of hy]
theorem i6_eq {x y : Int} (hx : i6 x) (hy : i6 y) : Int64.ofInt x = Int64.ofInt y ↔ x = y := by
  rw [← Int64.toInt_inj, i6_of hx, i6_of hy]
theorem i6_le {x y : Int} (hx : i6 x) (hy : i6 y) : Int64.ofInt x ≤ Int64.ofInt y ↔ x ≤ y := by
  rw [Int64.le_iff_toInt_le, i6_of hx, i6_of hy]
theorem i6_lt {x y : Int} (hx : i6 x) (hy : i6 y) : Int64.ofInt x < Int64.ofInt y ↔ x < y := by
  rw [Int64.lt_iff_toInt_lt, i6_of hx, i6_of hy]
theorem i3_0 : i3 0 := by decide
theorem v_iload_n {f : Fin 4} {i : Nat} {x : Int} (j q : Nat) (hd : M.2.2.2[j]? = some (pc, .iload_n f, 1)) (hi : (f : Nat) = i) (hl : L[q]? = some (i, I_ x)) (h : V M d (pc + 1) L (I_ x :: st) n S g k z P) : V M d pc L st n S g k z P :=
  v_go h fun p l e R s m args below meth c b D dA Q C H locs ls hls w => lv_iload_n C.1 C.2.1 (C.dec hd) hi (lmap_at hls hl) w
theorem v_iload {i : Nat} {x : Int} (j q : Nat) (hd : M.2.2.2[j]? = some (pc, .iload i, 2)) (hl : L[q]? = some (i, I_ x)) (h : V M d (pc + 2) L (I_ x :: st) n S g k z P) : V M d pc L st n S g k z P :=
  v_go h fun p l e R s m args below meth c b D dA Q C H locs ls hls w => lv_iload C.1 C.2.1 (C.dec hd) (lmap_at hls hl) w
theorem v_lload_n {f : Fin 4} {i : Nat} {x : Int} (j q : Nat) (hd : M.2.2.2[j]? = some (pc, .lload_n f, 1)) (hi : (f : Nat) = i) (hl : L[q]? = some (i, L_ x)) (h : V M d (pc + 1) L (L_ x :: st) n S g k z P) : V M d pc L st n S g k z P :=
  v_go h fun p l e R s m args below meth c b D dA Q C H locs ls hls w => lv_lload_n C.1 C.2.1 (C.dec hd) hi (lmap_at hls hl) w
theorem v_lload {i : Nat} {x : Int} (j q : Nat) (hd : M.2.2.2[j]? = some (pc, .lload i, 2)) (hl : L[q]? = some (i, L_ x)) (h : V M d (pc + 2) L (L_ x :: st) n S g k z P) : V M d pc L st n S g k z P :=
  v_go h fun p l e R s m args below meth c b D dA Q C H locs ls hls w => lv_lload C.1 C.2.1 (C.dec hd) (lmap_at hls hl) w
theorem v_iconst {v : Int} (j : Nat) (hd : M.2.2.2[j]? = some (pc, .iconst v, 1)) (h : V M d (pc + 1) L (I_ v :: st) n S g k z P) : V M d pc L st n S g k z P :=
  v_go h fun p l e R s m args below meth c b D dA Q C H locs ls hls w => lv_iconst C.1 C.2.1 (C.dec hd) rfl w
theorem v_bipush {v : Int} (j : Nat) (hd : M.2.2.2[j]? = some (pc, .bipush v, 2)) (hv : (Int8.ofInt v).toInt32 = Int32.ofInt v) (h : V M d (pc + 2) L (I_ v :: st) n S g k z P) : V M d pc L st n S g k z P :=
  v_go h fun p l e R s m args below meth c b D dA Q C H locs ls hls w => lv_bipush C.1 C.2.1 (C.dec hd) hv w
theorem v_sipush {v : Int} (j : Nat) (hd : M.2.2.2[j]? = some (pc, .sipush v, 3)) (hv : (Int16.ofInt v).toInt32 = Int32.ofInt v) (h : V M d (pc + 3) L (I_ v :: st) n S g k z P) : V M d pc L st n S g k z P :=
  v_go h fun p l e R s m args below meth c b D dA Q C H locs ls hls w => lv_sipush C.1 C.2.1 (C.dec hd) hv w
theorem v_lconst {f : Fin 2} {v : Int} (j : Nat) (hd : M.2.2.2[j]? = some (pc, .lconst f, 1)) (hv : Int64.ofNat (f : Nat) = Int64.ofInt v) (h : V M d (pc + 1) L (L_ v :: st) n S g k z P) : V M d pc L st n S g k z P :=
  v_go h fun p l e R s m args below meth c b D dA Q C H locs ls hls w => lv_lconst C.1 C.2.1 (C.dec hd) hv w
theorem v_ldc2 {index : Nat} {v : Int} (j : Nat) (hd : M.2.2.2[j]? = some (pc, .ldc2_w index, 3)) (hc : Cond.constantLong M.1.2.1 index (Int64.ofInt v) ∈ tbG) (h : V M d (pc + 3) L (L_ v :: st) n S g k z P) : V M d pc L st n S g k z P :=
  v_go h fun p l e R s m args below meth c b D dA Q C H locs ls hls w => W.ldc2 C.1 C.2.1 C.2.2.2.1 (C.2.2.2.2.1 _ hc) rfl (C.dec hd) w
theorem v_goto {off : Int} {tgt : Nat} (j : Nat) (hd : M.2.2.2[j]? = some (pc, .goto off, 3)) (ht : (pc : Int) + off = (tgt : Int)) (h : V M d tgt L st n S g k z P) : V M d pc L st n S g k z P :=
  v_go h fun p l e R s m args below meth c b D dA Q C H locs ls hls w => lv_goto C.1 C.2.1 (C.dec hd) ht w
end VRows
end
section
section VRows2
variable {M : MI} {d pc : Nat} {L L' : List (Nat × Value)} {st : List Value} {n : Nat} {S : Nat → Shp} {g : Hp} {k z : Nat} {P : Pst}
theorem v_iadd {x y : Int} (j : Nat) (hd : M.2.2.2[j]? = some (pc, .iadd, 1)) (h : V M d (pc + 1) L (I_ (x + y) :: st) n S g k z P) : V M d pc L (I_ y :: I_ x :: st) n S g k z P :=
  v_go h fun p l e R s m args below meth c b D dA Q C H locs ls hls w => lv_iadd C.1 C.2.1 (C.dec hd) (by rw [← Int32.ofInt_add]; exact w)
theorem v_ladd {x y : Int} (j : Nat) (hd : M.2.2.2[j]? = some (pc, .ladd, 1)) (h : V M d (pc + 1) L (L_ (x + y) :: st) n S g k z P) : V M d pc L (L_ y :: L_ x :: st) n S g k z P :=
  v_go h fun p l e R s m args below meth c b D dA Q C H locs ls hls w => lv_ladd C.1 C.2.1 (C.dec hd) (by rw [← Int64.ofInt_add]; exact w)
theorem v_isub {x y : Int} (j : Nat) (hd : M.2.2.2[j]? = some (pc, .isub, 1)) (h : V M d (pc + 1) L (I_ (x - y) :: st) n S g k z P) : V M d pc L (I_ y :: I_ x :: st) n S g k z P :=
  v_go h fun p l e R s m args below meth c b D dA Q C H locs ls hls w => lv_isub C.1 C.2.1 (C.dec hd) (by rw [← Int32.ofInt_sub]; exact w)
theorem v_lsub {x y : Int} (j : Nat) (hd : M.2.2.2[j]? = some (pc, .lsub, 1)) (h : V M d (pc + 1) L (L_ (x - y) :: st) n S g k z P) : V M d pc L (L_ y :: L_ x :: st) n S g k z P :=
  v_go h fun p l e R s m args below meth c b D dA Q C H locs ls hls w => lv_lsub C.1 C.2.1 (C.dec hd) (by rw [← Int64.ofInt_sub]; exact w)
theorem v_imul {x y : Int} (j : Nat) (hd : M.2.2.2[j]? = some (pc, .imul, 1)) (h : V M d (pc + 1) L (I_ (x * y) :: st) n S g k z P) : V M d pc L (I_ y :: I_ x :: st) n S g k z P :=
  v_go h fun p l e R s m args below meth c b D dA Q C H locs ls hls w => lv_imul C.1 C.2.1 (C.dec hd) (by rw [← Int32.ofInt_mul]; exact w)
theorem v_lmul {x y : Int} (j : Nat) (hd : M.2.2.2[j]? = some (pc, .lmul, 1)) (h : V M d (pc + 1) L (L_ (x * y) :: st) n S g k z P) : V M d pc L (L_ y :: L_ x :: st) n S g k z P :=
  v_go h fun p l e R s m args below meth c b D dA Q C H locs ls hls w => lv_lmul C.1 C.2.1 (C.dec hd) (by rw [← Int64.ofInt_mul]; exact w)
theorem v_lneg {x : Int} (j : Nat) (hd : M.2.2.2[j]? = some (pc, .lneg, 1)) (h : V M d (pc + 1) L (L_ (-x) :: st) n S g k z P) : V M d pc L (L_ x :: st) n S g k z P :=
  v_go h fun p l e R s m args below meth c b D dA Q C H locs ls hls w => lv_lneg C.1 C.2.1 (C.dec hd) (by rw [← Int64.ofInt_neg]; exact w)
theorem q3_div {x y : Int} (hx : i3 x) (hy : i3 y) : Int32.ofInt x / Int32.ofInt y = Int32.ofInt (x.tdiv y) := by
  apply Int32.toInt_inj.mp
  rw [Int32.toInt_div, i3_of hx, i3_of hy, Int32.toInt_ofInt]
theorem q6_div {x y : Int} (hx : i6 x) (hy : i6 y) : Int64.ofInt x / Int64.ofInt y = Int64.ofInt (x.tdiv y) := by
  apply Int64.toInt_inj.mp
  rw [Int64.toInt_div, i6_of hx, i6_of hy, Int64.toInt_ofInt]
theorem q_tmod (x y : Int) : x - x.tdiv y * y = x.tmod y := by
  have h := Int.tmod_add_mul_tdiv x y
  rw [Int.mul_comm] at h
  omega
theorem q3_rem {x y : Int} (hx : i3 x) (hy : i3 y) : Int32.ofInt x - Int32.ofInt x / Int32.ofInt y * Int32.ofInt y = Int32.ofInt (x.tmod y) := by
  rw [q3_div hx hy, ← Int32.ofInt_mul, ← Int32.ofInt_sub, q_tmod]
theorem q6_rem {x y : Int} (hx : i6 x) (hy : i6 y) : Int64.ofInt x - Int64.ofInt x / Int64.ofInt y * Int64.ofInt y = Int64.ofInt (x.tmod y) := by
  rw [q6_div hx hy, ← Int64.ofInt_mul, ← Int64.ofInt_sub, q_tmod]
theorem q3_ne {y : Int} (hy : i3 y) (h0 : y ≠ 0) : ¬ Int32.ofInt y = 0 := fun h => h0 ((i3_eq hy i3_0).mp h)
theorem i6_0 : i6 0 := by decide
theorem q6_ne {y : Int} (hy : i6 y) (h0 : y ≠ 0) : ¬ Int64.ofInt y = 0 := fun h => h0 ((i6_eq hy i6_0).mp h)
theorem v_idiv {x y : Int} (j : Nat) (hd : M.2.2.2[j]? = some (pc, .idiv, 1)) (hx : i3 x) (hy : i3 y) (h0 : y ≠ 0) (h : V M d (pc + 1) L (I_ (x.tdiv y) :: st) n S g k z P) : V M d pc L (I_ y :: I_ x :: st) n S g k z P :=
  v_go h fun p l e R s m args below meth c b D dA Q C H locs ls hls w => lv_idiv C.1 C.2.1 (C.dec hd) (q3_ne hy h0) (by rw [q3_div hx hy]; exact w)
theorem v_irem {x y : Int} (j : Nat) (hd : M.2.2.2[j]? = some (pc, .irem, 1)) (hx : i3 x) (hy : i3 y) (h0 : y ≠ 0) (h : V M d (pc + 1) L (I_ (x.tmod y) :: st) n S g k z P) : V M d pc L (I_ y :: I_ x :: st) n S g k z P :=
  v_go h fun p l e R s m args below meth c b D dA Q C H locs ls hls w => lv_irem C.1 C.2.1 (C.dec hd) (q3_ne hy h0) (by rw [q3_rem hx hy]; exact w)
theorem v_ldiv {x y : Int} (j : Nat) (hd : M.2.2.2[j]? = some (pc, .ldiv, 1)) (hx : i6 x) (hy : i6 y) (h0 : y ≠ 0) (h : V M d (pc + 1) L (L_ (x.tdiv y) :: st) n S g k z P) : V M d pc L (L_ y :: L_ x :: st) n S g k z P :=
  v_go h fun p l e R s m args below meth c b D dA Q C H locs ls hls w => lv_ldiv C.1 C.2.1 (C.dec hd) (q6_ne hy h0) (by rw [q6_div hx hy]; exact w)
theorem v_lrem {x y : Int} (j : Nat) (hd : M.2.2.2[j]? = some (pc, .lrem, 1)) (hx : i6 x) (hy : i6 y) (h0 : y ≠ 0) (h : V M d (pc + 1) L (L_ (x.tmod y) :: st) n S g k z P) : V M d pc L (L_ y :: L_ x :: st) n S g k z P :=
  v_go h fun p l e R s m args below meth c b D dA Q C H locs ls hls w => lv_lrem C.1 C.2.1 (C.dec hd) (q6_ne hy h0) (by rw [q6_rem hx hy]; exact w)
theorem cv_c1 (b : Nat) {v : Value} (h : ¬ v.category = 2) : (cv b v).category = 1 := by
  cases v with
  | ref a => cases a <;> rfl
  | long x => exact absurd rfl h
  | double x => exact absurd rfl h
  | _ => rfl
def and3 (x y : Int) : Int := (Int32.ofInt x &&& Int32.ofInt y).toInt
def or3 (x y : Int) : Int := (Int32.ofInt x ||| Int32.ofInt y).toInt
def xor3 (x y : Int) : Int := (Int32.ofInt x ^^^ Int32.ofInt y).toInt
def shl3 (x y : Int) : Int := (Int32.ofInt x <<< (Int32.ofInt y &&& 31)).toInt
def shr3 (x y : Int) : Int := (Int32.ofInt x >>> (Int32.ofInt y &&& 31)).toInt
def and6 (x y : Int) : Int := (Int64.ofInt x &&& Int64.ofInt y).toInt
def or6 (x y : Int) : Int := (Int64.ofInt x ||| Int64.ofInt y).toInt
def xor6 (x y : Int) : Int := (Int64.ofInt x ^^^ Int64.ofInt y).toInt
def shl6 (x y : Int) : Int := (Int64.ofInt x <<< ((Int32.ofInt y).toInt64 &&& 63)).toInt
theorem v_iand {x y : Int} (j : Nat) (hd : M.2.2.2[j]? = some (pc, .iand, 1)) (h : V M d (pc + 1) L (I_ (and3 x y) :: st) n S g k z P) : V M d pc L (I_ y :: I_ x :: st) n S g k z P :=
  v_go h fun p l e R s m args below meth c b D dA Q C H locs ls hls w => lv_iand C.1 C.2.1 (C.dec hd) (by rw [← Int32.ofInt_toInt (Int32.ofInt x &&& Int32.ofInt y)]; exact w)
theorem v_ior {x y : Int} (j : Nat) (hd : M.2.2.2[j]? = some (pc, .ior, 1)) (h : V M d (pc + 1) L (I_ (or3 x y) :: st) n S g k z P) : V M d pc L (I_ y :: I_ x :: st) n S g k z P :=
  v_go h fun p l e R s m args below meth c b D dA Q C H locs ls hls w => lv_ior C.1 C.2.1 (C.dec hd) (by rw [← Int32.ofInt_toInt (Int32.ofInt x ||| Int32.ofInt y)]; exact w)
theorem v_ixor {x y : Int} (j : Nat) (hd : M.2.2.2[j]? = some (pc, .ixor, 1)) (h : V M d (pc + 1) L (I_ (xor3 x y) :: st) n S g k z P) : V M d pc L (I_ y :: I_ x :: st) n S g k z P :=
  v_go h fun p l e R s m args below meth c b D dA Q C H locs ls hls w => lv_ixor C.1 C.2.1 (C.dec hd) (by rw [← Int32.ofInt_toInt (Int32.ofInt x ^^^ Int32.ofInt y)]; exact w)
theorem v_ishl {x y : Int} (j : Nat) (hd : M.2.2.2[j]? = some (pc, .ishl, 1)) (h : V M d (pc + 1) L (I_ (shl3 x y) :: st) n S g k z P) : V M d pc L (I_ y :: I_ x :: st) n S g k z P :=
  v_go h fun p l e R s m args below meth c b D dA Q C H locs ls hls w => lv_ishl C.1 C.2.1 (C.dec hd) (by rw [← Int32.ofInt_toInt (Int32.ofInt x <<< (Int32.ofInt y &&& 31))]; exact w)
theorem v_ishr {x y : Int} (j : Nat) (hd : M.2.2.2[j]? = some (pc, .ishr, 1)) (h : V M d (pc + 1) L (I_ (shr3 x y) :: st) n S g k z P) : V M d pc L (I_ y :: I_ x :: st) n S g k z P :=
  v_go h fun p l e R s m args below meth c b D dA Q C H locs ls hls w => lv_ishr C.1 C.2.1 (C.dec hd) (by rw [← Int32.ofInt_toInt (Int32.ofInt x >>> (Int32.ofInt y &&& 31))]; exact w)
theorem v_land {x y : Int} (j : Nat) (hd : M.2.2.2[j]? = some (pc, .land, 1)) (h : V M d (pc + 1) L (L_ (and6 x y) :: st) n S g k z P) : V M d pc L (L_ y :: L_ x :: st) n S g k z P :=
  v_go h fun p l e R s m args below meth c b D dA Q C H locs ls hls w => lv_land C.1 C.2.1 (C.dec hd) (by rw [← Int64.ofInt_toInt (Int64.ofInt x &&& Int64.ofInt y)]; exact w)
theorem v_lor {x y : Int} (j : Nat) (hd : M.2.2.2[j]? = some (pc, .lor, 1)) (h : V M d (pc + 1) L (L_ (or6 x y) :: st) n S g k z P) : V M d pc L (L_ y :: L_ x :: st) n S g k z P :=
  v_go h fun p l e R s m args below meth c b D dA Q C H locs ls hls w => lv_lor C.1 C.2.1 (C.dec hd) (by rw [← Int64.ofInt_toInt (Int64.ofInt x ||| Int64.ofInt y)]; exact w)
theorem v_lxor {x y : Int} (j : Nat) (hd : M.2.2.2[j]? = some (pc, .lxor, 1)) (h : V M d (pc + 1) L (L_ (xor6 x y) :: st) n S g k z P) : V M d pc L (L_ y :: L_ x :: st) n S g k z P :=
  v_go h fun p l e R s m args below meth c b D dA Q C H locs ls hls w => lv_lxor C.1 C.2.1 (C.dec hd) (by rw [← Int64.ofInt_toInt (Int64.ofInt x ^^^ Int64.ofInt y)]; exact w)
theorem v_lshl {x y : Int} (j : Nat) (hd : M.2.2.2[j]? = some (pc, .lshl, 1)) (h : V M d (pc + 1) L (L_ (shl6 x y) :: st) n S g k z P) : V M d pc L (I_ y :: L_ x :: st) n S g k z P :=
  v_go h fun p l e R s m args below meth c b D dA Q C H locs ls hls w => lv_lshl C.1 C.2.1 (C.dec hd) (Int64.ofInt_toInt _).symm w
theorem v_i2l {x : Int} (j : Nat) (hd : M.2.2.2[j]? = some (pc, .i2l, 1)) (hx : i3 x) (h : V M d (pc + 1) L (L_ x :: st) n S g k z P) : V M d pc L (I_ x :: st) n S g k z P :=
  v_go h fun p l e R s m args below meth c b D dA Q C H locs ls hls w => lv_i2l C.1 C.2.1 (C.dec hd) (by apply Int64.toInt_inj.mp; rw [Int32.toInt_toInt64, i3_of hx, i6_of ⟨by have := hx.1; omega, by have := hx.2; omega⟩]) w
theorem v_l2i {x : Int} (j : Nat) (hd : M.2.2.2[j]? = some (pc, .l2i, 1)) (h : V M d (pc + 1) L (I_ x :: st) n S g k z P) : V M d pc L (L_ x :: st) n S g k z P :=
  v_go h fun p l e R s m args below meth c b D dA Q C H locs ls hls w => lv_l2i C.1 C.2.1 (C.dec hd) Int64.toInt32_ofInt w
def c2s (x : Int) : Int := (Int32.ofInt x).toInt16.toInt
def c2b (x : Int) : Int := (Int32.ofInt x).toInt8.toInt
def c2c (x : Int) : Int := ((Int32.ofInt x).toUInt32 % 65536).toInt32.toInt
theorem v_i2s {x : Int} (j : Nat) (hd : M.2.2.2[j]? = some (pc, .i2s, 1)) (h : V M d (pc + 1) L (I_ (c2s x) :: st) n S g k z P) : V M d pc L (I_ x :: st) n S g k z P :=
  v_go h fun p l e R s m args below meth c b D dA Q C H locs ls hls w => lv_i2s C.1 C.2.1 (C.dec hd) (by unfold c2s; rw [← Int16.toInt_toInt32, Int32.ofInt_toInt]) w
theorem v_i2b {x : Int} (j : Nat) (hd : M.2.2.2[j]? = some (pc, .i2b, 1)) (h : V M d (pc + 1) L (I_ (c2b x) :: st) n S g k z P) : V M d pc L (I_ x :: st) n S g k z P :=
  v_go h fun p l e R s m args below meth c b D dA Q C H locs ls hls w => lv_i2b C.1 C.2.1 (C.dec hd) (by unfold c2b; rw [← Int8.toInt_toInt32, Int32.ofInt_toInt]) w
theorem v_i2c {x : Int} (j : Nat) (hd : M.2.2.2[j]? = some (pc, .i2c, 1)) (h : V M d (pc + 1) L (I_ (c2c x) :: st) n S g k z P) : V M d pc L (I_ x :: st) n S g k z P :=
  v_go h fun p l e R s m args below meth c b D dA Q C H locs ls hls w => lv_i2c C.1 C.2.1 (C.dec hd) (Int32.ofInt_toInt _).symm w
theorem v_icmp_eq {x y : Int} {off : Int} {tgt : Nat} (j : Nat) (hd : M.2.2.2[j]? = some (pc, .if_icmp .eq off, 3)) (ht : (pc : Int) + off = (tgt : Int)) (hx : i3 x) (hy : i3 y) (h1 : x = y → V M d tgt L st n S g k z P) (h2 : x ≠ y → V M d (pc + 3) L st n S g k z P) : V M d pc L (I_ y :: I_ x :: st) n S g k z P :=
  fun p l e R s m args below meth c b D dA Q C hq H locs ls hl hP hS => lv_icmp_eq C.1 C.2.1 (C.dec hd) ht (fun q => h1 ((i3_eq hx hy).mp q) p l e R s m args below meth c b D dA Q C hq H locs ls hl hP hS) (fun q => h2 (fun r => q ((i3_eq hx hy).mpr r)) p l e R s m args below meth c b D dA Q C hq H locs ls hl hP hS)
theorem v_if_eq {x : Int} {off : Int} {tgt : Nat} (j : Nat) (hd : M.2.2.2[j]? = some (pc, .ifCond .eq off, 3)) (ht : (pc : Int) + off = (tgt : Int)) (hx : i3 x) (h1 : x = 0 → V M d tgt L st n S g k z P) (h2 : x ≠ 0 → V M d (pc + 3) L st n S g k z P) : V M d pc L (I_ x :: st) n S g k z P :=
  fun p l e R s m args below meth c b D dA Q C hq H locs ls hl hP hS => lv_if_eq C.1 C.2.1 (C.dec hd) ht (fun q => h1 ((i3_eq hx i3_0).mp q) p l e R s m args below meth c b D dA Q C hq H locs ls hl hP hS) (fun q => h2 (fun r => q ((i3_eq hx i3_0).mpr r)) p l e R s m args below meth c b D dA Q C hq H locs ls hl hP hS)
theorem v_icmp_ne {x y : Int} {off : Int} {tgt : Nat} (j : Nat) (hd : M.2.2.2[j]? = some (pc, .if_icmp .ne off, 3)) (ht : (pc : Int) + off = (tgt : Int)) (hx : i3 x) (hy : i3 y) (h1 : x ≠ y → V M d tgt L st n S g k z P) (h2 : x = y → V M d (pc + 3) L st n S g k z P) : V M d pc L (I_ y :: I_ x :: st) n S g k z P :=
  fun p l e R s m args below meth c b D dA Q C hq H locs ls hl hP hS => lv_icmp_ne C.1 C.2.1 (C.dec hd) ht (fun q => h1 (fun r => q ((i3_eq hx hy).mpr r)) p l e R s m args below meth c b D dA Q C hq H locs ls hl hP hS) (fun q => h2 ((i3_eq hx hy).mp q) p l e R s m args below meth c b D dA Q C hq H locs ls hl hP hS)
theorem v_if_ne {x : Int} {off : Int} {tgt : Nat} (j : Nat) (hd : M.2.2.2[j]? = some (pc, .ifCond .ne off, 3)) (ht : (pc : Int) + off = (tgt : Int)) (hx : i3 x) (h1 : x ≠ 0 → V M d tgt L st n S g k z P) (h2 : x = 0 → V M d (pc + 3) L st n S g k z P) : V M d pc L (I_ x :: st) n S g k z P :=
  fun p l e R s m args below meth c b D dA Q C hq H locs ls hl hP hS => lv_if_ne C.1 C.2.1 (C.dec hd) ht (fun q => h1 (fun r => q ((i3_eq hx i3_0).mpr r)) p l e R s m args below meth c b D dA Q C hq H locs ls hl hP hS) (fun q => h2 ((i3_eq hx i3_0).mp q) p l e R s m args below meth c b D dA Q C hq H locs ls hl hP hS)
theorem v_icmp_lt {x y : Int} {off : Int} {tgt : Nat} (j : Nat) (hd : M.2.2.2[j]? = some (pc, .if_icmp .lt off, 3)) (ht : (pc : Int) + off = (tgt : Int)) (hx : i3 x) (hy : i3 y) (h1 : x < y → V M d tgt L st n S g k z P) (h2 : y ≤ x → V M d (pc + 3) L st n S g k z P) : V M d pc L (I_ y :: I_ x :: st) n S g k z P :=
  fun p l e R s m args below meth c b D dA Q C hq H locs ls hl hP hS => lv_icmp_lt C.1 C.2.1 (C.dec hd) ht (fun q => h1 ((i3_lt hx hy).mp q) p l e R s m args below meth c b D dA Q C hq H locs ls hl hP hS) (fun q => h2 (Int.not_lt.mp fun r => q ((i3_lt hx hy).mpr r)) p l e R s m args below meth c b D dA Q C hq H locs ls hl hP hS)
theorem v_if_lt {x : Int} {off : Int} {tgt : Nat} (j : Nat) (hd : M.2.2.2[j]? = some (pc, .ifCond .lt off, 3)) (ht : (pc : Int) + off = (tgt : Int)) (hx : i3 x) (h1 : x < 0 → V M d tgt L st n S g k z P) (h2 : 0 ≤ x → V M d (pc + 3) L st n S g k z P) : V M d pc L (I_ x :: st) n S g k z P :=
  fun p l e R s m args below meth c b D dA Q C hq H locs ls hl hP hS => lv_if_lt C.1 C.2.1 (C.dec hd) ht (fun q => h1 ((i3_lt hx i3_0).mp q) p l e R s m args below meth c b D dA Q C hq H locs ls hl hP hS) (fun q => h2 (Int.not_lt.mp fun r => q ((i3_lt hx i3_0).mpr r)) p l e R s m args below meth c b D dA Q C hq H locs ls hl hP hS)
theorem v_icmp_ge {x y : Int} {off : Int} {tgt : Nat} (j : Nat) (hd : M.2.2.2[j]? = some (pc, .if_icmp .ge off, 3)) (ht : (pc : Int) + off = (tgt : Int)) (hx : i3 x) (hy : i3 y) (h1 : y ≤ x → V M d tgt L st n S g k z P) (h2 : x < y → V M d (pc + 3) L st n S g k z P) : V M d pc L (I_ y :: I_ x :: st) n S g k z P :=
  fun p l e R s m args below meth c b D dA Q C hq H locs ls hl hP hS => lv_icmp_ge C.1 C.2.1 (C.dec hd) ht (fun q => h1 ((i3_le hy hx).mp q) p l e R s m args below meth c b D dA Q C hq H locs ls hl hP hS) (fun q => h2 (Int.not_le.mp fun r => q ((i3_le hy hx).mpr r)) p l e R s m args below meth c b D dA Q C hq H locs ls hl hP hS)
theorem v_if_ge {x : Int} {off : Int} {tgt : Nat} (j : Nat) (hd : M.2.2.2[j]? = some (pc, .ifCond .ge off, 3)) (ht : (pc : Int) + off = (tgt : Int)) (hx : i3 x) (h1 : 0 ≤ x → V M d tgt L st n S g k z P) (h2 : x < 0 → V M d (pc + 3) L st n S g k z P) : V M d pc L (I_ x :: st) n S g k z P :=
  fun p l e R s m args below meth c b D dA Q C hq H locs ls hl hP hS => lv_if_ge C.1 C.2.1 (C.dec hd) ht (fun q => h1 ((i3_le i3_0 hx).mp q) p l e R s m args below meth c b D dA Q C hq H locs ls hl hP hS) (fun q => h2 (Int.not_le.mp fun r => q ((i3_le i3_0 hx).mpr r)) p l e R s m args below meth c b D dA Q C hq H locs ls hl hP hS)
theorem v_icmp_gt {x y : Int} {off : Int} {tgt : Nat} (j : Nat) (hd : M.2.2.2[j]? = some (pc, .if_icmp .gt off, 3)) (ht : (pc : Int) + off = (tgt : Int)) (hx : i3 x) (hy : i3 y) (h1 : y < x → V M d tgt L st n S g k z P) (h2 : x ≤ y → V M d (pc + 3) L st n S g k z P) : V M d pc L (I_ y :: I_ x :: st) n S g k z P :=
  fun p l e R s m args below meth c b D dA Q C hq H locs ls hl hP hS => lv_icmp_gt C.1 C.2.1 (C.dec hd) ht (fun q => h1 ((i3_lt hy hx).mp q) p l e R s m args below meth c b D dA Q C hq H locs ls hl hP hS) (fun q => h2 (Int.not_lt.mp fun r => q ((i3_lt hy hx).mpr r)) p l e R s m args below meth c b D dA Q C hq H locs ls hl hP hS)
theorem v_if_gt {x : Int} {off : Int} {tgt : Nat} (j : Nat) (hd : M.2.2.2[j]? = some (pc, .ifCond .gt off, 3)) (ht : (pc : Int) + off = (tgt : Int)) (hx : i3 x) (h1 : 0 < x → V M d tgt L st n S g k z P) (h2 : x ≤ 0 → V M d (pc + 3) L st n S g k z P) : V M d pc L (I_ x :: st) n S g k z P :=
  fun p l e R s m args below meth c b D dA Q C hq H locs ls hl hP hS => lv_if_gt C.1 C.2.1 (C.dec hd) ht (fun q => h1 ((i3_lt i3_0 hx).mp q) p l e R s m args below meth c b D dA Q C hq H locs ls hl hP hS) (fun q => h2 (Int.not_lt.mp fun r => q ((i3_lt i3_0 hx).mpr r)) p l e R s m args below meth c b D dA Q C hq H locs ls hl hP hS)
theorem v_icmp_le {x y : Int} {off : Int} {tgt : Nat} (j : Nat) (hd : M.2.2.2[j]? = some (pc, .if_icmp .le off, 3)) (ht : (pc : Int) + off = (tgt : Int)) (hx : i3 x) (hy : i3 y) (h1 : x ≤ y → V M d tgt L st n S g k z P) (h2 : y < x → V M d (pc + 3) L st n S g k z P) : V M d pc L (I_ y :: I_ x :: st) n S g k z P :=
  fun p l e R s m args below meth c b D dA Q C hq H locs ls hl hP hS => lv_icmp_le C.1 C.2.1 (C.dec hd) ht (fun q => h1 ((i3_le hx hy).mp q) p l e R s m args below meth c b D dA Q C hq H locs ls hl hP hS) (fun q => h2 (Int.not_le.mp fun r => q ((i3_le hx hy).mpr r)) p l e R s m args below meth c b D dA Q C hq H locs ls hl hP hS)
theorem v_if_le {x : Int} {off : Int} {tgt : Nat} (j : Nat) (hd : M.2.2.2[j]? = some (pc, .ifCond .le off, 3)) (ht : (pc : Int) + off = (tgt : Int)) (hx : i3 x) (h1 : x ≤ 0 → V M d tgt L st n S g k z P) (h2 : 0 < x → V M d (pc + 3) L st n S g k z P) : V M d pc L (I_ x :: st) n S g k z P :=
  fun p l e R s m args below meth c b D dA Q C hq H locs ls hl hP hS => lv_if_le C.1 C.2.1 (C.dec hd) ht (fun q => h1 ((i3_le hx i3_0).mp q) p l e R s m args below meth c b D dA Q C hq H locs ls hl hP hS) (fun q => h2 (Int.not_le.mp fun r => q ((i3_le hx i3_0).mpr r)) p l e R s m args below meth c b D dA Q C hq H locs ls hl hP hS)
def cmp6 (x y : Int) : Int := if y < x then 1 else if x = y then 0 else -1
theorem cmp6_i3 (x y : Int) : i3 (cmp6 x y) := by
  unfold cmp6
  split
  · decide
  · split <;> decide
theorem lg_cmp6 {x y : Int} (hx : i6 x) (hy : i6 y) : lg_cmp (Int64.ofInt x) (Int64.ofInt y) = Int32.ofInt (cmp6 x y) := by
  unfold lg_cmp cmp6
  have h1 : (Int64.ofInt x > Int64.ofInt y) ↔ y < x := i6_lt hy hx
  have h2 := i6_eq hx hy
  by_cases a : y < x
  · rw [if_pos a, if_pos (h1.mpr a)]; rfl
  · rw [if_neg a, if_neg (fun q => a (h1.mp q))]
    by_cases b : x = y
    · rw [if_pos b, if_pos (h2.mpr b)]; rfl
    · rw [if_neg b, if_neg (fun q => b (h2.mp q))]; rfl
theorem v_lcmp {x y : Int} (j : Nat) (hd : M.2.2.2[j]? = some (pc, .lcmp, 1)) (hx : i6 x) (hy : i6 y) (h : V M d (pc + 1) L (I_ (cmp6 x y) :: st) n S g k z P) : V M d pc L (L_ y :: L_ x :: st) n S g k z P :=
  v_go h fun p l e R s m args below meth c b D dA Q C H locs ls hls w => W.lcmp C.1 C.2.1 (C.dec hd) (by rw [lg_cmp6 hx hy]; exact w)
theorem v_lif_eq {x y : Int} {off : Int} {tgt : Nat} (j : Nat) (hd : M.2.2.2[j]? = some (pc, .lcmp, 1)) (hd2 : M.2.2.2[j + 1]? = some (pc + 1, .ifCond .eq off, 3)) (ht : ((pc + 1 : Nat) : Int) + off = (tgt : Int)) (hx : i6 x) (hy : i6 y) (h1 : x = y → V M d tgt L st n S g k z P) (h2 : x ≠ y → V M d (pc + 4) L st n S g k z P) : V M d pc L (L_ y :: L_ x :: st) n S g k z P :=
  v_lcmp j hd hx hy (v_if_eq (j + 1) hd2 ht (cmp6_i3 x y) (fun q => h1 (by unfold cmp6 at q; (repeat' split at q) <;> omega)) (fun q => h2 (by unfold cmp6 at q; (repeat' split at q) <;> omega)))
theorem v_lif_ne {x y : Int} {off : Int} {tgt : Nat} (j : Nat) (hd : M.2.2.2[j]? = some (pc, .lcmp, 1)) (hd2 : M.2.2.2[j + 1]? = some (pc + 1, .ifCond .ne off, 3)) (ht : ((pc + 1 : Nat) : Int) + off = (tgt : Int)) (hx : i6 x) (hy : i6 y) (h1 : x ≠ y → V M d tgt L st n S g k z P) (h2 : x = y → V M d (pc + 4) L st n S g k z P) : V M d pc L (L_ y :: L_ x :: st) n S g k z P :=
  v_lcmp j hd hx hy (v_if_ne (j + 1) hd2 ht (cmp6_i3 x y) (fun q => h1 (by unfold cmp6 at q; (repeat' split at q) <;> omega)) (fun q => h2 (by unfold cmp6 at q; (repeat' split at q) <;> omega)))
theorem v_lif_lt {x y : Int} {off : Int} {tgt : Nat} (j : Nat) (hd : M.2.2.2[j]? = some (pc, .lcmp, 1)) (hd2 : M.2.2.2[j + 1]? = some (pc + 1, .ifCond .lt off, 3)) (ht : ((pc + 1 : Nat) : Int) + off = (tgt : Int)) (hx : i6 x) (hy : i6 y) (h1 : x < y → V M d tgt L st n S g k z P) (h2 : y ≤ x → V M d (pc + 4) L st n S g k z P) : V M d pc L (L_ y :: L_ x :: st) n S g k z P :=
  v_lcmp j hd hx hy (v_if_lt (j + 1) hd2 ht (cmp6_i3 x y) (fun q => h1 (by unfold cmp6 at q; (repeat' split at q) <;> omega)) (fun q => h2 (by unfold cmp6 at q; (repeat' split at q) <;> omega)))
theorem v_lif_ge {x y : Int} {off : Int} {tgt : Nat} (j : Nat) (hd : M.2.2.2[j]? = some (pc, .lcmp, 1)) (hd2 : M.2.2.2[j + 1]? = some (pc + 1, .ifCond .ge off, 3)) (ht : ((pc + 1 : Nat) : Int) + off = (tgt : Int)) (hx : i6 x) (hy : i6 y) (h1 : y ≤ x → V M d tgt L st n S g k z P) (h2 : x < y → V M d (pc + 4) L st n S g k z P) : V M d pc L (L_ y :: L_ x :: st) n S g k z P :=
  v_lcmp j hd hx hy (v_if_ge (j + 1) hd2 ht (cmp6_i3 x y) (fun q => h1 (by unfold cmp6 at q; (repeat' split at q) <;> omega)) (fun q => h2 (by unfold cmp6 at q; (repeat' split at q) <;> omega)))
theorem v_lif_gt {x y : Int} {off : Int} {tgt : Nat} (j : Nat) (hd : M.2.2.2[j]? = some (pc, .lcmp, 1)) (hd2 : M.2.2.2[j + 1]? = some (pc + 1, .ifCond .gt off, 3)) (ht : ((pc + 1 : Nat) : Int) + off = (tgt : Int)) (hx : i6 x) (hy : i6 y) (h1 : y < x → V M d tgt L st n S g k z P) (h2 : x ≤ y → V M d (pc + 4) L st n S g k z P) : V M d pc L (L_ y :: L_ x :: st) n S g k z P :=
  v_lcmp j hd hx hy (v_if_gt (j + 1) hd2 ht (cmp6_i3 x y) (fun q => h1 (by unfold cmp6 at q; (repeat' split at q) <;> omega)) (fun q => h2 (by unfold cmp6 at q; (repeat' split at q) <;> omega)))
theorem v_lif_le {x y : Int} {off : Int} {tgt : Nat} (j : Nat) (hd : M.2.2.2[j]? = some (pc, .lcmp, 1)) (hd2 : M.2.2.2[j + 1]? = some (pc + 1, .ifCond .le off, 3)) (ht : ((pc + 1 : Nat) : Int) + off = (tgt : Int)) (hx : i6 x) (hy : i6 y) (h1 : x ≤ y → V M d tgt L st n S g k z P) (h2 : y < x → V M d (pc + 4) L st n S g k z P) : V M d pc L (L_ y :: L_ x :: st) n S g k z P :=
  v_lcmp j hd hx hy (v_if_le (j + 1) hd2 ht (cmp6_i3 x y) (fun q => h1 (by unfold cmp6 at q; (repeat' split at q) <;> omega)) (fun q => h2 (by unfold cmp6 at q; (repeat' split at q) <;> omega)))
theorem v_aload_n {f : Fin 4} {i a : Nat} (j q : Nat) (hd : M.2.2.2[j]? = some (pc, .aload_n f, 1)) (hi : (f : Nat) = i) (hl : L[q]? = some (i, .ref a)) (h : V M d (pc + 1) L (.ref a :: st) n S g k z P) : V M d pc L st n S g k z P := by
  cases a with
  | zero => exact v_go h fun p l e R s m args below meth c b D dA Q C H locs ls hls w => lv_aload_nN C.1 C.2.1 (C.dec hd) hi (lmap_at hls hl) w
  | succ a => exact v_go h fun p l e R s m args below meth c b D dA Q C H locs ls hls w => lv_aload_n C.1 C.2.1 (C.dec hd) hi (lmap_at hls hl) w
theorem v_aload {i a : Nat} (j q : Nat) (hd : M.2.2.2[j]? = some (pc, .aload i, 2)) (hl : L[q]? = some (i, .ref a)) (h : V M d (pc + 2) L (.ref a :: st) n S g k z P) : V M d pc L st n S g k z P := by
  cases a with
  | zero => exact v_go h fun p l e R s m args below meth c b D dA Q C H locs ls hls w => lv_aloadN C.1 C.2.1 (C.dec hd) (lmap_at hls hl) w
  | succ a => exact v_go h fun p l e R s m args below meth c b D dA Q C H locs ls hls w => lv_aload C.1 C.2.1 (C.dec hd) (lmap_at hls hl) w
theorem v_null (j : Nat) (hd : M.2.2.2[j]? = some (pc, .aconst_null, 1)) (h : V M d (pc + 1) L (.ref 0 :: st) n S g k z P) : V M d pc L st n S g k z P :=
  v_go h fun p l e R s m args below meth c b D dA Q C H locs ls hls w => lv_null C.1 C.2.1 (C.dec hd) w
theorem v_ifnull {a : Nat} {off : Int} {tgt : Nat} (j : Nat) (hd : M.2.2.2[j]? = some (pc, .ifnull off, 3)) (ht : (pc : Int) + off = (tgt : Int)) (h1 : a = 0 → V M d tgt L st n S g k z P) (h2 : 0 < a → V M d (pc + 3) L st n S g k z P) : V M d pc L (.ref a :: st) n S g k z P := by
  cases a with
  | zero => exact v_go (h1 rfl) fun p l e R s m args below meth c b D dA Q C H locs ls hls w => lv_ifnullN C.1 C.2.1 (C.dec hd) ht w
  | succ a => exact v_go (h2 (Nat.succ_pos a)) fun p l e R s m args below meth c b D dA Q C H locs ls hls w => lv_ifnull C.1 C.2.1 (C.dec hd) w
theorem v_ifnonnull {a : Nat} {off : Int} {tgt : Nat} (j : Nat) (hd : M.2.2.2[j]? = some (pc, .ifnonnull off, 3)) (ht : (pc : Int) + off = (tgt : Int)) (h1 : 0 < a → V M d tgt L st n S g k z P) (h2 : a = 0 → V M d (pc + 3) L st n S g k z P) : V M d pc L (.ref a :: st) n S g k z P := by
  cases a with
  | zero => exact v_go (h2 rfl) fun p l e R s m args below meth c b D dA Q C H locs ls hls w => lv_ifnonnullN C.1 C.2.1 (C.dec hd) w
  | succ a => exact v_go (h1 (Nat.succ_pos a)) fun p l e R s m args below meth c b D dA Q C H locs ls hls w => lv_ifnonnull C.1 C.2.1 (C.dec hd) ht w
def rfo (b a : Nat) : Option Nat := if a = 0 then none else some (b + a)
theorem rfo_cv (b a : Nat) : cv b (.ref a) = va_rf (rfo b a) := by
  cases a with
  | zero => rfl
  | succ a => rfl
theorem rfo_eq (b : Nat) {x y : Nat} : rfo b x = rfo b y ↔ x = y := by
  unfold rfo
  by_cases hx : x = 0
  · by_cases hy : y = 0
    · simp [hx, hy]
    · simp [hx, hy]; omega
  · by_cases hy : y = 0
    · simp [hx, hy]
    · simp [hx, hy]
theorem v_acmp_eq {x y : Nat} {off : Int} {tgt : Nat} (j : Nat) (hd : M.2.2.2[j]? = some (pc, .if_acmp .eq off, 3)) (ht : (pc : Int) + off = (tgt : Int)) (h1 : x = y → V M d tgt L st n S g k z P) (h2 : x ≠ y → V M d (pc + 3) L st n S g k z P) : V M d pc L (.ref y :: .ref x :: st) n S g k z P := by
  intro p l e R s m args below meth c b D dA Q C hq H locs ls hl hP hS
  show W p l e R s m args below meth c H locs k z Q (F0 m pc ls (cv b (.ref y) :: cv b (.ref x) :: st.map (cv b)))
  rw [rfo_cv, rfo_cv]
  exact lv_acmp_eq C.1 C.2.1 (C.dec hd) ht (fun q => h1 ((rfo_eq b).mp q) p l e R s m args below meth c b D dA Q C hq H locs ls hl hP hS) (fun q => h2 (fun r => q ((rfo_eq b).mpr r)) p l e R s m args below meth c b D dA Q C hq H locs ls hl hP hS)
theorem v_acmp_ne {x y : Nat} {off : Int} {tgt : Nat} (j : Nat) (hd : M.2.2.2[j]? = some (pc, .if_acmp .ne off, 3)) (ht : (pc : Int) + off = (tgt : Int)) (h1 : x ≠ y → V M d tgt L st n S g k z P) (h2 : x = y → V M d (pc + 3) L st n S g k z P) : V M d pc L (.ref y :: .ref x :: st) n S g k z P := by
  intro p l e R s m args below meth c b D dA Q C hq H locs ls hl hP hS
  show W p l e R s m args below meth c H locs k z Q (F0 m pc ls (cv b (.ref y) :: cv b (.ref x) :: st.map (cv b)))
  rw [rfo_cv, rfo_cv]
  exact lv_acmp_ne C.1 C.2.1 (C.dec hd) ht (fun q => h1 (fun r => q ((rfo_eq b).mpr r)) p l e R s m args below meth c b D dA Q C hq H locs ls hl hP hS) (fun q => h2 ((rfo_eq b).mp q) p l e R s m args below meth c b D dA Q C hq H locs ls hl hP hS)
theorem v_dup {v : Value} (j : Nat) (hd : M.2.2.2[j]? = some (pc, .dup, 1)) (hv : ¬ v.category = 2) (h : V M d (pc + 1) L (v :: v :: st) n S g k z P) : V M d pc L (v :: st) n S g k z P :=
  v_go h fun p l e R s m args below meth c b D dA Q C H locs ls hls w => lv_dup C.1 C.2.1 (C.dec hd) (cv_c1 b hv) w
theorem v_dup2_2 {v : Value} (j : Nat) (hd : M.2.2.2[j]? = some (pc, .dup2, 1)) (hv : v.category = 2) (h : V M d (pc + 1) L (v :: v :: st) n S g k z P) : V M d pc L (v :: st) n S g k z P :=
  v_go h fun p l e R s m args below meth c b D dA Q C H locs ls hls w => lv_dup2_2 C.1 C.2.1 (C.dec hd) ((cv_cat2 b v).mpr hv) w
theorem v_dup2 {v u : Value} (j : Nat) (hd : M.2.2.2[j]? = some (pc, .dup2, 1)) (hv : ¬ v.category = 2) (hu : ¬ u.category = 2) (h : V M d (pc + 1) L (v :: u :: v :: u :: st) n S g k z P) : V M d pc L (v :: u :: st) n S g k z P :=
  v_go h fun p l e R s m args below meth c b D dA Q C H locs ls hls w => lv_dup2_11 C.1 C.2.1 (C.dec hd) (cv_c1 b hv) (cv_c1 b hu) w
theorem v_istore_n {f : Fin 4} {i : Nat} {x : Int} (j : Nat) (ks : List Nat) (hd : M.2.2.2[j]? = some (pc, .istore_n f, 1)) (hi : (f : Nat) = i) (hn : i < M.2.1.1) (hL : lv_pick (sl1 i (I_ x) L) ks = L') (h : V M d (pc + 1) L' st n S g k z P) : V M d pc L (I_ x :: st) n S g k z P :=
  v_goL h fun p l e R s m args below meth c b D dA Q C H locs ls hls w => lv_istore_n C.1 C.2.1 (C.dec hd) hi hls hn (sl1_map b i (I_ x) L) (fun ls' hl' => w ls' (lmap_sub hl' ks hL))
theorem v_istore {i : Nat} {x : Int} (j : Nat) (ks : List Nat) (hd : M.2.2.2[j]? = some (pc, .istore i, 2)) (hn : i < M.2.1.1) (hL : lv_pick (sl1 i (I_ x) L) ks = L') (h : V M d (pc + 2) L' st n S g k z P) : V M d pc L (I_ x :: st) n S g k z P :=
  v_goL h fun p l e R s m args below meth c b D dA Q C H locs ls hls w => lv_istore C.1 C.2.1 (C.dec hd) hls hn (sl1_map b i (I_ x) L) (fun ls' hl' => w ls' (lmap_sub hl' ks hL))
theorem v_lstore_n {f : Fin 4} {i : Nat} {x : Int} (j : Nat) (ks : List Nat) (hd : M.2.2.2[j]? = some (pc, .lstore_n f, 1)) (hi : (f : Nat) = i) (hn : i + 1 < M.2.1.1) (hL : lv_pick (sl2 i (L_ x) L) ks = L') (h : V M d (pc + 1) L' st n S g k z P) : V M d pc L (L_ x :: st) n S g k z P :=
  v_goL h fun p l e R s m args below meth c b D dA Q C H locs ls hls w => lv_lstore_n C.1 C.2.1 (C.dec hd) hi hls hn (sl2_map b i (L_ x) L) (fun ls' hl' => w ls' (lmap_sub hl' ks hL))
theorem v_lstore {i : Nat} {x : Int} (j : Nat) (ks : List Nat) (hd : M.2.2.2[j]? = some (pc, .lstore i, 2)) (hn : i + 1 < M.2.1.1) (hL : lv_pick (sl2 i (L_ x) L) ks = L') (h : V M d (pc + 2) L' st n S g k z P) : V M d pc L (L_ x :: st) n S g k z P :=
  v_goL h fun p l e R s m args below meth c b D dA Q C H locs ls hls w => lv_lstore C.1 C.2.1 (C.dec hd) hls hn (sl2_map b i (L_ x) L) (fun ls' hl' => w ls' (lmap_sub hl' ks hL))
theorem v_astore_n {f : Fin 4} {i a : Nat} (j : Nat) (ks : List Nat) (hd : M.2.2.2[j]? = some (pc, .astore_n f, 1)) (hi : (f : Nat) = i) (hn : i < M.2.1.1) (hL : lv_pick (sl1 i (.ref a) L) ks = L') (h : V M d (pc + 1) L' st n S g k z P) : V M d pc L (.ref a :: st) n S g k z P := by
  cases a with
  | zero => exact v_goL h fun p l e R s m args below meth c b D dA Q C H locs ls hls w => lv_astore_nN C.1 C.2.1 (C.dec hd) hi hls hn (sl1_map b i (.ref 0) L) (fun ls' hl' => w ls' (lmap_sub hl' ks hL))
  | succ a => exact v_goL h fun p l e R s m args below meth c b D dA Q C H locs ls hls w => lv_astore_n C.1 C.2.1 (C.dec hd) hi hls hn (sl1_map b i (.ref (a + 1)) L) (fun ls' hl' => w ls' (lmap_sub hl' ks hL))
theorem v_astore {i a : Nat} (j : Nat) (ks : List Nat) (hd : M.2.2.2[j]? = some (pc, .astore i, 2)) (hn : i < M.2.1.1) (hL : lv_pick (sl1 i (.ref a) L) ks = L') (h : V M d (pc + 2) L' st n S g k z P) : V M d pc L (.ref a :: st) n S g k z P := by
  cases a with
  | zero => exact v_goL h fun p l e R s m args below meth c b D dA Q C H locs ls hls w => lv_astoreN C.1 C.2.1 (C.dec hd) hls hn (sl1_map b i (.ref 0) L) (fun ls' hl' => w ls' (lmap_sub hl' ks hL))
  | succ a => exact v_goL h fun p l e R s m args below meth c b D dA Q C H locs ls hls w => lv_astore C.1 C.2.1 (C.dec hd) hls hn (sl1_map b i (.ref (a + 1)) L) (fun ls' hl' => w ls' (lmap_sub hl' ks hL))
theorem v_iinc {i : Nat} {t x : Int} (j q : Nat) (ks : List Nat) (hd : M.2.2.2[j]? = some (pc, .iinc i t, 3)) (hl : L[q]? = some (i, I_ x)) (hn : i < M.2.1.1) (hL : lv_pick (sl1 i (I_ (x + t)) L) ks = L') (h : V M d (pc + 3) L' st n S g k z P) : V M d pc L st n S g k z P :=
  v_goL h fun p l e R s m args below meth c b D dA Q C H locs ls hls w => lv_iinc C.1 C.2.1 (C.dec hd) hls (k := q) (by show (L.map _)[q]? = _; rw [List.getElem?_map, hl]; rfl) (Int32.ofInt_add x t).symm hn (sl1_map b i (I_ (x + t)) L) (fun ls' hl' => w ls' (lmap_sub hl' ks hL))
theorem v_tswIn {dflt lo hi : Int} {offs : Array Int} {len : Nat} {x : Int} {off : Int} {tgt : Nat} (j : Nat) (hd : M.2.2.2[j]? = some (pc, .tableswitch dflt lo hi offs, len)) (hx : i3 x) (h1 : lo ≤ x) (h2 : x ≤ hi) (ho : offs[(x - lo).toNat]? = some off) (ht : (pc : Int) + off = (tgt : Int)) (h : V M d tgt L st n S g k z P) : V M d pc L (I_ x :: st) n S g k z P :=
  v_go h fun p l e R s m args below meth c b D dA Q C H locs ls hls w => lv_tableIn C.1 C.2.1 (C.dec hd) (by rw [i3_of hx]; omega) (by rw [i3_of hx]; omega) (by rw [i3_of hx]; exact ho) ht w
theorem v_tswOut {dflt lo hi : Int} {offs : Array Int} {len : Nat} {x : Int} {tgt : Nat} (j : Nat) (hd : M.2.2.2[j]? = some (pc, .tableswitch dflt lo hi offs, len)) (hx : i3 x) (h1 : x < lo ∨ hi < x) (ht : (pc : Int) + dflt = (tgt : Int)) (h : V M d tgt L st n S g k z P) : V M d pc L (I_ x :: st) n S g k z P :=
  v_go h fun p l e R s m args below meth c b D dA Q C H locs ls hls w => lv_tableOut C.1 C.2.1 (C.dec hd) (by rw [i3_of hx]; exact h1) ht w
theorem v_ret {v : Option Value} {st' : List Value} (j : Nat) (hd : M.2.2.2[j]? = some (pc, rop v, 1)) (hk : k ≤ M.2.2.1.1) (hz : z ≤ M.2.2.1.2) (hr : rok M.2.1.2 v) (hs : v.toList = st') (h : P v n S g) : V M d pc L st' n S g k z P := by
  subst hs
  intro p l e R s m args below meth c b D dA Q C hq H locs ls hl hP hS
  have w := hq v n S g h hr H locs ls pc k z hk hz hP hS (C.dec hd)
  cases v with
  | none => exact w
  | some x => exact w
end VRows2
end
section
/-! ROWS OF THE HEAP -/
theorem Pic.obj {D : va_G} {dA : Nat → ClassId} {b n : Nat} {S : Nat → Shp} {g : Hp} {H : Heap} (h : Pic D dA b n S g H) {a ci : Nat} (ha : 0 < a ∧ a < n) (hs : (S a).1 = ci) (hc : ci < 12) : t_OB (b + a) (D.1 ci) (nf ci) (D.2 ci) H (fun k => cv b (vA (fc ci k) (gv S g a k))) := by
  rcases h.2.1 a ha.1 ha.2 with q | q
  · rw [hs] at q; exact q.2
  · exact absurd q.1 (by omega)
theorem Pic.arr {D : va_G} {dA : Nat → ClassId} {b n : Nat} {S : Nat → Shp} {g : Hp} {H : Heap} (h : Pic D dA b n S g H) {a t : Nat} (ha : 0 < a ∧ a < n) (hs : (S a).1 = t) (hc : 12 ≤ t) : H[b + a]? = some (arrV (dA t) (S a).2.1 (fun j => cv b (vA (fc t j) (g a j)))) := by
  rcases h.2.1 a ha.1 ha.2 with q | q
  · exact absurd q.1 (by omega)
  · rw [hs] at q; exact q.2
/-- what a cell is, where another one has changed -/
theorem Pic.set {D : va_G} {dA : Nat → ClassId} {b n : Nat} {S : Nat → Shp} {g : Hp} {H H' : Heap} (h : Pic D dA b n S g H) {a kf : Nat} {x : Int} (ha : 0 < a ∧ a < n) (hz : H'.size = H.size) (hk : ∀ q, q ≠ b + a → H'[q]? = H[q]?) (hc : cel D dA b S (up2 g a kf x) a H') (hr : rg (fc (S a).1 kf) x) : Pic D dA b n S (up2 g a kf x) H' := by
  refine ⟨hz.trans h.1, fun i h0 h1 => ?_, fun i k h0 h1 => ?_⟩
  · by_cases e : i = a
    · subst e; exact hc
    · have hu : ∀ k, up2 g a kf x i k = g i k := fun k => if_neg (fun q => e q.1)
      have hgv : ∀ k, gv S (up2 g a kf x) i k = gv S g i k := fun k => by unfold gv; rw [hu k]
      rcases h.2.1 i h0 h1 with q | q
      · refine Or.inl ⟨q.1, (q.2.kept (hk (b + i) (by omega))).to (fun k _ => by rw [hgv k])⟩
      · refine Or.inr ⟨q.1, ?_⟩
        rw [hk (b + i) (by omega), q.2]
        simp only [hu]
  · unfold up2
    by_cases e : i = a ∧ k = kf
    · rw [if_pos e, e.1, e.2]; exact hr
    · rw [if_neg e]; exact h.2.2 i k h0 h1
/-- where a field is found, and what the tables say of it -/
def FL (own : String) (idx ci kf : Nat) (fin : Bool) (ty : FieldType) : Prop := ∃ (C : String) (T : u_T) (N : Nat) (ref : String), vwCl[ci]? = some (C, T, N) ∧ nf ci = N ∧ kf < N ∧ (∀ w ∈ u_ws C T N, w ∈ tbG) ∧ Cond.fieldLink own idx ref (T kf).2.1 (T kf).2.2.1 ∈ tbG ∧ ((T kf).1 = ref ∨ Cond.sameField ref (T kf).1 (T kf).2.1 (T kf).2.2.1 ∈ tbG) ∧ (T kf).2.2.2 = fin ∧ parseFieldDescriptor (T kf).2.2.1 = some ty ∧ (∃ ty0 : Nat → FieldType, ∀ k, k < N → parseFieldDescriptor (T k).2.2.1 = some (ty0 k)) ∧ (∀ a, a < N → ∀ b, b < N → a ≠ b → (T a).2.1 ≠ (T b).2.1) ∧ (fin = true → (T kf).1 = own)
section VRows3
variable {M : MI} {d pc : Nat} {L L' : List (Nat × Value)} {st : List Value} {n : Nat} {S : Nat → Shp} {g : Hp} {k z : Nat} {P : Pst}
theorem v_get0 {a ci kf idx : Nat} {fin : Bool} {ty : FieldType} (j : Nat) (hd : M.2.2.2[j]? = some (pc, .getfield idx, 3)) (hf : FL M.1.2.1 idx ci kf fin ty) (ha : 0 < a ∧ a < n) (hs : (S a).1 = ci) (hc : ci < 12) (h : V M d (pc + 3) L (vA (fc ci kf) (gv S g a kf) :: st) n S g k z P) : V M d pc L (.ref a :: st) n S g k z P := by
  intro p l e R s m args below meth c b D dA Q C hq H locs ls hl hP hS
  have w := h p l e R s m args below meth c b D dA Q C hq H locs ls hl hP hS
  obtain ⟨Cn, T, N, ref, h1, h2, h3, h4, h5, h6, h7, h8, h9, h10, h11⟩ := hf
  obtain ⟨cell, q1, q2, q3, q4⟩ := hP.obj ha hs hc
  obtain ⟨hSl, hfc, kC, hkC, hkind⟩ := C.2.2.2.2.2.1.1.1 ci _ h1
  obtain ⟨cf, kf', fi, f, hi, hsl⟩ := hSl kf h3
  have hsame : s.fieldFound? ref (T kf).2.1 (T kf).2.2.1 = some (cf, kf', fi, f) := by
    rcases h6 with e | e
    · rw [← e]; exact hi
    · exact u_same (C.2.2.2.2.1 _ e) _ hi
  obtain ⟨a', rfl⟩ : ∃ a', a = a' + 1 := ⟨a - 1, by omega⟩
  refine W.getf C.1 C.2.1 C.2.2.2.1 (C.2.2.2.2.1 _ h5) hsame (u_facts hfc hkC (u_lays C.2.2.2.2.1 h4 h3) hi).1 q1 (by rw [q3]; exact fun h => by cases h) (v := cv b (vA (fc ci kf) (gv S g (a' + 1) kf))) ?_ rfl rfl (C.dec hd) w
  rw [hsl, q4 kf (by rw [h2]; exact h3)]
theorem v_getI {a ci kf idx : Nat} {fin : Bool} {ty : FieldType} (j : Nat) (hd : M.2.2.2[j]? = some (pc, .getfield idx, 3)) (hf : FL M.1.2.1 idx ci kf fin ty) (ha : 0 < a ∧ a < n) (hs : (S a).1 = ci) (hc : ci < 12) (ht : fc ci kf = 0) (hk : (S a).2.2 kf = none) (h : V M d (pc + 3) L (I_ (g a kf) :: st) n S g k z P) : V M d pc L (.ref a :: st) n S g k z P :=
  v_get0 j hd hf ha hs hc (by unfold gv; rw [ht, hk]; exact h)
theorem v_getL {a ci kf idx : Nat} {fin : Bool} {ty : FieldType} (j : Nat) (hd : M.2.2.2[j]? = some (pc, .getfield idx, 3)) (hf : FL M.1.2.1 idx ci kf fin ty) (ha : 0 < a ∧ a < n) (hs : (S a).1 = ci) (hc : ci < 12) (ht : fc ci kf = 1) (hk : (S a).2.2 kf = none) (h : V M d (pc + 3) L (L_ (g a kf) :: st) n S g k z P) : V M d pc L (.ref a :: st) n S g k z P :=
  v_get0 j hd hf ha hs hc (by unfold gv; rw [ht, hk]; exact h)
theorem v_getR {a ci kf idx : Nat} {fin : Bool} {ty : FieldType} (j : Nat) (hd : M.2.2.2[j]? = some (pc, .getfield idx, 3)) (hf : FL M.1.2.1 idx ci kf fin ty) (ha : 0 < a ∧ a < n) (hs : (S a).1 = ci) (hc : ci < 12) (ht : fc ci kf = 2) (hk : (S a).2.2 kf = none) (h : V M d (pc + 3) L (.ref (g a kf).toNat :: st) n S g k z P) : V M d pc L (.ref a :: st) n S g k z P :=
  v_get0 j hd hf ha hs hc (by unfold gv; rw [ht, hk]; exact h)
theorem v_getK {a ci kf idx r : Nat} {fin : Bool} {ty : FieldType} (j : Nat) (hd : M.2.2.2[j]? = some (pc, .getfield idx, 3)) (hf : FL M.1.2.1 idx ci kf fin ty) (ha : 0 < a ∧ a < n) (hs : (S a).1 = ci) (hc : ci < 12) (ht : fc ci kf = 2) (hk : (S a).2.2 kf = some (r : Int)) (h : V M d (pc + 3) L (.ref r :: st) n S g k z P) : V M d pc L (.ref a :: st) n S g k z P :=
  v_get0 j hd hf ha hs hc (by unfold gv; rw [ht, hk]; exact h)
set_option maxHeartbeats 1000000 in
theorem v_put0 {a ci kf idx : Nat} {ty : FieldType} {v : Value} {x : Int} (j : Nat) (hd : M.2.2.2[j]? = some (pc, .putfield idx, 3)) (hf : FL M.1.2.1 idx ci kf false ty) (ha : 0 < a ∧ a < n) (hs : (S a).1 = ci) (hc : ci < 12) (hv : vA (fc ci kf) x = v) (hr : rg (fc ci kf) x) (hk : (S a).2.2 kf = none) (hn : ∀ b, narrow ty (cv b v) = cv b v) (hfit : ∀ b, fits ty (cv b v) = true) (h : V M d (pc + 3) L st n S (up2 g a kf x) k z P) : V M d pc L (v :: .ref a :: st) n S g k z P := by
  intro p l e R s m args below meth c b D dA Q C hq H locs ls hl hP hS
  obtain ⟨Cn, T, N, ref, h1, h2, h3, h4, h5, h6, h7, h8, ⟨ty0, h9⟩, h10, h11⟩ := hf
  have hap := va_apart (own := M.1.2.1) C.2.2.2.2.1 h4 ty0 h9 h10 C.2.2.2.2.2.1.1 h1
  obtain ⟨cell, q1, q2, q3, q4⟩ := hP.obj ha hs hc
  obtain ⟨hSl, hfc, kC, hkC, hkind⟩ := C.2.2.2.2.2.1.1.1 ci _ h1
  obtain ⟨cf, kf', fi, f, hi, hsl⟩ := hSl kf h3
  have hsame : s.fieldFound? ref (T kf).2.1 (T kf).2.2.1 = some (cf, kf', fi, f) := by
    rcases h6 with e | e
    · rw [← e]; exact hi
    · exact u_same (C.2.2.2.2.1 _ e) _ hi
  have hlay := C.2.2.2.2.1 _ (h4 _ (u_in_lay h3))
  unfold u_lay at hlay
  rw [if_neg (by rw [h7]; decide)] at hlay
  have hst := (u_facts hfc hkC (u_lays C.2.2.2.2.1 h4 h3) hi).1
  have h6' := u_store hfc hkC hkind hlay hi h8 (hn b) (hfit b)
  have hkN : kf < nf ci := by rw [h2]; exact h3
  obtain ⟨a', rfl⟩ : ∃ a', a = a' + 1 := ⟨a - 1, by omega⟩
  refine W.putK C.1 C.2.1 (f := f) (v := cv b v) (a := b + (a' + 1)) ⟨C.2.2.2.1, C.2.2.2.2.1 _ h5, ⟨_, _, _, hsame⟩, hst⟩ (by rw [q2]; exact h6') q1 q3 (by rw [hsl]; exact k2_hasslot (q4 kf hkN)) rfl rfl (C.dec hd) fun H' e1 e2 e3 => ?_
  rw [hsl] at e1 ⊢
  have hnew : t_OB (b + (a' + 1)) (D.1 ci) (nf ci) (D.2 ci) H' (updV (fun k => cv b (vA (fc ci k) (gv S g (a' + 1) k))) kf (cv b v)) := ⟨_, e1, q2, q3, t_set q4 (by rw [h2]; exact hap) hkN (cv b v)⟩
  refine h p l e R s m args below meth c b D dA Q C hq H' _ ls hl (hP.set ha e2 e3 (Or.inl ⟨by rw [hs]; exact hc, ?_⟩) (by rw [hs]; exact hr)) (hS.put e2 e3 (by show b < b + (a' + 1); omega))
  rw [hs]
  refine hnew.to (fun q _ => ?_)
  unfold updV
  by_cases e : q = kf
  · subst e
    rw [if_pos rfl]
    have e9 : gv S (up2 g (a' + 1) q x) (a' + 1) q = x := by unfold gv; rw [hk]; exact if_pos ⟨rfl, rfl⟩
    rw [e9, hv]
  · rw [if_neg e]
    have e9 : gv S (up2 g (a' + 1) kf x) (a' + 1) q = gv S g (a' + 1) q := by unfold gv; rw [show up2 g (a' + 1) kf x (a' + 1) q = g (a' + 1) q from if_neg (fun r => e r.2)]
    rw [e9]
set_option maxHeartbeats 1000000 in
theorem v_putF0 {a ci kf idx : Nat} {ty : FieldType} {v : Value} {x : Int} (j : Nat) (hd : M.2.2.2[j]? = some (pc, .putfield idx, 3)) (hf : FL M.1.2.1 idx ci kf true ty) (ha : 0 < a ∧ a < n) (hs : (S a).1 = ci) (hc : ci < 12) (hv : vA (fc ci kf) x = v) (hr : rg (fc ci kf) x) (hk : (S a).2.2 kf = none) (hin : M.1.1.name = "<init>") (hn : ∀ b, narrow ty (cv b v) = cv b v) (hfit : ∀ b, fits ty (cv b v) = true) (h : V M d (pc + 3) L st n S (up2 g a kf x) k z P) : V M d pc L (v :: .ref a :: st) n S g k z P := by
  intro p l e R s m args below meth c b D dA Q C hq H locs ls hl hP hS
  obtain ⟨Cn, T, N, ref, h1, h2, h3, h4, h5, h6, h7, h8, ⟨ty0, h9⟩, h10, h11⟩ := hf
  have hap := va_apart (own := M.1.2.1) C.2.2.2.2.1 h4 ty0 h9 h10 C.2.2.2.2.2.1.1 h1
  obtain ⟨cell, q1, q2, q3, q4⟩ := hP.obj ha hs hc
  obtain ⟨hSl, hfc, kC, hkC, hkind⟩ := C.2.2.2.2.2.1.1.1 ci _ h1
  obtain ⟨cf, kf', fi, f, hi, hsl⟩ := hSl kf h3
  have hsame : s.fieldFound? ref (T kf).2.1 (T kf).2.2.1 = some (cf, kf', fi, f) := by
    rcases h6 with e | e
    · rw [← e]; exact hi
    · exact u_same (C.2.2.2.2.1 _ e) _ hi
  have hlay := C.2.2.2.2.1 _ (h4 _ (u_in_lay h3))
  unfold u_lay at hlay
  rw [if_pos h7] at hlay
  have hst := (u_facts hfc hkC (u_lays C.2.2.2.2.1 h4 h3) hi).1
  have hcf : m.cls = cf := by
    obtain ⟨_, _, c', _, _, _, -, -, hf', -, -, -, hown2, -⟩ := Cond.laysFinal_spec hlay
    have e1 : c' = cf := by have := hi.symm.trans hf'; simp at this; exact this.1.symm
    rw [h11 rfl] at hown2
    rw [← e1]; exact Option.some.inj (C.2.2.2.1.symm.trans hown2)
  have h6' := u_fits hfc hkC hkind (Or.inr hlay) hi h8 (hn b) (hfit b)
  have hkN : kf < nf ci := by rw [h2]; exact h3
  obtain ⟨a', rfl⟩ : ∃ a', a = a' + 1 := ⟨a - 1, by omega⟩
  refine W.putFinK C.1 C.2.1 (v := cv b v) (a := b + (a' + 1)) C.2.2.2.1 (C.2.2.2.2.1 _ h5) hsame hst hcf (C.2.2.2.2.2.2.2.1.trans hin) (by rw [q2]; exact h6') q1 q3 (by rw [hsl]; exact k2_hasslot (q4 kf hkN)) rfl rfl (C.dec hd) fun H' e1 e2 e3 => ?_
  rw [hsl] at e1 ⊢
  have hnew : t_OB (b + (a' + 1)) (D.1 ci) (nf ci) (D.2 ci) H' (updV (fun k => cv b (vA (fc ci k) (gv S g (a' + 1) k))) kf (cv b v)) := ⟨_, e1, q2, q3, t_set q4 (by rw [h2]; exact hap) hkN (cv b v)⟩
  refine h p l e R s m args below meth c b D dA Q C hq H' _ ls hl (hP.set ha e2 e3 (Or.inl ⟨by rw [hs]; exact hc, ?_⟩) (by rw [hs]; exact hr)) (hS.put e2 e3 (by show b < b + (a' + 1); omega))
  rw [hs]
  refine hnew.to (fun q _ => ?_)
  unfold updV
  by_cases e : q = kf
  · subst e
    rw [if_pos rfl]
    have e9 : gv S (up2 g (a' + 1) q x) (a' + 1) q = x := by unfold gv; rw [hk]; exact if_pos ⟨rfl, rfl⟩
    rw [e9, hv]
  · rw [if_neg e]
    have e9 : gv S (up2 g (a' + 1) kf x) (a' + 1) q = gv S g (a' + 1) q := by unfold gv; rw [show up2 g (a' + 1) kf x (a' + 1) q = g (a' + 1) q from if_neg (fun r => e r.2)]
    rw [e9]
theorem v_putI {a ci kf idx : Nat} {x : Int} (j : Nat) (hd : M.2.2.2[j]? = some (pc, .putfield idx, 3)) (hf : FL M.1.2.1 idx ci kf false .int) (ha : 0 < a ∧ a < n) (hs : (S a).1 = ci) (hc : ci < 12) (ht : fc ci kf = 0) (hk : (S a).2.2 kf = none) (hx : i3 x) (h : V M d (pc + 3) L st n S (up2 g a kf x) k z P) : V M d pc L (I_ x :: .ref a :: st) n S g k z P :=
  v_put0 j hd hf ha hs hc (by rw [ht]; rfl) (by rw [ht]; exact hx) hk (fun _ => rfl) (fun _ => rfl) h
theorem v_putZ {a ci kf idx : Nat} {x : Int} (j : Nat) (hd : M.2.2.2[j]? = some (pc, .putfield idx, 3)) (hf : FL M.1.2.1 idx ci kf false .boolean) (ha : 0 < a ∧ a < n) (hs : (S a).1 = ci) (hc : ci < 12) (ht : fc ci kf = 0) (hk : (S a).2.2 kf = none) (hx : x = 0 ∨ x = 1) (h : V M d (pc + 3) L st n S (up2 g a kf x) k z P) : V M d pc L (I_ x :: .ref a :: st) n S g k z P :=
  v_put0 j hd hf ha hs hc (by rw [ht]; rfl) (by rw [ht]; show i3 x; rcases hx with rfl | rfl <;> decide) hk (fun _ => by rcases hx with rfl | rfl <;> rfl) (fun _ => by rcases hx with rfl | rfl <;> rfl) h
theorem v_putL {a ci kf idx : Nat} {x : Int} (j : Nat) (hd : M.2.2.2[j]? = some (pc, .putfield idx, 3)) (hf : FL M.1.2.1 idx ci kf false .long) (ha : 0 < a ∧ a < n) (hs : (S a).1 = ci) (hc : ci < 12) (ht : fc ci kf = 1) (hk : (S a).2.2 kf = none) (hx : i6 x) (h : V M d (pc + 3) L st n S (up2 g a kf x) k z P) : V M d pc L (L_ x :: .ref a :: st) n S g k z P :=
  v_put0 j hd hf ha hs hc (by rw [ht]; rfl) (by rw [ht]; exact hx) hk (fun _ => rfl) (fun _ => rfl) h
theorem v_putR {a ci kf idx r : Nat} {nm : String} (j : Nat) (hd : M.2.2.2[j]? = some (pc, .putfield idx, 3)) (hf : FL M.1.2.1 idx ci kf false (.object nm)) (ha : 0 < a ∧ a < n) (hs : (S a).1 = ci) (hc : ci < 12) (ht : fc ci kf = 2) (hk : (S a).2.2 kf = none) (h : V M d (pc + 3) L st n S (up2 g a kf (r : Int)) k z P) : V M d pc L (.ref r :: .ref a :: st) n S g k z P :=
  v_put0 j hd hf ha hs hc (by rw [ht]; rfl) (by rw [ht]; exact Int.natCast_nonneg r) hk (fun _ => by cases r <;> rfl) (fun _ => by cases r <;> rfl) h
theorem v_putFI {a ci kf idx : Nat} {x : Int} (j : Nat) (hd : M.2.2.2[j]? = some (pc, .putfield idx, 3)) (hf : FL M.1.2.1 idx ci kf true .int) (ha : 0 < a ∧ a < n) (hs : (S a).1 = ci) (hc : ci < 12) (ht : fc ci kf = 0) (hk : (S a).2.2 kf = none) (hin : M.1.1.name = "<init>") (hx : i3 x) (h : V M d (pc + 3) L st n S (up2 g a kf x) k z P) : V M d pc L (I_ x :: .ref a :: st) n S g k z P :=
  v_putF0 j hd hf ha hs hc (by rw [ht]; rfl) (by rw [ht]; exact hx) hk hin (fun _ => rfl) (fun _ => rfl) h
theorem v_putFZ {a ci kf idx : Nat} {x : Int} (j : Nat) (hd : M.2.2.2[j]? = some (pc, .putfield idx, 3)) (hf : FL M.1.2.1 idx ci kf true .boolean) (ha : 0 < a ∧ a < n) (hs : (S a).1 = ci) (hc : ci < 12) (ht : fc ci kf = 0) (hk : (S a).2.2 kf = none) (hin : M.1.1.name = "<init>") (hx : x = 0 ∨ x = 1) (h : V M d (pc + 3) L st n S (up2 g a kf x) k z P) : V M d pc L (I_ x :: .ref a :: st) n S g k z P :=
  v_putF0 j hd hf ha hs hc (by rw [ht]; rfl) (by rw [ht]; show i3 x; rcases hx with rfl | rfl <;> decide) hk hin (fun _ => by rcases hx with rfl | rfl <;> rfl) (fun _ => by rcases hx with rfl | rfl <;> rfl) h
theorem v_putFL {a ci kf idx : Nat} {x : Int} (j : Nat) (hd : M.2.2.2[j]? = some (pc, .putfield idx, 3)) (hf : FL M.1.2.1 idx ci kf true .long) (ha : 0 < a ∧ a < n) (hs : (S a).1 = ci) (hc : ci < 12) (ht : fc ci kf = 1) (hk : (S a).2.2 kf = none) (hin : M.1.1.name = "<init>") (hx : i6 x) (h : V M d (pc + 3) L st n S (up2 g a kf x) k z P) : V M d pc L (L_ x :: .ref a :: st) n S g k z P :=
  v_putF0 j hd hf ha hs hc (by rw [ht]; rfl) (by rw [ht]; exact hx) hk hin (fun _ => rfl) (fun _ => rfl) h
theorem v_putFR {a ci kf idx r : Nat} {nm : String} (j : Nat) (hd : M.2.2.2[j]? = some (pc, .putfield idx, 3)) (hf : FL M.1.2.1 idx ci kf true (.object nm)) (ha : 0 < a ∧ a < n) (hs : (S a).1 = ci) (hc : ci < 12) (ht : fc ci kf = 2) (hk : (S a).2.2 kf = none) (hin : M.1.1.name = "<init>") (h : V M d (pc + 3) L st n S (up2 g a kf (r : Int)) k z P) : V M d pc L (.ref r :: .ref a :: st) n S g k z P :=
  v_putF0 j hd hf ha hs hc (by rw [ht]; rfl) (by rw [ht]; exact Int.natCast_nonneg r) hk hin (fun _ => by cases r <;> rfl) (fun _ => by cases r <;> rfl) h
theorem v_putA {a ci kf idx r : Nat} {et : FieldType} (j : Nat) (hd : M.2.2.2[j]? = some (pc, .putfield idx, 3)) (hf : FL M.1.2.1 idx ci kf false (.array et)) (ha : 0 < a ∧ a < n) (hs : (S a).1 = ci) (hc : ci < 12) (ht : fc ci kf = 2) (hk : (S a).2.2 kf = none) (h : V M d (pc + 3) L st n S (up2 g a kf (r : Int)) k z P) : V M d pc L (.ref r :: .ref a :: st) n S g k z P :=
  v_put0 j hd hf ha hs hc (by rw [ht]; rfl) (by rw [ht]; exact Int.natCast_nonneg r) hk (fun _ => by cases r <;> rfl) (fun _ => by cases r <;> rfl) h
theorem v_putFA {a ci kf idx r : Nat} {et : FieldType} (j : Nat) (hd : M.2.2.2[j]? = some (pc, .putfield idx, 3)) (hf : FL M.1.2.1 idx ci kf true (.array et)) (ha : 0 < a ∧ a < n) (hs : (S a).1 = ci) (hc : ci < 12) (ht : fc ci kf = 2) (hk : (S a).2.2 kf = none) (hin : M.1.1.name = "<init>") (h : V M d (pc + 3) L st n S (up2 g a kf (r : Int)) k z P) : V M d pc L (.ref r :: .ref a :: st) n S g k z P :=
  v_putF0 j hd hf ha hs hc (by rw [ht]; rfl) (by rw [ht]; exact Int.natCast_nonneg r) hk hin (fun _ => by cases r <;> rfl) (fun _ => by cases r <;> rfl) h
end VRows3
end
section
/-! ROWS OF ARRAYS -/
theorem ixN {x : Int} {N : Nat} (h : 0 ≤ x ∧ x < (N : Int)) (hN : N ≤ 100000) : vp_in (Int32.ofInt x) N ∧ (Int32.ofInt x).toNatClampNeg = x.toNat ∧ x.toNat < N := by
  obtain ⟨q, rfl⟩ : ∃ q : Nat, x = (q : Int) := ⟨x.toNat, by omega⟩
  have e : Int32.ofInt (q : Int) = nI q := Int32.ofInt_eq_ofNat
  rw [e]
  exact ⟨vp_in_nI (by omega) (by omega), by rw [nI_clamp (by omega)]; rfl, by show q < N; omega⟩
theorem arr_upd {cA : ClassId} {N t a q : Nat} {b : Nat} {g : Hp} {x : Int} {v : Value} (hv : vA (fc t q) x = v) : arrV cA N (updV (fun j => cv b (vA (fc t j) (g a j))) q (cv b v)) = arrV cA N (fun j => cv b (vA (fc t j) (up2 g a q x a j))) := by
  refine congrArg (arrV cA N) (funext fun j => ?_)
  unfold updV up2
  by_cases e : j = q
  · subst e; rw [if_pos rfl, if_pos ⟨rfl, rfl⟩, hv]
  · rw [if_neg e, if_neg (fun r => e r.2)]
section VRows4
variable {M : MI} {d pc : Nat} {L L' : List (Nat × Value)} {st : List Value} {n : Nat} {S : Nat → Shp} {g : Hp} {k z : Nat} {P : Pst}
theorem v_iald {a N : Nat} {x : Int} (j : Nat) (hd : M.2.2.2[j]? = some (pc, .iaload, 1)) (ha : 0 < a ∧ a < n) (hs : (S a).1 = 13) (hN : (S a).2.1 = N) (hN2 : N ≤ 100000) (hx : 0 ≤ x ∧ x < (N : Int)) (h : V M d (pc + 1) L (I_ (g a x.toNat) :: st) n S g k z P) : V M d pc L (I_ x :: .ref a :: st) n S g k z P := by
  intro p l e R s m args below meth c b D dA Q C hq H locs ls hl hP hS
  have w := h p l e R s m args below meth c b D dA Q C hq H locs ls hl hP hS
  have hA := hP.arr ha hs (by decide)
  rw [hN] at hA
  obtain ⟨hin, hcl, hlt⟩ := ixN hx hN2
  obtain ⟨a', rfl⟩ : ∃ a', a = a' + 1 := ⟨a - 1, by omega⟩
  refine W.iald C.1 C.2.1 hA ((C.2.2.2.2.2.1.1.2 1 _ rfl).1 _ _) (fun q => by cases q) (by show ¬ (_ ∨ (arrV _ _ _).slots.size ≤ _); rw [arrV_size]; exact hin) (v := cv b (I_ (g (a' + 1) x.toNat))) (by rw [hcl, arrV_read _ _ hlt]; rfl) rfl rfl (C.dec hd) w
theorem v_lald {a N : Nat} {x : Int} (j : Nat) (hd : M.2.2.2[j]? = some (pc, .laload, 1)) (ha : 0 < a ∧ a < n) (hs : (S a).1 = 14) (hN : (S a).2.1 = N) (hN2 : N ≤ 100000) (hx : 0 ≤ x ∧ x < (N : Int)) (h : V M d (pc + 1) L (L_ (g a x.toNat) :: st) n S g k z P) : V M d pc L (I_ x :: .ref a :: st) n S g k z P := by
  intro p l e R s m args below meth c b D dA Q C hq H locs ls hl hP hS
  have w := h p l e R s m args below meth c b D dA Q C hq H locs ls hl hP hS
  have hA := hP.arr ha hs (by decide)
  rw [hN] at hA
  obtain ⟨hin, hcl, hlt⟩ := ixN hx hN2
  obtain ⟨a', rfl⟩ : ∃ a', a = a' + 1 := ⟨a - 1, by omega⟩
  refine W.lald C.1 C.2.1 hA ((C.2.2.2.2.2.1.1.2 2 _ rfl).1 _ _) (fun q => by cases q) (by show ¬ (_ ∨ (arrV _ _ _).slots.size ≤ _); rw [arrV_size]; exact hin) (v := cv b (L_ (g (a' + 1) x.toNat))) (by rw [hcl, arrV_read _ _ hlt]; rfl) rfl rfl (C.dec hd) w
theorem v_bald {a N : Nat} {x : Int} (j : Nat) (hd : M.2.2.2[j]? = some (pc, .baload, 1)) (ha : 0 < a ∧ a < n) (hs : (S a).1 = 12) (hN : (S a).2.1 = N) (hN2 : N ≤ 100000) (hx : 0 ≤ x ∧ x < (N : Int)) (h : V M d (pc + 1) L (I_ (g a x.toNat) :: st) n S g k z P) : V M d pc L (I_ x :: .ref a :: st) n S g k z P := by
  intro p l e R s m args below meth c b D dA Q C hq H locs ls hl hP hS
  have w := h p l e R s m args below meth c b D dA Q C hq H locs ls hl hP hS
  have hA := hP.arr ha hs (by decide)
  rw [hN] at hA
  obtain ⟨hin, hcl, hlt⟩ := ixN hx hN2
  obtain ⟨a', rfl⟩ : ∃ a', a = a' + 1 := ⟨a - 1, by omega⟩
  refine W.bald C.1 C.2.1 hA ((C.2.2.2.2.2.1.1.2 0 _ rfl).1 _ _) (fun q => by cases q) (by show ¬ (_ ∨ (arrV _ _ _).slots.size ≤ _); rw [arrV_size]; exact hin) (v := cv b (I_ (g (a' + 1) x.toNat))) (by rw [hcl, arrV_read _ _ hlt]; rfl) rfl rfl (C.dec hd) w
theorem v_zald {a N : Nat} {x : Int} (j : Nat) (hd : M.2.2.2[j]? = some (pc, .baload, 1)) (ha : 0 < a ∧ a < n) (hs : (S a).1 = 15) (hN : (S a).2.1 = N) (hN2 : N ≤ 100000) (hx : 0 ≤ x ∧ x < (N : Int)) (h : V M d (pc + 1) L (I_ (g a x.toNat) :: st) n S g k z P) : V M d pc L (I_ x :: .ref a :: st) n S g k z P := by
  intro p l e R s m args below meth c b D dA Q C hq H locs ls hl hP hS
  have w := h p l e R s m args below meth c b D dA Q C hq H locs ls hl hP hS
  have hA := hP.arr ha hs (by decide)
  rw [hN] at hA
  obtain ⟨hin, hcl, hlt⟩ := ixN hx hN2
  obtain ⟨a', rfl⟩ : ∃ a', a = a' + 1 := ⟨a - 1, by omega⟩
  refine W.zald C.1 C.2.1 hA ((C.2.2.2.2.2.1.1.2 3 _ rfl).1 _ _) (fun q => by cases q) (by show ¬ (_ ∨ (arrV _ _ _).slots.size ≤ _); rw [arrV_size]; exact hin) (v := cv b (I_ (g (a' + 1) x.toNat))) (by rw [hcl, arrV_read _ _ hlt]; rfl) rfl rfl (C.dec hd) w
theorem v_pald {a N : Nat} {x : Int} (j : Nat) (hd : M.2.2.2[j]? = some (pc, .aaload, 1)) (ha : 0 < a ∧ a < n) (hs : (S a).1 = 16) (hN : (S a).2.1 = N) (hN2 : N ≤ 100000) (hx : 0 ≤ x ∧ x < (N : Int)) (h : V M d (pc + 1) L (.ref (g a x.toNat).toNat :: st) n S g k z P) : V M d pc L (I_ x :: .ref a :: st) n S g k z P := by
  intro p l e R s m args below meth c b D dA Q C hq H locs ls hl hP hS
  have w := h p l e R s m args below meth c b D dA Q C hq H locs ls hl hP hS
  have hA := hP.arr ha hs (by decide)
  rw [hN] at hA
  obtain ⟨hin, hcl, hlt⟩ := ixN hx hN2
  obtain ⟨a', rfl⟩ : ∃ a', a = a' + 1 := ⟨a - 1, by omega⟩
  refine W.aald C.1 C.2.1 hA ((C.2.2.2.2.2.1.1.2 4 _ rfl).1 _ _) rfl (fun q => by cases q) (by show ¬ (_ ∨ (arrV _ _ _).slots.size ≤ _); rw [arrV_size]; exact hin) (v := cv b (.ref (g (a' + 1) x.toNat).toNat)) (by rw [hcl, arrV_read _ _ hlt]; rfl) rfl rfl (C.dec hd) w
theorem v_rald {a N : Nat} {x : Int} (j : Nat) (hd : M.2.2.2[j]? = some (pc, .aaload, 1)) (ha : 0 < a ∧ a < n) (hs : (S a).1 = 17) (hN : (S a).2.1 = N) (hN2 : N ≤ 100000) (hx : 0 ≤ x ∧ x < (N : Int)) (h : V M d (pc + 1) L (.ref (g a x.toNat).toNat :: st) n S g k z P) : V M d pc L (I_ x :: .ref a :: st) n S g k z P := by
  intro p l e R s m args below meth c b D dA Q C hq H locs ls hl hP hS
  have w := h p l e R s m args below meth c b D dA Q C hq H locs ls hl hP hS
  have hA := hP.arr ha hs (by decide)
  rw [hN] at hA
  obtain ⟨hin, hcl, hlt⟩ := ixN hx hN2
  obtain ⟨a', rfl⟩ : ∃ a', a = a' + 1 := ⟨a - 1, by omega⟩
  refine W.aald C.1 C.2.1 hA ((C.2.2.2.2.2.1.1.2 5 _ rfl).1 _ _) rfl (fun q => by cases q) (by show ¬ (_ ∨ (arrV _ _ _).slots.size ≤ _); rw [arrV_size]; exact hin) (v := cv b (.ref (g (a' + 1) x.toNat).toNat)) (by rw [hcl, arrV_read _ _ hlt]; rfl) rfl rfl (C.dec hd) w
theorem v_tald {a N : Nat} {x : Int} (j : Nat) (hd : M.2.2.2[j]? = some (pc, .aaload, 1)) (ha : 0 < a ∧ a < n) (hs : (S a).1 = 18) (hN : (S a).2.1 = N) (hN2 : N ≤ 100000) (hx : 0 ≤ x ∧ x < (N : Int)) (h : V M d (pc + 1) L (.ref (g a x.toNat).toNat :: st) n S g k z P) : V M d pc L (I_ x :: .ref a :: st) n S g k z P := by
  intro p l e R s m args below meth c b D dA Q C hq H locs ls hl hP hS
  have w := h p l e R s m args below meth c b D dA Q C hq H locs ls hl hP hS
  have hA := hP.arr ha hs (by decide)
  rw [hN] at hA
  obtain ⟨hin, hcl, hlt⟩ := ixN hx hN2
  obtain ⟨a', rfl⟩ : ∃ a', a = a' + 1 := ⟨a - 1, by omega⟩
  refine W.aald C.1 C.2.1 hA ((C.2.2.2.2.2.1.1.2 6 _ rfl).1 _ _) rfl (fun q => by cases q) (by show ¬ (_ ∨ (arrV _ _ _).slots.size ≤ _); rw [arrV_size]; exact hin) (v := cv b (.ref (g (a' + 1) x.toNat).toNat)) (by rw [hcl, arrV_read _ _ hlt]; rfl) rfl rfl (C.dec hd) w
theorem v_aald {a N : Nat} {x : Int} (j : Nat) (hd : M.2.2.2[j]? = some (pc, .aaload, 1)) (ha : 0 < a ∧ a < n) (hs : (S a).1 = 19) (hN : (S a).2.1 = N) (hN2 : N ≤ 100000) (hx : 0 ≤ x ∧ x < (N : Int)) (h : V M d (pc + 1) L (.ref (g a x.toNat).toNat :: st) n S g k z P) : V M d pc L (I_ x :: .ref a :: st) n S g k z P := by
  intro p l e R s m args below meth c b D dA Q C hq H locs ls hl hP hS
  have w := h p l e R s m args below meth c b D dA Q C hq H locs ls hl hP hS
  have hA := hP.arr ha hs (by decide)
  rw [hN] at hA
  obtain ⟨hin, hcl, hlt⟩ := ixN hx hN2
  obtain ⟨a', rfl⟩ : ∃ a', a = a' + 1 := ⟨a - 1, by omega⟩
  refine W.aald C.1 C.2.1 hA ((C.2.2.2.2.2.1.1.2 7 _ rfl).1 _ _) rfl (fun q => by cases q) (by show ¬ (_ ∨ (arrV _ _ _).slots.size ≤ _); rw [arrV_size]; exact hin) (v := cv b (.ref (g (a' + 1) x.toNat).toNat)) (by rw [hcl, arrV_read _ _ hlt]; rfl) rfl rfl (C.dec hd) w
theorem v_iast {a N : Nat} {x y : Int} (j : Nat) (hd : M.2.2.2[j]? = some (pc, .iastore, 1)) (ha : 0 < a ∧ a < n) (hs : (S a).1 = 13) (hN : (S a).2.1 = N) (hN2 : N ≤ 100000) (hy : 0 ≤ y ∧ y < (N : Int)) (hx : i3 x) (h : V M d (pc + 1) L st n S (up2 g a y.toNat x) k z P) : V M d pc L (I_ x :: I_ y :: .ref a :: st) n S g k z P := by
  intro p l e R s m args below meth c b D dA Q C hq H locs ls hl hP hS
  have hA := hP.arr ha hs (by decide)
  rw [hN] at hA
  obtain ⟨hin, hcl, hlt⟩ := ixN hy hN2
  obtain ⟨a', rfl⟩ : ∃ a', a = a' + 1 := ⟨a - 1, by omega⟩
  refine W.iast C.1 C.2.1 hA ((C.2.2.2.2.2.1.1.2 1 _ rfl).1 _ _) (fun q => by cases q) (by show ¬ (_ ∨ (arrV _ _ _).slots.size ≤ _); rw [arrV_size]; exact hin) rfl rfl (C.dec hd) fun H' e1 e2 e3 => ?_
  refine h p l e R s m args below meth c b D dA Q C hq H' _ ls hl (hP.set ha e2 e3 (Or.inr ⟨by rw [hs]; decide, ?_⟩) (by rw [hs]; exact hx)) (hS.put e2 e3 (by show b < b + (a' + 1); omega))
  rw [e1, arrV_store, hcl, hs, hN]
  exact congrArg some (arr_upd (v := I_ x) rfl)
theorem v_last {a N : Nat} {x y : Int} (j : Nat) (hd : M.2.2.2[j]? = some (pc, .lastore, 1)) (ha : 0 < a ∧ a < n) (hs : (S a).1 = 14) (hN : (S a).2.1 = N) (hN2 : N ≤ 100000) (hy : 0 ≤ y ∧ y < (N : Int)) (hx : i6 x) (h : V M d (pc + 1) L st n S (up2 g a y.toNat x) k z P) : V M d pc L (L_ x :: I_ y :: .ref a :: st) n S g k z P := by
  intro p l e R s m args below meth c b D dA Q C hq H locs ls hl hP hS
  have hA := hP.arr ha hs (by decide)
  rw [hN] at hA
  obtain ⟨hin, hcl, hlt⟩ := ixN hy hN2
  obtain ⟨a', rfl⟩ : ∃ a', a = a' + 1 := ⟨a - 1, by omega⟩
  refine W.last C.1 C.2.1 hA ((C.2.2.2.2.2.1.1.2 2 _ rfl).1 _ _) (fun q => by cases q) (by show ¬ (_ ∨ (arrV _ _ _).slots.size ≤ _); rw [arrV_size]; exact hin) rfl rfl (C.dec hd) fun H' e1 e2 e3 => ?_
  refine h p l e R s m args below meth c b D dA Q C hq H' _ ls hl (hP.set ha e2 e3 (Or.inr ⟨by rw [hs]; decide, ?_⟩) (by rw [hs]; exact hx)) (hS.put e2 e3 (by show b < b + (a' + 1); omega))
  rw [e1, arrV_store, hcl, hs, hN]
  exact congrArg some (arr_upd (v := L_ x) rfl)
theorem v_bast {a N : Nat} {x y : Int} (j : Nat) (hd : M.2.2.2[j]? = some (pc, .bastore, 1)) (ha : 0 < a ∧ a < n) (hs : (S a).1 = 12) (hN : (S a).2.1 = N) (hN2 : N ≤ 100000) (hy : 0 ≤ y ∧ y < (N : Int)) (hnr : narrow .byte (I_ x) = I_ x) (hx : i3 x) (h : V M d (pc + 1) L st n S (up2 g a y.toNat x) k z P) : V M d pc L (I_ x :: I_ y :: .ref a :: st) n S g k z P := by
  intro p l e R s m args below meth c b D dA Q C hq H locs ls hl hP hS
  have hA := hP.arr ha hs (by decide)
  rw [hN] at hA
  obtain ⟨hin, hcl, hlt⟩ := ixN hy hN2
  obtain ⟨a', rfl⟩ : ∃ a', a = a' + 1 := ⟨a - 1, by omega⟩
  refine W.bast C.1 C.2.1 hA ((C.2.2.2.2.2.1.1.2 0 _ rfl).1 _ _) (fun q => by cases q) (by show ¬ (_ ∨ (arrV _ _ _).slots.size ≤ _); rw [arrV_size]; exact hin) rfl rfl (C.dec hd) fun H' e1 e2 e3 => ?_
  rw [hnr] at e1
  refine h p l e R s m args below meth c b D dA Q C hq H' _ ls hl (hP.set ha e2 e3 (Or.inr ⟨by rw [hs]; decide, ?_⟩) (by rw [hs]; exact hx)) (hS.put e2 e3 (by show b < b + (a' + 1); omega))
  rw [e1, arrV_store, hcl, hs, hN]
  exact congrArg some (arr_upd (v := I_ x) rfl)
theorem v_zast {a N : Nat} {x y : Int} (j : Nat) (hd : M.2.2.2[j]? = some (pc, .bastore, 1)) (ha : 0 < a ∧ a < n) (hs : (S a).1 = 15) (hN : (S a).2.1 = N) (hN2 : N ≤ 100000) (hy : 0 ≤ y ∧ y < (N : Int)) (hz : x = 0 ∨ x = 1) (hx : i3 x) (h : V M d (pc + 1) L st n S (up2 g a y.toNat x) k z P) : V M d pc L (I_ x :: I_ y :: .ref a :: st) n S g k z P := by
  intro p l e R s m args below meth c b D dA Q C hq H locs ls hl hP hS
  have hA := hP.arr ha hs (by decide)
  rw [hN] at hA
  obtain ⟨hin, hcl, hlt⟩ := ixN hy hN2
  obtain ⟨a', rfl⟩ : ∃ a', a = a' + 1 := ⟨a - 1, by omega⟩
  refine W.zast C.1 C.2.1 hA ((C.2.2.2.2.2.1.1.2 3 _ rfl).1 _ _) (fun q => by cases q) (by show ¬ (_ ∨ (arrV _ _ _).slots.size ≤ _); rw [arrV_size]; exact hin) rfl rfl (C.dec hd) fun H' e1 e2 e3 => ?_
  rw [show narrow .boolean (I_ x) = I_ x by rcases hz with rfl | rfl <;> rfl] at e1
  refine h p l e R s m args below meth c b D dA Q C hq H' _ ls hl (hP.set ha e2 e3 (Or.inr ⟨by rw [hs]; decide, ?_⟩) (by rw [hs]; exact hx)) (hS.put e2 e3 (by show b < b + (a' + 1); omega))
  rw [e1, arrV_store, hcl, hs, hN]
  exact congrArg some (arr_upd (v := I_ x) rfl)
/-- a cell of class ci may lie in an array over the class E -/
def Asg (ci : Nat) (E : String) : Prop := ∃ (C : String) (T : u_T) (N : Nat), vwCl[ci]? = some (C, T, N) ∧ (C = E ∨ Cond.castable C E ∈ tbG)
set_option maxHeartbeats 1000000 in
theorem v_past {a r N ci : Nat} {y : Int} (j : Nat) (hd : M.2.2.2[j]? = some (pc, .aastore, 1)) (ha : 0 < a ∧ a < n) (hs : (S a).1 = 16) (hN : (S a).2.1 = N) (hN2 : N ≤ 100000) (hy : 0 ≤ y ∧ y < (N : Int)) (hr : 0 < r ∧ r < n) (hsr : (S r).1 = ci) (hci : ci < 12) (hg : Asg ci "MobileMaker$Part") (h : V M d (pc + 1) L st n S (up2 g a y.toNat (r : Int)) k z P) : V M d pc L (.ref r :: I_ y :: .ref a :: st) n S g k z P := by
  intro p l e R s m args below meth c b D dA Q C hq H locs ls hl hP hS
  have hA := hP.arr ha hs (by decide)
  rw [hN] at hA
  obtain ⟨hin, hcl, hlt⟩ := ixN hy hN2
  have h0 : ¬ Int32.ofInt y < 0 := fun q => hin (Or.inl q)
  obtain ⟨a', rfl⟩ : ∃ a', a = a' + 1 := ⟨a - 1, by omega⟩
  obtain ⟨r', rfl⟩ : ∃ r', r = r' + 1 := ⟨r - 1, by omega⟩
  obtain ⟨cell, q1, q2, q3, q4⟩ := hP.obj hr hsr hci
  obtain ⟨Cn, T, N', g1, g2⟩ := hg
  obtain ⟨hSl, hfc, kC, hkC, hkind⟩ := C.2.2.2.2.2.1.1.1 ci _ g1
  obtain ⟨kA, comp, k1, k2, k3, -⟩ := (C.2.2.2.2.2.1.1.2 4 _ rfl).2
  obtain ⟨kE, hkE, -⟩ := Vm.findClass_spec k3
  have hfc' : s.vm.findClass Cn = some (D.1 ci) := hfc
  have hasg : s.vm.assignable cell.cls comp = true := by
    rw [q2]
    rcases g2 with e | e
    · subst e
      cases hfc'.symm.trans k3
      exact Vm.assignable_self _ _
    · obtain ⟨c0, t0, f1, f2, f3⟩ := Cond.castable_spec (C.2.2.2.2.1 _ e)
      cases hfc'.symm.trans f1
      cases k3.symm.trans f2
      exact f3
  refine W.aast C.1 C.2.1 hA (fun q h => by cases h) (fun h => by cases h) k1 k2 rfl hkE ⟨h0, by show _ < (arrV _ _ _).slots.size; rw [arrV_size, hcl]; exact hlt⟩ q1 (fun q h => by rw [q3] at h; cases h) (by rw [q2]; exact hkC) hasg rfl rfl (C.dec hd) fun H' e1 e2 e3 => ?_
  refine h p l e R s m args below meth c b D dA Q C hq H' _ ls hl (hP.set ha e2 e3 (Or.inr ⟨by rw [hs]; decide, ?_⟩) (by rw [hs]; exact Int.natCast_nonneg _)) (hS.put e2 e3 (by show b < b + (a' + 1); omega))
  rw [e1, arrV_store, hcl, hs, hN]
  exact congrArg some (arr_upd (v := .ref (r' + 1)) rfl)
set_option maxHeartbeats 1000000 in
theorem v_rast {a r N ci : Nat} {y : Int} (j : Nat) (hd : M.2.2.2[j]? = some (pc, .aastore, 1)) (ha : 0 < a ∧ a < n) (hs : (S a).1 = 17) (hN : (S a).2.1 = N) (hN2 : N ≤ 100000) (hy : 0 ≤ y ∧ y < (N : Int)) (hr : 0 < r ∧ r < n) (hsr : (S r).1 = ci) (hci : ci < 12) (hg : Asg ci "MobileMaker$Rod") (h : V M d (pc + 1) L st n S (up2 g a y.toNat (r : Int)) k z P) : V M d pc L (.ref r :: I_ y :: .ref a :: st) n S g k z P := by
  intro p l e R s m args below meth c b D dA Q C hq H locs ls hl hP hS
  have hA := hP.arr ha hs (by decide)
  rw [hN] at hA
  obtain ⟨hin, hcl, hlt⟩ := ixN hy hN2
  have h0 : ¬ Int32.ofInt y < 0 := fun q => hin (Or.inl q)
  obtain ⟨a', rfl⟩ : ∃ a', a = a' + 1 := ⟨a - 1, by omega⟩
  obtain ⟨r', rfl⟩ : ∃ r', r = r' + 1 := ⟨r - 1, by omega⟩
  obtain ⟨cell, q1, q2, q3, q4⟩ := hP.obj hr hsr hci
  obtain ⟨Cn, T, N', g1, g2⟩ := hg
  obtain ⟨hSl, hfc, kC, hkC, hkind⟩ := C.2.2.2.2.2.1.1.1 ci _ g1
  obtain ⟨kA, comp, k1, k2, k3, -⟩ := (C.2.2.2.2.2.1.1.2 5 _ rfl).2
  obtain ⟨kE, hkE, -⟩ := Vm.findClass_spec k3
  have hfc' : s.vm.findClass Cn = some (D.1 ci) := hfc
  have hasg : s.vm.assignable cell.cls comp = true := by
    rw [q2]
    rcases g2 with e | e
    · subst e
      cases hfc'.symm.trans k3
      exact Vm.assignable_self _ _
    · obtain ⟨c0, t0, f1, f2, f3⟩ := Cond.castable_spec (C.2.2.2.2.1 _ e)
      cases hfc'.symm.trans f1
      cases k3.symm.trans f2
      exact f3
  refine W.aast C.1 C.2.1 hA (fun q h => by cases h) (fun h => by cases h) k1 k2 rfl hkE ⟨h0, by show _ < (arrV _ _ _).slots.size; rw [arrV_size, hcl]; exact hlt⟩ q1 (fun q h => by rw [q3] at h; cases h) (by rw [q2]; exact hkC) hasg rfl rfl (C.dec hd) fun H' e1 e2 e3 => ?_
  refine h p l e R s m args below meth c b D dA Q C hq H' _ ls hl (hP.set ha e2 e3 (Or.inr ⟨by rw [hs]; decide, ?_⟩) (by rw [hs]; exact Int.natCast_nonneg _)) (hS.put e2 e3 (by show b < b + (a' + 1); omega))
  rw [e1, arrV_store, hcl, hs, hN]
  exact congrArg some (arr_upd (v := .ref (r' + 1)) rfl)
set_option maxHeartbeats 1000000 in
theorem v_tast {a r N ci : Nat} {y : Int} (j : Nat) (hd : M.2.2.2[j]? = some (pc, .aastore, 1)) (ha : 0 < a ∧ a < n) (hs : (S a).1 = 18) (hN : (S a).2.1 = N) (hN2 : N ≤ 100000) (hy : 0 ≤ y ∧ y < (N : Int)) (hr : 0 < r ∧ r < n) (hsr : (S r).1 = ci) (hci : ci < 12) (hg : Asg ci "MobileMaker$Tray") (h : V M d (pc + 1) L st n S (up2 g a y.toNat (r : Int)) k z P) : V M d pc L (.ref r :: I_ y :: .ref a :: st) n S g k z P := by
  intro p l e R s m args below meth c b D dA Q C hq H locs ls hl hP hS
  have hA := hP.arr ha hs (by decide)
  rw [hN] at hA
  obtain ⟨hin, hcl, hlt⟩ := ixN hy hN2
  have h0 : ¬ Int32.ofInt y < 0 := fun q => hin (Or.inl q)
  obtain ⟨a', rfl⟩ : ∃ a', a = a' + 1 := ⟨a - 1, by omega⟩
  obtain ⟨r', rfl⟩ : ∃ r', r = r' + 1 := ⟨r - 1, by omega⟩
  obtain ⟨cell, q1, q2, q3, q4⟩ := hP.obj hr hsr hci
  obtain ⟨Cn, T, N', g1, g2⟩ := hg
  obtain ⟨hSl, hfc, kC, hkC, hkind⟩ := C.2.2.2.2.2.1.1.1 ci _ g1
  obtain ⟨kA, comp, k1, k2, k3, -⟩ := (C.2.2.2.2.2.1.1.2 6 _ rfl).2
  obtain ⟨kE, hkE, -⟩ := Vm.findClass_spec k3
  have hfc' : s.vm.findClass Cn = some (D.1 ci) := hfc
  have hasg : s.vm.assignable cell.cls comp = true := by
    rw [q2]
    rcases g2 with e | e
    · subst e
      cases hfc'.symm.trans k3
      exact Vm.assignable_self _ _
    · obtain ⟨c0, t0, f1, f2, f3⟩ := Cond.castable_spec (C.2.2.2.2.1 _ e)
      cases hfc'.symm.trans f1
      cases k3.symm.trans f2
      exact f3
  refine W.aast C.1 C.2.1 hA (fun q h => by cases h) (fun h => by cases h) k1 k2 rfl hkE ⟨h0, by show _ < (arrV _ _ _).slots.size; rw [arrV_size, hcl]; exact hlt⟩ q1 (fun q h => by rw [q3] at h; cases h) (by rw [q2]; exact hkC) hasg rfl rfl (C.dec hd) fun H' e1 e2 e3 => ?_
  refine h p l e R s m args below meth c b D dA Q C hq H' _ ls hl (hP.set ha e2 e3 (Or.inr ⟨by rw [hs]; decide, ?_⟩) (by rw [hs]; exact Int.natCast_nonneg _)) (hS.put e2 e3 (by show b < b + (a' + 1); omega))
  rw [e1, arrV_store, hcl, hs, hN]
  exact congrArg some (arr_upd (v := .ref (r' + 1)) rfl)
theorem v_alen {a N : Nat} {t : Nat} {ty : FieldType} (j : Nat) (hd : M.2.2.2[j]? = some (pc, .arraylength, 1)) (ha : 0 < a ∧ a < n) (hs : (S a).1 = t) (ht : 12 ≤ t) (hty : ∀ dA : Nat → ClassId, (aty dA)[t - 12]? = some (dA t, ty)) (hN : (S a).2.1 = N) (h : V M d (pc + 1) L (I_ (N : Int) :: st) n S g k z P) : V M d pc L (.ref a :: st) n S g k z P := by
  intro p l e R s m args below meth c b D dA Q C hq H locs ls hl hP hS
  have w := h p l e R s m args below meth c b D dA Q C hq H locs ls hl hP hS
  have hA := hP.arr ha hs ht
  rw [hN] at hA
  obtain ⟨a', rfl⟩ : ∃ a', a = a' + 1 := ⟨a - 1, by omega⟩
  refine W.alen C.1 C.2.1 hA ((C.2.2.2.2.2.1.1.2 (t - 12) _ (hty dA)).1 _ _) (n := Int32.ofInt (N : Int)) (by rw [arrV_size]; exact Int32.ofInt_eq_ofNat.symm) rfl rfl (C.dec hd) w
/-- what is held is in range -/
theorem v_rng (h : (∀ i q, 0 < i → i < n → rg (fc (S i).1 q) (g i q)) → V M d pc L st n S g k z P) : V M d pc L st n S g k z P :=
  fun p l e R s m args below meth c b D dA Q C hq H locs ls hl hP hS => h hP.2.2 p l e R s m args below meth c b D dA Q C hq H locs ls hl hP hS
/-- another picture of the same cells -/
theorem v_same {S' : Nat → Shp} {g' : Hp} (hs : ∀ i, 0 < i → i < n → (S' i).1 = (S i).1 ∧ (S' i).2.1 = (S i).2.1 ∧ ((S i).1 < 12 → ∀ q, gv S' g' i q = gv S g i q) ∧ (12 ≤ (S i).1 → ∀ q, g' i q = g i q)) (hr : (∀ i q, 0 < i → i < n → rg (fc (S i).1 q) (g i q)) → ∀ i q, 0 < i → i < n → rg (fc (S' i).1 q) (g' i q)) (h : V M d pc L st n S' g' k z P) : V M d pc L st n S g k z P := by
  intro p l e R s m args below meth c b D dA Q C hq H locs ls hl hP hS
  refine h p l e R s m args below meth c b D dA Q C hq H locs ls hl ⟨hP.1, fun i h0 h1 => ?_, hr hP.2.2⟩ hS
  obtain ⟨e1, e2, e3, e4⟩ := hs i h0 h1
  unfold cel
  rw [e1, e2]
  rcases hP.2.1 i h0 h1 with q | q
  · exact Or.inl ⟨q.1, q.2.to (fun k _ => by rw [e3 q.1 k])⟩
  · refine Or.inr ⟨q.1, ?_⟩
    rw [q.2]
    simp only [e4 q.1]
end VRows4
end
section
/-! CALLS -/
section VCalls
variable {p : Program} {l : Launch} {e : Env} {R : Room} {s : State} {m : MethodId} {args : Array Value} {below : List Frame} {meth : Method} {c : Code} {H : Heap} {locs : List Loc} {k z : Nat} {Q : State → Prop}
theorem w_run {mc ms pc b : Nat} {ls : Array Slot} {st0 rest : List Value} {r : Option FieldType} {P' : Pst} {D : va_G} {dA : Nat → ClassId} {a : Array Value} (hr : va_Run p l e R s m args below meth c H locs k z mc ms (F0 m pc ls st0) rest (QcM r P' b D dA a) (AA b)) (hS : va_S (AA b) s.heap H locs)
    (kk : ∀ (v : Option Value) (n' : Nat) (S' : Nat → Shp) (g' : Hp) (H1 : Heap) (locs1 : List Loc), P' v n' S' g' → Pic D dA b n' S' g' H1 → va_S (AA b) s.heap H1 locs1 → W p l e R s m args below meth c H1 locs1 (k + mc) (z + ms) Q (F0 m (pc + 3) ls ((v.map (cv b)).toList ++ rest))) : W p l e R s m args below meth c H locs k z Q (F0 m pc ls st0) := by
  intro T hT X
  obtain ⟨v, st₀, t, T', L, h0, X', hL, e1, e2, ⟨⟨v', n', S', g', hv, hp, hrk, hpic⟩, hz, hk⟩, st⟩ := hr T hT X
  cases hv
  rw [h0] at hz hk
  obtain ⟨t2, a1, b1⟩ := kk v' n' S' g' T'.heap (locs ++ L) hp (by rw [e1]; exact hpic)
    ⟨Nat.le_trans hS.1 (by rw [e1]; exact hz), fun q h1 h2 => by rw [e1, hk q (Nat.lt_of_lt_of_le h1 hS.1) h2]; exact hS.2.1 q h1 h2, fun q hq => by
      rcases List.mem_append.mp hq with h | h
      · exact hS.2.2 q h
      · exact hL q h⟩ T' rfl X'
  exact ⟨t2, st t2 a1, b1⟩
end VCalls
/-- what a call needs of the tables -/
def LkB (M M' : MI) (idx na : Nat) : Prop := (Cond.code M'.1.1 M'.1.2.2 M'.2.1.1 M'.2.1.2 ∈ tbG ∧ Cond.initialized M'.1.1.cls ∈ tbG ∧ Cond.methodLink M.1.2.1 idx M'.1.1 ∈ tbG) ∧ (M'.1.1.cls ≠ "java/lang/invoke/MethodHandle" ∧ M'.1.1.cls ≠ "java/lang/invoke/VarHandle" ∧ (parseMethodDescriptor M'.1.1.desc).map (fun d => d.parameters.length) = some na) ∧ M'.2.1.1 ≤ 40
def LkS (M M' : MI) (idx na : Nat) : Prop := LkB M M' idx na ∧ Cond.static M'.1.1 ∈ tbG
/-- .. of a method of an object of the class ci -/
def LkV (M M' : MI) (idx na ci : Nat) : Prop := LkB M M' idx na ∧ Cond.instanceMethod M'.1.1 ∈ tbG ∧ ∃ (C : String) (T : u_T) (N : Nat), vwCl[ci]? = some (C, T, N) ∧ Cond.selects C M'.1.1 M'.1.1 ∈ tbG
def LkI (M M' : MI) (idx na : Nat) : Prop := LkB M M' idx na ∧ M'.1.1.name = "<init>" ∧ Cond.instanceMethod M'.1.1 ∈ tbG
theorem wsM_good (M' : MI) (h : Cond.code M'.1.1 M'.1.2.2 M'.2.1.1 M'.2.1.2 ∈ tbG) : GoodIn tbG (wsM M') := fun w hw => by
  rcases List.mem_cons.mp hw with e | e
  · subst e; exact ⟨h, tbG_good h⟩
  · exact ⟨e, tbG_good e⟩
theorem PcM_blind (b : Nat) (D : va_G) (dA : Nat → ClassId) (as : List Value) (n : Nat) (S : Nat → Shp) (g : Hp) : FrameBlind (PcM b D dA as n S g) := fun a U gg mk q => ⟨q.1, q.2.1, KK.moved (u := U) (U := U.calling gg mk a) (Vm.Alike.refl U.vm) q.2.2.1, q.2.2.2⟩
theorem PcM_at {b : Nat} {D : va_G} {dA : Nat → ClassId} {as : List Value} {n : Nat} {S : Nat → Shp} {g : Hp} {H : Heap} {s U : State} (hP : Pic D dA b n S g H) (hK : KK D dA s) (hn : 0 < n) (hU : U.heap = H) (hW : s.WarmedH U.vm) : PcM b D dA as n S g (as.map (cv b)).toArray U :=
  ⟨rfl, by rw [hU]; exact hP, hK.moved hW.alike, hn⟩
theorem LkB.cw {M M' : MI} {d idx na : Nat} {p : Program} {R : Room} {s : State} {m : MethodId} {args : Array Value} {meth : Method} {c : Code} {b : Nat} {D : va_G} {dA : Nat → ClassId} (h : LkB M M' idx na) (C : Ctx M (d + 1) p R s m args meth c b D dA) : CallB R s args M.1.2.1 idx M'.1.1 M'.1.2.2 M'.2.1.1 M'.2.1.2 (wsM M') (rmM M' d) M'.2.2.1.1 M'.2.2.1.2 na :=
  callB_of na C.2.2.2.2.1 (wsM_good M' h.1.1) rfl rfl rfl (C.2.2.2.2.1 _ h.1.2.1) (C.2.2.2.2.1 _ h.1.2.2) h.2.1 ⟨C.2.2.2.2.2.2.2.2.1.1, by have h1 := C.2.2.2.2.2.2.2.2.1.2.1; have h2 := h.2.2; show 8 + (M'.2.1.1 + 11) + 64 * d ≤ R.locals; omega⟩
theorem cats_le {b : Nat} {st : List Value} (h : ((st.map fun v => v.category).sum) ≤ 8) (hr : ∀ v ∈ st, ∀ a, v ≠ .retAddr a) : (((st.map (cv b)).map fun v => v.category).sum) ≤ 8 := by
  have e : (st.map (cv b)).map (fun v => v.category) = st.map (fun v => v.category) := by
    rw [List.map_map]
    exact List.map_congr_left fun v hv => cv_cat b v (hr v hv)
  rw [e]; exact h
/-- the words of a stack -/
def wds (st : List Value) : Bool := decide ((st.map fun v => v.category).sum ≤ 8) && st.all fun v => match v with
  | .retAddr _ => false
  | _ => true
theorem wds_le {b : Nat} {st : List Value} (h : wds st = true) : (((st.map (cv b)).map fun v => v.category).sum) ≤ 8 := by
  unfold wds at h
  rw [Bool.and_eq_true, decide_eq_true_eq, List.all_eq_true] at h
  refine cats_le h.1 fun v hv a e => ?_
  have := h.2 v hv
  rw [e] at this
  cases this
section VCalls2
variable {M M' : MI} {d pc : Nat} {L : List (Nat × Value)} {st : List Value} {n : Nat} {S : Nat → Shp} {g : Hp} {k z : Nat} {P : Pst}
theorem v_callS {idx : Nat} (as : List Value) (j : Nat) (hd : M.2.2.2[j]? = some (pc, .invokestatic idx, 3)) (hl : LkS M M' idx as.length) (hw : wds st = true) (hn : 0 < n) (hk : k + M'.2.2.1.1 ≤ M.2.2.1.1) (hz : z + M'.2.2.1.2 ≤ M.2.2.1.2)
    (hr : Runs M' d as n S g (fun v n' S' g' => V M (d + 1) (pc + 3) L (v.toList ++ st) n' S' g' (k + M'.2.2.1.1) (z + M'.2.2.1.2) P)) : V M (d + 1) pc L (as.reverse ++ st) n S g k z P := by
  intro p l e R s m args below meth c b D dA Q C hq H locs ls hls hP hS
  refine w_run (rest := st.map (cv b)) (va_runS (As := as.map (cv b)) ⟨C.1, C.2.1, C.2.2.1, C.2.2.2.1, C.2.2.2.2.1⟩ (hr l b D dA) ⟨hl.1.cw C, C.2.2.2.2.1 _ hl.2⟩ ⟨PcM_blind b D dA as n S g, fun U hU hW => PcM_at hP C.2.2.2.2.2.1 hn hU hW⟩ rfl (List.length_map _) hls.1 ?_ (by show 2 * 0 + _ ≤ 8; rw [Nat.mul_zero, Nat.zero_add]; exact wds_le hw) (C.dec hd) ⟨Nat.le_trans hk C.2.2.2.2.2.2.2.2.1.2.2.1, Nat.le_trans hz C.2.2.2.2.2.2.2.2.1.2.2.2⟩) hS ?_
  · show (as.reverse ++ st).map (cv b) = (as.map (cv b)).reverse ++ st.map (cv b)
    rw [List.map_append, List.map_reverse]
  · intro v n' S' g' H1 locs1 hv hP1 hS1
    have w := hv p l e R s m args below meth c b D dA Q C hq H1 locs1 ls hls hP1 hS1
    rw [List.map_append] at w
    cases v with
    | none => exact w
    | some x => exact w
theorem v_callV {idx a ci : Nat} (as : List Value) (j : Nat) (hd : M.2.2.2[j]? = some (pc, .invokevirtual idx, 3)) (hl : LkV M M' idx as.length ci) (ha : 0 < a ∧ a < n) (hs : (S a).1 = ci) (hc : ci < 12) (hw : wds st = true) (hk : k + M'.2.2.1.1 ≤ M.2.2.1.1) (hz : z + M'.2.2.1.2 ≤ M.2.2.1.2)
    (hr : Runs M' d (.ref a :: as) n S g (fun v n' S' g' => V M (d + 1) (pc + 3) L (v.toList ++ st) n' S' g' (k + M'.2.2.1.1) (z + M'.2.2.1.2) P)) : V M (d + 1) pc L (as.reverse ++ .ref a :: st) n S g k z P := by
  intro p l e R s m args below meth c b D dA Q C hq H locs ls hls hP hS
  obtain ⟨a', rfl⟩ : ∃ a', a = a' + 1 := ⟨a - 1, by omega⟩
  obtain ⟨Cn, T, N, g1, g2⟩ := hl.2.2
  obtain ⟨cell, q1, q2, q3, q4⟩ := hP.obj ha hs hc
  have hfc := (C.2.2.2.2.2.1.1.1 ci _ g1).2.1
  refine w_run (rest := st.map (cv b)) (va_runV (As := as.map (cv b)) (b := b + (a' + 1)) (C := Cn) ⟨C.1, C.2.1, C.2.2.1, C.2.2.2.1, C.2.2.2.2.1⟩ (hr l b D dA) ⟨hl.1.cw C, C.2.2.2.2.1 _ hl.2.1, C.2.2.2.2.1 _ g2⟩ ⟨PcM_blind b D dA _ n S g, ⟨cell, q1, by rw [q3]; rfl, by rw [q2]; exact hfc⟩, fun U hU hW => PcM_at hP C.2.2.2.2.2.1 (by omega) hU hW⟩ rfl (List.length_map _) hls.1 ?_ (by show 2 * 0 + _ ≤ 8; rw [Nat.mul_zero, Nat.zero_add]; exact wds_le hw) (C.dec hd) ⟨Nat.le_trans hk C.2.2.2.2.2.2.2.2.1.2.2.1, Nat.le_trans hz C.2.2.2.2.2.2.2.2.1.2.2.2⟩) hS ?_
  · show (as.reverse ++ .ref (a' + 1) :: st).map (cv b) = (as.map (cv b)).reverse ++ .ref (b + (a' + 1)) :: st.map (cv b)
    rw [List.map_append, List.map_reverse]; rfl
  · intro v n' S' g' H1 locs1 hv hP1 hS1
    have w := hv p l e R s m args below meth c b D dA Q C hq H1 locs1 ls hls hP1 hS1
    rw [List.map_append] at w
    cases v with
    | none => exact w
    | some x => exact w
theorem v_callI {idx a : Nat} (as : List Value) (j : Nat) (hd : M.2.2.2[j]? = some (pc, .invokespecial idx, 3)) (hl : LkI M M' idx as.length) (hret : M'.2.1.2 = none) (ha : 0 < a ∧ a < n) (hw : wds st = true) (hk : k + M'.2.2.1.1 ≤ M.2.2.1.1) (hz : z + M'.2.2.1.2 ≤ M.2.2.1.2)
    (hr : Runs M' d (.ref a :: as) n S g (fun v n' S' g' => V M (d + 1) (pc + 3) L (v.toList ++ st) n' S' g' (k + M'.2.2.1.1) (z + M'.2.2.1.2) P)) : V M (d + 1) pc L (as.reverse ++ .ref a :: st) n S g k z P := by
  intro p l e R s m args below meth c b D dA Q C hq H locs ls hls hP hS
  obtain ⟨a', rfl⟩ : ∃ a', a = a' + 1 := ⟨a - 1, by omega⟩
  have cw := hl.1.cw C
  rw [hret] at cw
  refine w_run (rest := st.map (cv b)) (va_runI (As := as.map (cv b)) (b := b + (a' + 1)) ⟨C.1, C.2.1, C.2.2.1, C.2.2.2.1, C.2.2.2.2.1⟩ (hr l b D dA) ⟨cw, hl.2.1, C.2.2.2.2.1 _ hl.2.2⟩ ⟨PcM_blind b D dA _ n S g, fun U hU hW => PcM_at hP C.2.2.2.2.2.1 (by omega) hU hW⟩ rfl (List.length_map _) hls.1 ?_ (by show 2 * 0 + _ ≤ 8; rw [Nat.mul_zero, Nat.zero_add]; exact wds_le hw) (C.dec hd) ⟨Nat.le_trans hk C.2.2.2.2.2.2.2.2.1.2.2.1, Nat.le_trans hz C.2.2.2.2.2.2.2.2.1.2.2.2⟩) hS ?_
  · show (as.reverse ++ .ref (a' + 1) :: st).map (cv b) = (as.map (cv b)).reverse ++ .ref (b + (a' + 1)) :: st.map (cv b)
    rw [List.map_append, List.map_reverse]; rfl
  · intro v n' S' g' H1 locs1 hv hP1 hS1
    have w := hv p l e R s m args below meth c b D dA Q C hq H1 locs1 ls hls hP1 hS1
    rw [List.map_append] at w
    cases v with
    | none => exact w
    | some x => exact w
end VCalls2
end
section
/-! the cells that the constructors lay; the methods, as tables -/
def stab : List (Nat × Nat × List (Option Nat)) := [(99, 0, []), (10, 0, [some 2, some 3, none, none, some 4, some 6, some 9, some 10, some 11, some 18, some 36, none, some 37]), (18, 6, []), (16, 60, []), (1, 0, [some 5]), (16, 60, []), (4, 0, [some 7, some 8]), (13, 8, []), (13, 8, []), (6, 0, []), (6, 0, []), (0, 0, [some 12, some 13, none, some 14, none, some 15, some 16, some 17]), (16, 60, []), (13, 60, []), (14, 5, []), (14, 435, []), (14, 435, []), (13, 435, []), (2, 0, [some 19, none, some 20, none, none, some 21, some 22, some 23, some 33, some 34, some 35]), (13, 10, []), (13, 9, []), (13, 1024, []), (13, 1024, []), (19, 9, []), (13, 252, []), (13, 252, []), (13, 252, []), (13, 252, []), (13, 252, []), (13, 252, []), (13, 252, []), (13, 252, []), (13, 252, []), (13, 9, []), (13, 1024, []), (13, 1024, []), (13, 14, []), (7, 0, [some 38, none, some 39, some 40]), (12, 600, []), (17, 60, []), (13, 60, []), (8, 0, [none, none, some 42]), (14, 16, []), (8, 0, [none, none, some 44]), (14, 16, []), (8, 0, [none, none, some 46]), (14, 16, []), (8, 0, [none, none, some 48]), (14, 16, []), (8, 0, [none, none, some 50]), (14, 16, []), (8, 0, [none, none, some 52]), (14, 16, []), (11, 0, [none, none, some 54, some 55, some 56, none, some 57, some 58, some 59, some 60, some 61, some 62, some 63, some 64, some 65, some 66, some 67, some 68, some 69, some 70, some 71, some 72, some 73, some 74, some 75, some 76, none, some 77, some 78, none, some 79, some 80, none, none, none, none, some 81, some 82, some 83, some 84, some 85, none, none, some 86, some 87, some 88, some 89, some 90, some 91, some 92, some 93, none, some 94, some 95, some 96, some 97, some 98]), (13, 6, []), (13, 6, []), (14, 96, []), (13, 60, []), (13, 60, []), (13, 60, []), (13, 60, []), (13, 60, []), (13, 60, []), (14, 60, []), (14, 60, []), (14, 60, []), (13, 60, []), (13, 60, []), (13, 60, []), (13, 480, []), (13, 480, []), (13, 60, []), (13, 60, []), (13, 60, []), (14, 60, []), (15, 60, []), (15, 60, []), (13, 14, []), (12, 600, []), (13, 8, []), (13, 8, []), (13, 1800, []), (13, 1800, []), (13, 60, []), (13, 60, []), (13, 60, []), (14, 60, []), (14, 60, []), (14, 8, []), (14, 10, []), (13, 200, []), (13, 200, []), (14, 8, []), (14, 8, []), (13, 9216, []), (14, 1024, []), (13, 60, []), (13, 400, []), (13, 400, []), (14, 1, [])]
def cst (l : List (Option Nat)) (q : Nat) : Option Int := match l[q]? with
  | some (some v) => some (v : Int)
  | _ => none
/-- the world: the cells that the constructors laid, then those that were made since -/
def W0 (dy : Nat → Shp) (i : Nat) : Shp := match stab[i]? with
  | some (t, l, cs) => (t, l, cst cs)
  | none => dy i
theorem al {n : Nat} (a : Nat) (h : (decide (0 < a) && decide (a < 100)) = true) (hn : 100 ≤ n) : 0 < a ∧ a < n := by
  rw [Bool.and_eq_true, decide_eq_true_eq, decide_eq_true_eq] at h
  exact ⟨h.1, Nat.lt_of_lt_of_le h.2 hn⟩
set_option maxRecDepth 100000 in
theorem kf0 : ∀ w ∈ u_ws RX0 TX0 11, w ∈ tbG := by decide +kernel
set_option maxRecDepth 100000 in
theorem kf1 : ∀ w ∈ u_ws RX1 TX1 3, w ∈ tbG := by decide +kernel
set_option maxRecDepth 100000 in
theorem kf2 : ∀ w ∈ u_ws RX3 TX3 11, w ∈ tbG := by decide +kernel
set_option maxRecDepth 100000 in
theorem kf3 : ∀ w ∈ u_ws RX4 TX4 14, w ∈ tbG := by decide +kernel
set_option maxRecDepth 100000 in
theorem kf4 : ∀ w ∈ u_ws RX5 TX5 3, w ∈ tbG := by decide +kernel
set_option maxRecDepth 100000 in
theorem kf5 : ∀ w ∈ u_ws RX6 TX6 16, w ∈ tbG := by decide +kernel
set_option maxRecDepth 100000 in
theorem kf6 : ∀ w ∈ u_ws RX7 TX7 3, w ∈ tbG := by decide +kernel
set_option maxRecDepth 100000 in
theorem kf7 : ∀ w ∈ u_ws RX8 TX8 5, w ∈ tbG := by decide +kernel
set_option maxRecDepth 100000 in
theorem kf8 : ∀ w ∈ u_ws RX9 TX9 3, w ∈ tbG := by decide +kernel
set_option maxRecDepth 100000 in
theorem kf9 : ∀ w ∈ u_ws RX10 TX10 10, w ∈ tbG := by decide +kernel
set_option maxRecDepth 100000 in
theorem kf10 : ∀ w ∈ u_ws RX11 TX11 13, w ∈ tbG := by decide +kernel
set_option maxRecDepth 100000 in
theorem kf11 : ∀ w ∈ u_ws RX12 TX12 58, w ∈ tbG := by decide +kernel
theorem ki0 : Cond.initialized RX0 ∈ tbG := tbG_in (List.mem_append_right _ (List.mem_of_getElem? (i := 5) (by decide +kernel))) rfl
theorem ki1 : Cond.initialized RX1 ∈ tbG := tbG_in (List.mem_append_right _ (List.mem_of_getElem? (i := 2) (by decide +kernel))) rfl
theorem ki2 : Cond.initialized RX2 ∈ tbG := tbG_in (List.mem_append_right _ (List.mem_of_getElem? (i := 12) (by decide +kernel))) rfl
theorem ki3 : Cond.initialized RX3 ∈ tbG := tbG_in (List.mem_append_right _ (List.mem_of_getElem? (i := 6) (by decide +kernel))) rfl
theorem ki4 : Cond.initialized RX4 ∈ tbG := tbG_in (List.mem_append_right _ (List.mem_of_getElem? (i := 17) (by decide +kernel))) rfl
theorem ki5 : Cond.initialized RX5 ∈ tbG := tbG_in (List.mem_append_right _ (List.mem_of_getElem? (i := 3) (by decide +kernel))) rfl
theorem ki6 : Cond.initialized RX6 ∈ tbG := tbG_in (List.mem_append_right _ (List.mem_of_getElem? (i := 14) (by decide +kernel))) rfl
theorem ki7 : Cond.initialized RX7 ∈ tbG := tbG_in (List.mem_append_right _ (List.mem_of_getElem? (i := 4) (by decide +kernel))) rfl
theorem ki8 : Cond.initialized RX8 ∈ tbG := tbG_in (List.mem_append_right _ (List.mem_of_getElem? (i := 7) (by decide +kernel))) rfl
theorem ki9 : Cond.initialized RX9 ∈ tbG := tbG_in (List.mem_append_right _ (List.mem_of_getElem? (i := 8) (by decide +kernel))) rfl
theorem ki10 : Cond.initialized RX10 ∈ tbG := tbG_in (List.mem_append_right _ (List.mem_of_getElem? (i := 13) (by decide +kernel))) rfl
theorem ki11 : Cond.initialized RX11 ∈ tbG := tbG_in (List.mem_append_right _ (List.mem_of_getElem? (i := 1) (by decide +kernel))) rfl
theorem ki12 : Cond.initialized RX12 ∈ tbG := tbG_in (List.mem_append_right _ (List.mem_of_getElem? (i := 9) (by decide +kernel))) rfl
end
section
def miX0_init : MI := ((yX0_init, RX0, cX0_init), (1, none), (0, 0), [(0, .aload_n 0, 1), (1, .invokespecial 3, 3), (4, .aload_n 0, 1), (5, .bipush 60, 2), (7, .anewarray 9, 3), (10, .putfield 11, 3), (13, .aload_n 0, 1), (14, .bipush 60, 2), (16, .newarray .int, 2), (18, .putfield 17, 3), (21, .aload_n 0, 1), (22, .iconst 0, 1), (23, .putfield 21, 3), (26, .aload_n 0, 1), (27, .iconst 5, 1), (28, .newarray .long, 2), (30, .putfield 25, 3), (33, .aload_n 0, 1), (34, .iconst 0, 1), (35, .putfield 29, 3), (38, .aload_n 0, 1), (39, .sipush 435, 3), (42, .newarray .long, 2), (44, .putfield 32, 3), (47, .aload_n 0, 1), (48, .sipush 435, 3), (51, .newarray .long, 2), (53, .putfield 35, 3), (56, .aload_n 0, 1), (57, .sipush 435, 3), (60, .newarray .int, 2), (62, .putfield 38, 3), (65, .aload_n 0, 1), (66, .iconst 0, 1), (67, .putfield 41, 3), (70, .aload_n 0, 1), (71, .iconst 0, 1), (72, .putfield 44, 3), (75, .aload_n 0, 1), (76, .iconst 0, 1), (77, .putfield 47, 3), (80, .return_, 1)])
set_option maxRecDepth 100000 in
theorem deX0_init : ∀ q ∈ miX0_init.2.2.2, decode miX0_init.1.2.2 q.1 = .ok q.2 := by decide +kernel
def miX0_begin : MI := ((yX0_begin, RX0, cX0_begin), (1, none), (0, 0), [(0, .aload_n 0, 1), (1, .iconst 0, 1), (2, .putfield 21, 3), (5, .aload_n 0, 1), (6, .iconst 0, 1), (7, .putfield 29, 3), (10, .aload_n 0, 1), (11, .iconst 0, 1), (12, .putfield 41, 3), (15, .aload_n 0, 1), (16, .iconst 0, 1), (17, .putfield 44, 3), (20, .aload_n 0, 1), (21, .iconst 0, 1), (22, .putfield 47, 3), (25, .return_, 1)])
set_option maxRecDepth 100000 in
theorem deX0_begin : ∀ q ∈ miX0_begin.2.2.2, decode miX0_begin.1.2.2 q.1 = .ok q.2 := by decide +kernel
def miX0_offer : MI := ((yX0_offer, RX0, cX0_offer), (2, none), (0, 0), [(0, .aload_n 0, 1), (1, .getfield 21, 3), (4, .aload_n 0, 1), (5, .getfield 11, 3), (8, .arraylength, 1), (9, .if_icmp .ge 43, 3), (12, .aload_n 1, 1), (13, .getfield 50, 3), (16, .sipush 1000, 3), (19, .if_icmp .ge 33, 3), (22, .aload_n 0, 1), (23, .getfield 11, 3), (26, .aload_n 0, 1), (27, .getfield 21, 3), (30, .aload_n 1, 1), (31, .aastore, 1), (32, .aload_n 0, 1), (33, .getfield 17, 3), (36, .aload_n 0, 1), (37, .getfield 21, 3), (40, .iconst 0, 1), (41, .iastore, 1), (42, .aload_n 0, 1), (43, .dup, 1), (44, .getfield 21, 3), (47, .iconst 1, 1), (48, .iadd, 1), (49, .putfield 21, 3), (52, .return_, 1)])
set_option maxRecDepth 100000 in
theorem deX0_offer : ∀ q ∈ miX0_offer.2.2.2, decode miX0_offer.1.2.2 q.1 = .ok q.2 := by decide +kernel
def miX0_watch : MI := ((yX0_watch, RX0, cX0_watch), (3, none), (0, 0), [(0, .aload_n 0, 1), (1, .getfield 41, 3), (4, .sipush 435, 3), (7, .if_icmp .ge 75, 3), (10, .aload_n 0, 1), (11, .getfield 32, 3), (14, .aload_n 0, 1), (15, .getfield 41, 3), (18, .aload_n 1, 1), (19, .getfield 53, 3), (22, .aload_n 2, 1), (23, .getfield 53, 3), (26, .ldc2_w 57, 3), (29, .lxor, 1), (30, .land, 1), (31, .lastore, 1), (32, .aload_n 0, 1), (33, .getfield 35, 3), (36, .aload_n 0, 1), (37, .getfield 41, 3), (40, .aload_n 2, 1), (41, .getfield 53, 3), (44, .aload_n 1, 1), (45, .getfield 53, 3), (48, .ldc2_w 57, 3), (51, .lxor, 1), (52, .land, 1), (53, .lastore, 1), (54, .aload_n 0, 1), (55, .getfield 38, 3), (58, .aload_n 0, 1), (59, .getfield 41, 3), (62, .aload_n 1, 1), (63, .getfield 59, 3), (66, .aload_n 2, 1), (67, .getfield 59, 3), (70, .isub, 1), (71, .iastore, 1), (72, .aload_n 0, 1), (73, .dup, 1), (74, .getfield 41, 3), (77, .iconst 1, 1), (78, .iadd, 1), (79, .putfield 41, 3), (82, .return_, 1)])
set_option maxRecDepth 100000 in
theorem deX0_watch : ∀ q ∈ miX0_watch.2.2.2, decode miX0_watch.1.2.2 q.1 = .ok q.2 := by decide +kernel
def miX0_search : MI := ((yX0_search, RX0, cX0_search), (2, (some .int)), (0, 0), [(0, .aload_n 0, 1), (1, .iconst 0, 1), (2, .iload_n 1, 1), (3, .invokevirtual 62, 3), (6, .ireturn, 1)])
set_option maxRecDepth 100000 in
theorem deX0_search : ∀ q ∈ miX0_search.2.2.2, decode miX0_search.1.2.2 q.1 = .ok q.2 := by decide +kernel
def miX0_lengthen : MI := ((yX0_lengthen, RX0, cX0_lengthen), (5, (some .int)), (0, 0), [(0, .iload_n 2, 1), (1, .ifCond .le 15, 3), (4, .aload_n 0, 1), (5, .getfield 29, 3), (8, .aload_n 0, 1), (9, .getfield 25, 3), (12, .arraylength, 1), (13, .if_icmp .lt 16, 3), (16, .iload_n 2, 1), (17, .ifCond .le 7, 3), (20, .iconst 0, 1), (21, .goto 7, 3), (24, .aload_n 0, 1), (25, .invokevirtual 66, 3), (28, .ireturn, 1), (29, .iload_n 1, 1), (30, .istore_n 3, 1), (31, .iload_n 3, 1), (32, .aload_n 0, 1), (33, .getfield 21, 3), (36, .if_icmp .ge 107, 3), (39, .aload_n 0, 1), (40, .getfield 11, 3), (43, .iload_n 3, 1), (44, .aaload, 1), (45, .getfield 50, 3), (48, .aload_n 0, 1), (49, .getfield 17, 3), (52, .iload_n 3, 1), (53, .iaload, 1), (54, .iadd, 1), (55, .sipush 1000, 3), (58, .if_icmp .ge 79, 3), (61, .aload_n 0, 1), (62, .getfield 25, 3), (65, .aload_n 0, 1), (66, .getfield 29, 3), (69, .aload_n 0, 1), (70, .getfield 11, 3), (73, .iload_n 3, 1), (74, .aaload, 1), (75, .invokevirtual 70, 3), (78, .lastore, 1), (79, .aload_n 0, 1), (80, .dup, 1), (81, .getfield 29, 3), (84, .iconst 1, 1), (85, .iadd, 1), (86, .putfield 29, 3), (89, .aload_n 0, 1), (90, .getfield 17, 3), (93, .iload_n 3, 1), (94, .dup2, 1), (95, .iaload, 1), (96, .iconst 1, 1), (97, .iadd, 1), (98, .iastore, 1), (99, .aload_n 0, 1), (100, .iload_n 3, 1), (101, .iload_n 2, 1), (102, .iconst 1, 1), (103, .isub, 1), (104, .invokevirtual 62, 3), (107, .istore 4, 2), (109, .aload_n 0, 1), (110, .dup, 1), (111, .getfield 29, 3), (114, .iconst 1, 1), (115, .isub, 1), (116, .putfield 29, 3), (119, .iload 4, 2), (121, .ifCond .eq 6, 3), (124, .iload 4, 2), (126, .ireturn, 1), (127, .aload_n 0, 1), (128, .getfield 17, 3), (131, .iload_n 3, 1), (132, .dup2, 1), (133, .iaload, 1), (134, .iconst 1, 1), (135, .isub, 1), (136, .iastore, 1), (137, .iinc 3 1, 3), (140, .goto (-109), 3), (143, .iconst 0, 1), (144, .ireturn, 1)])
set_option maxRecDepth 100000 in
theorem deX0_lengthen : ∀ q ∈ miX0_lengthen.2.2.2, decode miX0_lengthen.1.2.2 q.1 = .ok q.2 := by decide +kernel
def miX0_look : MI := ((yX0_look, RX0, cX0_look), (2, (some .int)), (0, 0), [(0, .aload_n 0, 1), (1, .getfield 47, 3), (4, .sipush 20000, 3), (7, .if_icmp .lt 5, 3), (10, .iconst 2, 1), (11, .ireturn, 1), (12, .aload_n 0, 1), (13, .dup, 1), (14, .getfield 47, 3), (17, .iconst 1, 1), (18, .iadd, 1), (19, .putfield 47, 3), (22, .aload_n 0, 1), (23, .getfield 44, 3), (26, .istore_n 1, 1), (27, .iload_n 1, 1), (28, .aload_n 0, 1), (29, .getfield 41, 3), (32, .if_icmp .ge 24, 3), (35, .aload_n 0, 1), (36, .iload_n 1, 1), (37, .invokevirtual 74, 3), (40, .ifCond .eq 10, 3), (43, .aload_n 0, 1), (44, .iload_n 1, 1), (45, .putfield 44, 3), (48, .iconst 0, 1), (49, .ireturn, 1), (50, .iinc 1 1, 3), (53, .goto (-26), 3), (56, .iconst 0, 1), (57, .istore_n 1, 1), (58, .iload_n 1, 1), (59, .aload_n 0, 1), (60, .getfield 44, 3), (63, .if_icmp .ge 32, 3), (66, .iload_n 1, 1), (67, .aload_n 0, 1), (68, .getfield 41, 3), (71, .if_icmp .ge 24, 3), (74, .aload_n 0, 1), (75, .iload_n 1, 1), (76, .invokevirtual 74, 3), (79, .ifCond .eq 10, 3), (82, .aload_n 0, 1), (83, .iload_n 1, 1), (84, .putfield 44, 3), (87, .iconst 0, 1), (88, .ireturn, 1), (89, .iinc 1 1, 3), (92, .goto (-34), 3), (95, .iconst 1, 1), (96, .ireturn, 1)])
set_option maxRecDepth 100000 in
theorem deX0_look : ∀ q ∈ miX0_look.2.2.2, decode miX0_look.1.2.2 q.1 = .ok q.2 := by decide +kernel
def miX0_doMeet : MI := ((yX0_doMeet, RX0, cX0_doMeet), (4, (some .boolean)), (0, 0), [(0, .aload_n 0, 1), (1, .getfield 38, 3), (4, .iload_n 1, 1), (5, .iaload, 1), (6, .istore_n 2, 1), (7, .iconst 0, 1), (8, .istore_n 3, 1), (9, .iload_n 3, 1), (10, .aload_n 0, 1), (11, .getfield 29, 3), (14, .if_icmp .ge 54, 3), (17, .aload_n 0, 1), (18, .getfield 32, 3), (21, .iload_n 1, 1), (22, .laload, 1), (23, .aload_n 0, 1), (24, .getfield 25, 3), (27, .iload_n 3, 1), (28, .laload, 1), (29, .land, 1), (30, .lconst 0, 1), (31, .lcmp, 1), (32, .ifCond .eq 9, 3), (35, .iinc 2 1, 3), (38, .goto 24, 3), (41, .aload_n 0, 1), (42, .getfield 35, 3), (45, .iload_n 1, 1), (46, .laload, 1), (47, .aload_n 0, 1), (48, .getfield 25, 3), (51, .iload_n 3, 1), (52, .laload, 1), (53, .land, 1), (54, .lconst 0, 1), (55, .lcmp, 1), (56, .ifCond .eq 6, 3), (59, .iinc 2 (-1), 3), (62, .iinc 3 1, 3), (65, .goto (-56), 3), (68, .iload_n 2, 1), (69, .ifCond .ne 7, 3), (72, .iconst 1, 1), (73, .goto 4, 3), (76, .iconst 0, 1), (77, .ireturn, 1)])
set_option maxRecDepth 100000 in
theorem deX0_doMeet : ∀ q ∈ miX0_doMeet.2.2.2, decode miX0_doMeet.1.2.2 q.1 = .ok q.2 := by decide +kernel
def miX0_lengthenThreads : MI := ((yX0_lengthenThreads, RX0, cX0_lengthenThreads), (2, none), (0, 0), [(0, .iconst 0, 1), (1, .istore_n 1, 1), (2, .iload_n 1, 1), (3, .aload_n 0, 1), (4, .getfield 21, 3), (7, .if_icmp .ge 29, 3), (10, .aload_n 0, 1), (11, .getfield 11, 3), (14, .iload_n 1, 1), (15, .aaload, 1), (16, .dup, 1), (17, .getfield 50, 3), (20, .aload_n 0, 1), (21, .getfield 17, 3), (24, .iload_n 1, 1), (25, .iaload, 1), (26, .iadd, 1), (27, .putfield 50, 3), (30, .iinc 1 1, 3), (33, .goto (-31), 3), (36, .return_, 1)])
set_option maxRecDepth 100000 in
theorem deX0_lengthenThreads : ∀ q ∈ miX0_lengthenThreads.2.2.2, decode miX0_lengthenThreads.1.2.2 q.1 = .ok q.2 := by decide +kernel
def miX1_init : MI := ((yX1_init, RX1, cX1_init), (1, none), (0, 0), [(0, .aload_n 0, 1), (1, .invokespecial 3, 3), (4, .aload_n 0, 1), (5, .bipush 60, 2), (7, .anewarray 9, 3), (10, .putfield 11, 3), (13, .aload_n 0, 1), (14, .iconst 0, 1), (15, .putfield 17, 3), (18, .aload_n 0, 1), (19, .lconst 0, 1), (20, .putfield 21, 3), (23, .return_, 1)])
set_option maxRecDepth 100000 in
theorem deX1_init : ∀ q ∈ miX1_init.2.2.2, decode miX1_init.1.2.2 q.1 = .ok q.2 := by decide +kernel
def miX1_gather : MI := ((yX1_gather, RX1, cX1_gather), (5, none), (0, 0), [(0, .aload_n 0, 1), (1, .iconst 0, 1), (2, .putfield 17, 3), (5, .aload_n 0, 1), (6, .lconst 0, 1), (7, .putfield 21, 3), (10, .aload_n 0, 1), (11, .aload_n 1, 1), (12, .iconst 0, 1), (13, .lconst 0, 1), (14, .invokevirtual 25, 3), (17, .iconst 0, 1), (18, .istore_n 2, 1), (19, .iload_n 2, 1), (20, .aload_n 0, 1), (21, .getfield 17, 3), (24, .if_icmp .ge 72, 3), (27, .iload_n 2, 1), (28, .aload_n 0, 1), (29, .getfield 11, 3), (32, .arraylength, 1), (33, .if_icmp .ge 63, 3), (36, .aload_n 0, 1), (37, .getfield 11, 3), (40, .iload_n 2, 1), (41, .aaload, 1), (42, .astore 4, 2), (44, .aload 4, 2), (46, .instanceof 29, 3), (49, .ifCond .eq 41, 3), (52, .aload 4, 2), (54, .checkcast 29, 3), (57, .astore_n 3, 1), (58, .aload_n 0, 1), (59, .aload_n 3, 1), (60, .getfield 31, 3), (63, .aload_n 3, 1), (64, .getfield 35, 3), (67, .aload_n 3, 1), (68, .getfield 38, 3), (71, .invokevirtual 25, 3), (74, .aload_n 0, 1), (75, .aload_n 3, 1), (76, .getfield 41, 3), (79, .aload_n 3, 1), (80, .getfield 35, 3), (83, .aload_n 3, 1), (84, .getfield 38, 3), (87, .invokevirtual 25, 3), (90, .iinc 2 1, 3), (93, .goto (-74), 3), (96, .aload_n 0, 1), (97, .getfield 17, 3), (100, .iconst 1, 1), (101, .isub, 1), (102, .istore_n 2, 1), (103, .iload_n 2, 1), (104, .ifCond .le 59, 3), (107, .aload_n 0, 1), (108, .getfield 11, 3), (111, .iload_n 2, 1), (112, .aaload, 1), (113, .getfield 44, 3), (116, .astore_n 3, 1), (117, .aload_n 3, 1), (118, .ifnull 39, 3), (121, .aload_n 3, 1), (122, .dup, 1), (123, .getfield 48, 3), (126, .aload_n 0, 1), (127, .getfield 11, 3), (130, .iload_n 2, 1), (131, .aaload, 1), (132, .getfield 51, 3), (135, .ladd, 1), (136, .putfield 48, 3), (139, .aload_n 3, 1), (140, .dup, 1), (141, .getfield 52, 3), (144, .aload_n 0, 1), (145, .getfield 11, 3), (148, .iload_n 2, 1), (149, .aaload, 1), (150, .getfield 55, 3), (153, .ladd, 1), (154, .putfield 52, 3), (157, .iinc 2 (-1), 3), (160, .goto (-57), 3), (163, .return_, 1)])
set_option maxRecDepth 100000 in
theorem deX1_gather : ∀ q ∈ miX1_gather.2.2.2, decode miX1_gather.1.2.2 q.1 = .ok q.2 := by decide +kernel
def miX1_add : MI := ((yX1_add, RX1, cX1_add), (5, none), (0, 0), [(0, .aload_n 1, 1), (1, .ifnull 15, 3), (4, .aload_n 0, 1), (5, .getfield 17, 3), (8, .aload_n 0, 1), (9, .getfield 11, 3), (12, .arraylength, 1), (13, .if_icmp .lt 4, 3), (16, .return_, 1), (17, .aload_n 1, 1), (18, .aload_n 0, 1), (19, .getfield 17, 3), (22, .ifCond .ne 7, 3), (25, .iconst 0, 1), (26, .goto 9, 3), (29, .iload_n 2, 1), (30, .aload_n 1, 1), (31, .getfield 56, 3), (34, .iadd, 1), (35, .putfield 59, 3), (38, .aload_n 1, 1), (39, .lload_n 3, 1), (40, .aload_n 1, 1), (41, .invokevirtual 60, 3), (44, .lor, 1), (45, .putfield 64, 3), (48, .aload_n 1, 1), (49, .aload_n 1, 1), (50, .getfield 65, 3), (53, .i2l, 1), (54, .putfield 51, 3), (57, .aload_n 1, 1), (58, .aload_n 1, 1), (59, .getfield 68, 3), (62, .iconst 1, 1), (63, .if_icmp .ne 11, 3), (66, .aload_n 1, 1), (67, .getfield 65, 3), (70, .i2l, 1), (71, .goto 4, 3), (74, .lconst 0, 1), (75, .putfield 55, 3), (78, .aload_n 0, 1), (79, .getfield 11, 3), (82, .aload_n 0, 1), (83, .getfield 17, 3), (86, .aload_n 1, 1), (87, .aastore, 1), (88, .aload_n 0, 1), (89, .dup, 1), (90, .getfield 17, 3), (93, .iconst 1, 1), (94, .iadd, 1), (95, .putfield 17, 3), (98, .aload_n 0, 1), (99, .dup, 1), (100, .getfield 21, 3), (103, .aload_n 1, 1), (104, .invokevirtual 60, 3), (107, .lor, 1), (108, .putfield 21, 3), (111, .return_, 1)])
set_option maxRecDepth 100000 in
theorem deX1_add : ∀ q ∈ miX1_add.2.2.2, decode miX1_add.1.2.2 q.1 = .ok q.2 := by decide +kernel
def miX1_holds : MI := ((yX1_holds, RX1, cX1_holds), (2, (some .boolean)), (0, 0), [(0, .aload_n 0, 1), (1, .getfield 21, 3), (4, .aload_n 1, 1), (5, .invokevirtual 60, 3), (8, .land, 1), (9, .lconst 0, 1), (10, .lcmp, 1), (11, .ifCond .eq 7, 3), (14, .iconst 1, 1), (15, .goto 4, 3), (18, .iconst 0, 1), (19, .ireturn, 1)])
set_option maxRecDepth 100000 in
theorem deX1_holds : ∀ q ∈ miX1_holds.2.2.2, decode miX1_holds.1.2.2 q.1 = .ok q.2 := by decide +kernel
def miX1_countOf : MI := ((yX1_countOf, RX1, cX1_countOf), (4, (some .int)), (0, 0), [(0, .iconst 0, 1), (1, .istore_n 2, 1), (2, .iconst 0, 1), (3, .istore_n 3, 1), (4, .iload_n 3, 1), (5, .aload_n 0, 1), (6, .getfield 17, 3), (9, .if_icmp .ge 25, 3), (12, .aload_n 0, 1), (13, .getfield 11, 3), (16, .iload_n 3, 1), (17, .aaload, 1), (18, .getfield 68, 3), (21, .iload_n 1, 1), (22, .if_icmp .ne 6, 3), (25, .iinc 2 1, 3), (28, .iinc 3 1, 3), (31, .goto (-27), 3), (34, .iload_n 2, 1), (35, .ireturn, 1)])
set_option maxRecDepth 100000 in
theorem deX1_countOf : ∀ q ∈ miX1_countOf.2.2.2, decode miX1_countOf.1.2.2 q.1 = .ok q.2 := by decide +kernel
def miX1_notLevel : MI := ((yX1_notLevel, RX1, cX1_notLevel), (5, (some .int)), (0, 0), [(0, .iconst 0, 1), (1, .istore_n 1, 1), (2, .iconst 0, 1), (3, .istore_n 2, 1), (4, .iload_n 2, 1), (5, .aload_n 0, 1), (6, .getfield 17, 3), (9, .if_icmp .ge 43, 3), (12, .aload_n 0, 1), (13, .getfield 11, 3), (16, .iload_n 2, 1), (17, .aaload, 1), (18, .astore 4, 2), (20, .aload 4, 2), (22, .instanceof 29, 3), (25, .ifCond .eq 21, 3), (28, .aload 4, 2), (30, .checkcast 29, 3), (33, .astore_n 3, 1), (34, .aload_n 3, 1), (35, .invokevirtual 71, 3), (38, .lconst 0, 1), (39, .lcmp, 1), (40, .ifCond .eq 6, 3), (43, .iinc 1 1, 3), (46, .iinc 2 1, 3), (49, .goto (-45), 3), (52, .iload_n 1, 1), (53, .ireturn, 1)])
set_option maxRecDepth 100000 in
theorem deX1_notLevel : ∀ q ∈ miX1_notLevel.2.2.2, decode miX1_notLevel.1.2.2 q.1 = .ok q.2 := by decide +kernel
def miX1_canAllBeLevel : MI := ((yX1_canAllBeLevel, RX1, cX1_canAllBeLevel), (4, (some .boolean)), (0, 0), [(0, .iconst 0, 1), (1, .istore_n 1, 1), (2, .iload_n 1, 1), (3, .aload_n 0, 1), (4, .getfield 17, 3), (7, .if_icmp .ge 37, 3), (10, .aload_n 0, 1), (11, .getfield 11, 3), (14, .iload_n 1, 1), (15, .aaload, 1), (16, .astore_n 3, 1), (17, .aload_n 3, 1), (18, .instanceof 29, 3), (21, .ifCond .eq 17, 3), (24, .aload_n 3, 1), (25, .checkcast 29, 3), (28, .astore_n 2, 1), (29, .aload_n 2, 1), (30, .invokevirtual 74, 3), (33, .ifCond .ne 5, 3), (36, .iconst 0, 1), (37, .ireturn, 1), (38, .iinc 1 1, 3), (41, .goto (-39), 3), (44, .iconst 1, 1), (45, .ireturn, 1)])
set_option maxRecDepth 100000 in
theorem deX1_canAllBeLevel : ∀ q ∈ miX1_canAllBeLevel.2.2.2, decode miX1_canAllBeLevel.1.2.2 q.1 = .ok q.2 := by decide +kernel
def miX1_tieAllLevel : MI := ((yX1_tieAllLevel, RX1, cX1_tieAllLevel), (5, (some .int)), (0, 0), [(0, .iconst 0, 1), (1, .istore_n 1, 1), (2, .iconst 0, 1), (3, .istore_n 2, 1), (4, .iload_n 2, 1), (5, .aload_n 0, 1), (6, .getfield 17, 3), (9, .if_icmp .ge 38, 3), (12, .aload_n 0, 1), (13, .getfield 11, 3), (16, .iload_n 2, 1), (17, .aaload, 1), (18, .astore 4, 2), (20, .aload 4, 2), (22, .instanceof 29, 3), (25, .ifCond .eq 16, 3), (28, .aload 4, 2), (30, .checkcast 29, 3), (33, .astore_n 3, 1), (34, .aload_n 3, 1), (35, .invokevirtual 78, 3), (38, .iinc 1 1, 3), (41, .iinc 2 1, 3), (44, .goto (-40), 3), (47, .iload_n 1, 1), (48, .ireturn, 1)])
set_option maxRecDepth 100000 in
theorem deX1_tieAllLevel : ∀ q ∈ miX1_tieAllLevel.2.2.2, decode miX1_tieAllLevel.1.2.2 q.1 = .ok q.2 := by decide +kernel
def miX1_hasWholeArms : MI := ((yX1_hasWholeArms, RX1, cX1_hasWholeArms), (4, (some .boolean)), (0, 0), [(0, .iconst 0, 1), (1, .istore_n 1, 1), (2, .iload_n 1, 1), (3, .aload_n 0, 1), (4, .getfield 17, 3), (7, .if_icmp .ge 37, 3), (10, .aload_n 0, 1), (11, .getfield 11, 3), (14, .iload_n 1, 1), (15, .aaload, 1), (16, .astore_n 3, 1), (17, .aload_n 3, 1), (18, .instanceof 29, 3), (21, .ifCond .eq 17, 3), (24, .aload_n 3, 1), (25, .checkcast 29, 3), (28, .astore_n 2, 1), (29, .aload_n 2, 1), (30, .invokevirtual 81, 3), (33, .ifCond .ne 5, 3), (36, .iconst 0, 1), (37, .ireturn, 1), (38, .iinc 1 1, 3), (41, .goto (-39), 3), (44, .iconst 1, 1), (45, .ireturn, 1)])
set_option maxRecDepth 100000 in
theorem deX1_hasWholeArms : ∀ q ∈ miX1_hasWholeArms.2.2.2, decode miX1_hasWholeArms.1.2.2 q.1 = .ok q.2 := by decide +kernel
def miX1_isShape : MI := ((yX1_isShape, RX1, cX1_isShape), (3, (some .boolean)), (0, 0), [(0, .aload_n 0, 1), (1, .getfield 17, 3), (4, .iconst 1, 1), (5, .iadd, 1), (6, .bipush 8, 2), (8, .if_icmp .gt 10, 3), (11, .aload_n 0, 1), (12, .invokevirtual 84, 3), (15, .ifCond .ne 5, 3), (18, .iconst 0, 1), (19, .ireturn, 1), (20, .iconst 0, 1), (21, .istore_n 1, 1), (22, .iload_n 1, 1), (23, .aload_n 0, 1), (24, .getfield 17, 3), (27, .if_icmp .ge 32, 3), (30, .aload_n 0, 1), (31, .getfield 11, 3), (34, .iload_n 1, 1), (35, .aaload, 1), (36, .invokestatic 85, 3), (39, .astore_n 2, 1), (40, .aload_n 2, 1), (41, .ifnull 10, 3), (44, .aload_n 2, 1), (45, .getfield 89, 3), (48, .ifCond .eq 5, 3), (51, .iconst 0, 1), (52, .ireturn, 1), (53, .iinc 1 1, 3), (56, .goto (-34), 3), (59, .iconst 1, 1), (60, .ireturn, 1)])
set_option maxRecDepth 100000 in
theorem deX1_isShape : ∀ q ∈ miX1_isShape.2.2.2, decode miX1_isShape.1.2.2 q.1 = .ok q.2 := by decide +kernel
def miX1_lowestNumber : MI := ((yX1_lowestNumber, RX1, cX1_lowestNumber), (5, (some .int)), (0, 0), [(0, .iconst (-1), 1), (1, .istore_n 1, 1), (2, .iconst (-1), 1), (3, .istore_n 2, 1), (4, .iconst 0, 1), (5, .istore_n 3, 1), (6, .iload_n 3, 1), (7, .aload_n 0, 1), (8, .getfield 17, 3), (11, .if_icmp .ge 56, 3), (14, .aload_n 0, 1), (15, .getfield 11, 3), (18, .iload_n 3, 1), (19, .aaload, 1), (20, .astore 4, 2), (22, .aload 4, 2), (24, .getfield 59, 3), (27, .iload_n 2, 1), (28, .if_icmp .gt 21, 3), (31, .aload 4, 2), (33, .getfield 59, 3), (36, .iload_n 2, 1), (37, .if_icmp .ne 24, 3), (40, .aload 4, 2), (42, .getfield 92, 3), (45, .iload_n 1, 1), (46, .if_icmp .ge 15, 3), (49, .aload 4, 2), (51, .getfield 92, 3), (54, .istore_n 1, 1), (55, .aload 4, 2), (57, .getfield 59, 3), (60, .istore_n 2, 1), (61, .iinc 3 1, 3), (64, .goto (-58), 3), (67, .iload_n 1, 1), (68, .ireturn, 1)])
set_option maxRecDepth 100000 in
theorem deX1_lowestNumber : ∀ q ∈ miX1_lowestNumber.2.2.2, decode miX1_lowestNumber.1.2.2 q.1 = .ok q.2 := by decide +kernel
def miX1_staysLevelBare : MI := ((yX1_staysLevelBare, RX1, cX1_staysLevelBare), (4, (some .boolean)), (0, 0), [(0, .iconst 0, 1), (1, .istore_n 1, 1), (2, .iload_n 1, 1), (3, .aload_n 0, 1), (4, .getfield 17, 3), (7, .if_icmp .ge 37, 3), (10, .aload_n 0, 1), (11, .getfield 11, 3), (14, .iload_n 1, 1), (15, .aaload, 1), (16, .astore_n 3, 1), (17, .aload_n 3, 1), (18, .instanceof 29, 3), (21, .ifCond .eq 17, 3), (24, .aload_n 3, 1), (25, .checkcast 29, 3), (28, .astore_n 2, 1), (29, .aload_n 2, 1), (30, .invokevirtual 95, 3), (33, .ifCond .ne 5, 3), (36, .iconst 0, 1), (37, .ireturn, 1), (38, .iinc 1 1, 3), (41, .goto (-39), 3), (44, .iconst 1, 1), (45, .ireturn, 1)])
set_option maxRecDepth 100000 in
theorem deX1_staysLevelBare : ∀ q ∈ miX1_staysLevelBare.2.2.2, decode miX1_staysLevelBare.1.2.2 q.1 = .ok q.2 := by decide +kernel
def miX2_init : MI := ((yX2_init, RX2, cX2_init), (4, none), (0, 0), [(0, .aload_n 0, 1), (1, .invokespecial 3, 3), (4, .aload_n 0, 1), (5, .aconst_null, 1), (6, .putfield 9, 3), (9, .aload_n 0, 1), (10, .iconst (-1), 1), (11, .putfield 15, 3), (14, .aload_n 0, 1), (15, .iconst 0, 1), (16, .putfield 19, 3), (19, .aload_n 0, 1), (20, .lconst 0, 1), (21, .putfield 22, 3), (24, .aload_n 0, 1), (25, .iconst 0, 1), (26, .putfield 26, 3), (29, .aload_n 0, 1), (30, .lconst 0, 1), (31, .putfield 29, 3), (34, .aload_n 0, 1), (35, .lconst 0, 1), (36, .putfield 32, 3), (39, .aload_n 0, 1), (40, .iload_n 1, 1), (41, .putfield 35, 3), (44, .aload_n 0, 1), (45, .iload_n 2, 1), (46, .putfield 38, 3), (49, .aload_n 0, 1), (50, .iload_n 3, 1), (51, .putfield 41, 3), (54, .return_, 1)])
set_option maxRecDepth 100000 in
theorem deX2_init : ∀ q ∈ miX2_init.2.2.2, decode miX2_init.1.2.2 q.1 = .ok q.2 := by decide +kernel
def miX2_bit : MI := ((yX2_bit, RX2, cX2_bit), (1, (some .long)), (0, 0), [(0, .lconst 1, 1), (1, .aload_n 0, 1), (2, .getfield 35, 3), (5, .lshl, 1), (6, .lreturn, 1)])
set_option maxRecDepth 100000 in
theorem deX2_bit : ∀ q ∈ miX2_bit.2.2.2, decode miX2_bit.1.2.2 q.1 = .ok q.2 := by decide +kernel
def miX2_comeOff : MI := ((yX2_comeOff, RX2, cX2_comeOff), (1, none), (0, 0), [(0, .aload_n 0, 1), (1, .getfield 9, 3), (4, .ifnull 15, 3), (7, .aload_n 0, 1), (8, .getfield 9, 3), (11, .aload_n 0, 1), (12, .getfield 15, 3), (15, .aconst_null, 1), (16, .invokevirtual 44, 3), (19, .aload_n 0, 1), (20, .aconst_null, 1), (21, .putfield 9, 3), (24, .aload_n 0, 1), (25, .iconst (-1), 1), (26, .putfield 15, 3), (29, .aload_n 0, 1), (30, .iconst 0, 1), (31, .putfield 19, 3), (34, .return_, 1)])
set_option maxRecDepth 100000 in
theorem deX2_comeOff : ∀ q ∈ miX2_comeOff.2.2.2, decode miX2_comeOff.1.2.2 q.1 = .ok q.2 := by decide +kernel
def miX3_init : MI := ((yX3_init, RX3, cX3_init), (1, none), (0, 0), [(0, .aload_n 0, 1), (1, .invokespecial 3, 3), (4, .aload_n 0, 1), (5, .bipush 10, 2), (7, .newarray .int, 2), (9, .putfield 9, 3), (12, .aload_n 0, 1), (13, .iconst 0, 1), (14, .putfield 15, 3), (17, .aload_n 0, 1), (18, .bipush 9, 2), (20, .newarray .int, 2), (22, .putfield 19, 3), (25, .aload_n 0, 1), (26, .iconst 0, 1), (27, .putfield 22, 3), (30, .aload_n 0, 1), (31, .iconst 1, 1), (32, .putfield 25, 3), (35, .aload_n 0, 1), (36, .sipush 1024, 3), (39, .newarray .int, 2), (41, .putfield 29, 3), (44, .aload_n 0, 1), (45, .sipush 1024, 3), (48, .newarray .int, 2), (50, .putfield 32, 3), (53, .aload_n 0, 1), (54, .bipush 9, 2), (56, .sipush 252, 3), (59, .multianewarray 35 2, 4), (63, .putfield 37, 3), (66, .aload_n 0, 1), (67, .bipush 9, 2), (69, .newarray .int, 2), (71, .putfield 40, 3), (74, .aload_n 0, 1), (75, .sipush 1024, 3), (78, .newarray .int, 2), (80, .putfield 43, 3), (83, .aload_n 0, 1), (84, .sipush 1024, 3), (87, .newarray .int, 2), (89, .putfield 46, 3), (92, .return_, 1)])
set_option maxRecDepth 100000 in
theorem deX3_init : ∀ q ∈ miX3_init.2.2.2, decode miX3_init.1.2.2 q.1 = .ok q.2 := by decide +kernel
def miX3_count : MI := ((yX3_count, RX3, cX3_count), (4, (some .int)), (0, 0), [(0, .aload_n 0, 1), (1, .aload_n 2, 1), (2, .invokevirtual 49, 3), (5, .aload_n 0, 1), (6, .iconst 0, 1), (7, .putfield 22, 3), (10, .aload_n 0, 1), (11, .iconst 1, 1), (12, .putfield 25, 3), (15, .aload_n 0, 1), (16, .getfield 19, 3), (19, .iconst 0, 1), (20, .iconst 0, 1), (21, .iastore, 1), (22, .aload_n 0, 1), (23, .aload_n 1, 1), (24, .aload_n 0, 1), (25, .invokevirtual 53, 3), (28, .iconst 0, 1), (29, .invokevirtual 57, 3), (32, .aload_n 0, 1), (33, .getfield 25, 3), (36, .ifCond .ne 5, 3), (39, .iconst 0, 1), (40, .ireturn, 1), (41, .aload_n 0, 1), (42, .invokevirtual 61, 3), (45, .iconst 0, 1), (46, .istore_n 3, 1), (47, .iload_n 3, 1), (48, .aload_n 0, 1), (49, .getfield 22, 3), (52, .if_icmp .ge 14, 3), (55, .aload_n 0, 1), (56, .iload_n 3, 1), (57, .invokevirtual 64, 3), (60, .iinc 3 1, 3), (63, .goto (-16), 3), (66, .aload_n 0, 1), (67, .getfield 43, 3), (70, .aload_n 0, 1), (71, .invokevirtual 68, 3), (74, .iaload, 1), (75, .ireturn, 1)])
set_option maxRecDepth 100000 in
theorem deX3_count : ∀ q ∈ miX3_count.2.2.2, decode miX3_count.1.2.2 q.1 = .ok q.2 := by decide +kernel
def miX3_firstPlaceOf : MI := ((yX3_firstPlaceOf, RX3, cX3_firstPlaceOf), (2, (some .int)), (0, 0), [(0, .iload_n 1, 1), (1, .ifCond .lt 37, 3), (4, .iload_n 1, 1), (5, .aload_n 0, 1), (6, .getfield 15, 3), (9, .if_icmp .ge 29, 3), (12, .aload_n 0, 1), (13, .getfield 46, 3), (16, .aload_n 0, 1), (17, .invokevirtual 68, 3), (20, .iaload, 1), (21, .iconst 3, 1), (22, .aload_n 0, 1), (23, .getfield 15, 3), (26, .iconst 1, 1), (27, .isub, 1), (28, .iload_n 1, 1), (29, .isub, 1), (30, .imul, 1), (31, .ishr, 1), (32, .bipush 7, 2), (34, .iand, 1), (35, .goto 4, 3), (38, .iconst (-1), 1), (39, .ireturn, 1)])
set_option maxRecDepth 100000 in
theorem deX3_firstPlaceOf : ∀ q ∈ miX3_firstPlaceOf.2.2.2, decode miX3_firstPlaceOf.1.2.2 q.1 = .ok q.2 := by decide +kernel
def miX3_fullSet : MI := ((yX3_fullSet, RX3, cX3_fullSet), (1, (some .int)), (0, 0), [(0, .iconst 1, 1), (1, .aload_n 0, 1), (2, .getfield 15, 3), (5, .ishl, 1), (6, .iconst 1, 1), (7, .isub, 1), (8, .ireturn, 1)])
set_option maxRecDepth 100000 in
theorem deX3_fullSet : ∀ q ∈ miX3_fullSet.2.2.2, decode miX3_fullSet.1.2.2 q.1 = .ok q.2 := by decide +kernel
def miX3_takeNumbers : MI := ((yX3_takeNumbers, RX3, cX3_takeNumbers), (3, none), (0, 0), [(0, .aload_n 0, 1), (1, .aload_n 1, 1), (2, .getfield 71, 3), (5, .bipush 10, 2), (7, .invokestatic 76, 3), (10, .putfield 15, 3), (13, .iconst 0, 1), (14, .istore_n 2, 1), (15, .iload_n 2, 1), (16, .aload_n 0, 1), (17, .getfield 15, 3), (20, .if_icmp .ge 21, 3), (23, .aload_n 0, 1), (24, .getfield 9, 3), (27, .iload_n 2, 1), (28, .aload_n 1, 1), (29, .iload_n 2, 1), (30, .invokevirtual 82, 3), (33, .l2i, 1), (34, .iastore, 1), (35, .iinc 2 1, 3), (38, .goto (-23), 3), (41, .return_, 1)])
set_option maxRecDepth 100000 in
theorem deX3_takeNumbers : ∀ q ∈ miX3_takeNumbers.2.2.2, decode miX3_takeNumbers.1.2.2 q.1 = .ok q.2 := by decide +kernel
def miX3_sumOfNumbers : MI := ((yX3_sumOfNumbers, RX3, cX3_sumOfNumbers), (3, (some .int)), (0, 0), [(0, .iconst 0, 1), (1, .istore_n 1, 1), (2, .iconst 0, 1), (3, .istore_n 2, 1), (4, .iload_n 2, 1), (5, .aload_n 0, 1), (6, .getfield 15, 3), (9, .if_icmp .ge 18, 3), (12, .iload_n 1, 1), (13, .aload_n 0, 1), (14, .getfield 9, 3), (17, .iload_n 2, 1), (18, .iaload, 1), (19, .iadd, 1), (20, .istore_n 1, 1), (21, .iinc 2 1, 3), (24, .goto (-20), 3), (27, .iload_n 1, 1), (28, .ireturn, 1)])
set_option maxRecDepth 100000 in
theorem deX3_sumOfNumbers : ∀ q ∈ miX3_sumOfNumbers.2.2.2, decode miX3_sumOfNumbers.1.2.2 q.1 = .ok q.2 := by decide +kernel
def miX3_share : MI := ((yX3_share, RX3, cX3_share), (7, none), (0, 0), [(0, .iload_n 2, 1), (1, .i2l, 1), (2, .aload_n 1, 1), (3, .iconst 1, 1), (4, .invokevirtual 86, 3), (7, .i2l, 1), (8, .lmul, 1), (9, .lstore 4, 2), (11, .iload_n 3, 1), (12, .bipush 8, 2), (14, .if_icmp .ge 23, 3), (17, .aload_n 1, 1), (18, .getfield 92, 3), (21, .ifCond .le 16, 3), (24, .lload 4, 2), (26, .aload_n 1, 1), (27, .getfield 92, 3), (30, .i2l, 1), (31, .lrem, 1), (32, .lconst 0, 1), (33, .lcmp, 1), (34, .ifCond .eq 9, 3), (37, .aload_n 0, 1), (38, .iconst 0, 1), (39, .putfield 25, 3), (42, .return_, 1), (43, .lload 4, 2), (45, .aload_n 1, 1), (46, .getfield 92, 3), (49, .i2l, 1), (50, .ldiv, 1), (51, .l2i, 1), (52, .istore 6, 2), (54, .aload_n 0, 1), (55, .aload_n 1, 1), (56, .getfield 95, 3), (59, .iload 6, 2), (61, .iload_n 3, 1), (62, .invokevirtual 99, 3), (65, .aload_n 0, 1), (66, .aload_n 1, 1), (67, .getfield 103, 3), (70, .iload_n 2, 1), (71, .iload 6, 2), (73, .isub, 1), (74, .iload_n 3, 1), (75, .invokevirtual 99, 3), (78, .return_, 1)])
set_option maxRecDepth 100000 in
theorem deX3_share : ∀ q ∈ miX3_share.2.2.2, decode miX3_share.1.2.2 q.1 = .ok q.2 := by decide +kernel
def miX3_shareSide : MI := ((yX3_shareSide, RX3, cX3_shareSide), (5, none), (0, 0), [(0, .aload_n 1, 1), (1, .invokestatic 106, 3), (4, .astore 4, 2), (6, .aload 4, 2), (8, .ifnull 16, 3), (11, .aload_n 0, 1), (12, .aload 4, 2), (14, .iload_n 2, 1), (15, .iload_n 3, 1), (16, .iconst 1, 1), (17, .iadd, 1), (18, .invokevirtual 57, 3), (21, .goto 44, 3), (24, .aload_n 0, 1), (25, .getfield 22, 3), (28, .bipush 8, 2), (30, .if_icmp .ge 35, 3), (33, .aload_n 0, 1), (34, .getfield 19, 3), (37, .aload_n 0, 1), (38, .getfield 22, 3), (41, .iconst 1, 1), (42, .iadd, 1), (43, .aload_n 0, 1), (44, .getfield 19, 3), (47, .aload_n 0, 1), (48, .getfield 22, 3), (51, .iaload, 1), (52, .iload_n 2, 1), (53, .iadd, 1), (54, .iastore, 1), (55, .aload_n 0, 1), (56, .dup, 1), (57, .getfield 22, 3), (60, .iconst 1, 1), (61, .iadd, 1), (62, .putfield 22, 3), (65, .return_, 1)])
set_option maxRecDepth 100000 in
theorem deX3_shareSide : ∀ q ∈ miX3_shareSide.2.2.2, decode miX3_shareSide.1.2.2 q.1 = .ok q.2 := by decide +kernel
def miX3_listSets : MI := ((yX3_listSets, RX3, cX3_listSets), (6, none), (0, 0), [(0, .aload_n 0, 1), (1, .getfield 40, 3), (4, .iconst 0, 1), (5, .invokestatic 110, 3), (8, .aload_n 0, 1), (9, .getfield 29, 3), (12, .iconst 0, 1), (13, .iconst 0, 1), (14, .iastore, 1), (15, .aload_n 0, 1), (16, .getfield 32, 3), (19, .iconst 0, 1), (20, .iconst 0, 1), (21, .iastore, 1), (22, .aload_n 0, 1), (23, .iconst 0, 1), (24, .invokevirtual 116, 3), (27, .iconst 0, 1), (28, .istore_n 1, 1), (29, .iload_n 1, 1), (30, .aload_n 0, 1), (31, .getfield 15, 3), (34, .if_icmp .ge 134, 3), (37, .iconst 1, 1), (38, .iload_n 1, 1), (39, .ishl, 1), (40, .istore_n 2, 1), (41, .aload_n 0, 1), (42, .iload_n 1, 1), (43, .invokevirtual 119, 3), (46, .istore_n 3, 1), (47, .iconst 0, 1), (48, .istore 4, 2), (50, .iload 4, 2), (52, .iload_n 2, 1), (53, .if_icmp .ge 109, 3), (56, .aload_n 0, 1), (57, .getfield 29, 3), (60, .iload 4, 2), (62, .iaload, 1), (63, .iconst (-1), 1), (64, .if_icmp .eq 15, 3), (67, .iload 4, 2), (69, .iload_n 3, 1), (70, .iand, 1), (71, .iload_n 3, 1), (72, .if_icmp .ne 7, 3), (75, .iconst 1, 1), (76, .goto 4, 3), (79, .iconst 0, 1), (80, .istore 5, 2), (82, .aload_n 0, 1), (83, .getfield 29, 3), (86, .iload 4, 2), (88, .iload_n 2, 1), (89, .ior, 1), (90, .iload 5, 2), (92, .ifCond .eq 20, 3), (95, .aload_n 0, 1), (96, .getfield 29, 3), (99, .iload 4, 2), (101, .iaload, 1), (102, .aload_n 0, 1), (103, .getfield 9, 3), (106, .iload_n 1, 1), (107, .iaload, 1), (108, .iadd, 1), (109, .goto 4, 3), (112, .iconst (-1), 1), (113, .iastore, 1), (114, .aload_n 0, 1), (115, .getfield 32, 3), (118, .iload 4, 2), (120, .iload_n 2, 1), (121, .ior, 1), (122, .aload_n 0, 1), (123, .getfield 32, 3), (126, .iload 4, 2), (128, .iaload, 1), (129, .iconst 1, 1), (130, .iconst 3, 1), (131, .aload_n 0, 1), (132, .getfield 15, 3), (135, .iconst 1, 1), (136, .isub, 1), (137, .iload_n 1, 1), (138, .isub, 1), (139, .imul, 1), (140, .ishl, 1), (141, .iadd, 1), (142, .iastore, 1), (143, .iload 5, 2), (145, .ifCond .eq 11, 3), (148, .aload_n 0, 1), (149, .iload 4, 2), (151, .iload_n 2, 1), (152, .ior, 1), (153, .invokevirtual 116, 3), (156, .iinc 4 1, 3), (159, .goto (-109), 3), (162, .iinc 1 1, 3), (165, .goto (-136), 3), (168, .aload_n 0, 1), (169, .getfield 43, 3), (172, .iconst 0, 1), (173, .iconst 1, 1), (174, .iastore, 1), (175, .aload_n 0, 1), (176, .getfield 46, 3), (179, .iconst 0, 1), (180, .iconst 0, 1), (181, .iastore, 1), (182, .return_, 1)])
set_option maxRecDepth 100000 in
theorem deX3_listSets : ∀ q ∈ miX3_listSets.2.2.2, decode miX3_listSets.1.2.2 q.1 = .ok q.2 := by decide +kernel
def miX3_likeAhead : MI := ((yX3_likeAhead, RX3, cX3_likeAhead), (3, (some .int)), (0, 0), [(0, .iload_n 1, 1), (1, .iconst 1, 1), (2, .isub, 1), (3, .istore_n 2, 1), (4, .iload_n 2, 1), (5, .ifCond .lt 28, 3), (8, .aload_n 0, 1), (9, .getfield 9, 3), (12, .iload_n 2, 1), (13, .iaload, 1), (14, .aload_n 0, 1), (15, .getfield 9, 3), (18, .iload_n 1, 1), (19, .iaload, 1), (20, .if_icmp .ne 7, 3), (23, .iconst 1, 1), (24, .iload_n 2, 1), (25, .ishl, 1), (26, .ireturn, 1), (27, .iinc 2 (-1), 3), (30, .goto (-26), 3), (33, .iconst 0, 1), (34, .ireturn, 1)])
set_option maxRecDepth 100000 in
theorem deX3_likeAhead : ∀ q ∈ miX3_likeAhead.2.2.2, decode miX3_likeAhead.1.2.2 q.1 = .ok q.2 := by decide +kernel
def miX3_list : MI := ((yX3_list, RX3, cX3_list), (3, none), (0, 0), [(0, .aload_n 0, 1), (1, .getfield 43, 3), (4, .iload_n 1, 1), (5, .iconst 0, 1), (6, .iastore, 1), (7, .iconst 0, 1), (8, .istore_n 2, 1), (9, .iload_n 2, 1), (10, .aload_n 0, 1), (11, .getfield 22, 3), (14, .if_icmp .gt 60, 3), (17, .aload_n 0, 1), (18, .getfield 29, 3), (21, .iload_n 1, 1), (22, .iaload, 1), (23, .aload_n 0, 1), (24, .getfield 19, 3), (27, .iload_n 2, 1), (28, .iaload, 1), (29, .if_icmp .ne 39, 3), (32, .aload_n 0, 1), (33, .getfield 40, 3), (36, .iload_n 2, 1), (37, .iaload, 1), (38, .sipush 252, 3), (41, .if_icmp .ge 27, 3), (44, .aload_n 0, 1), (45, .getfield 37, 3), (48, .iload_n 2, 1), (49, .aaload, 1), (50, .aload_n 0, 1), (51, .getfield 40, 3), (54, .iload_n 2, 1), (55, .iaload, 1), (56, .iload_n 1, 1), (57, .iastore, 1), (58, .aload_n 0, 1), (59, .getfield 40, 3), (62, .iload_n 2, 1), (63, .dup2, 1), (64, .iaload, 1), (65, .iconst 1, 1), (66, .iadd, 1), (67, .iastore, 1), (68, .iinc 2 1, 3), (71, .goto (-62), 3), (74, .return_, 1)])
set_option maxRecDepth 100000 in
theorem deX3_list : ∀ q ∈ miX3_list.2.2.2, decode miX3_list.1.2.2 q.1 = .ok q.2 := by decide +kernel
def miX3_goOnFrom : MI := ((yX3_goOnFrom, RX3, cX3_goOnFrom), (6, none), (0, 0), [(0, .iconst 0, 1), (1, .istore_n 2, 1), (2, .iload_n 2, 1), (3, .aload_n 0, 1), (4, .getfield 40, 3), (7, .iload_n 1, 1), (8, .iaload, 1), (9, .if_icmp .ge 100, 3), (12, .aload_n 0, 1), (13, .getfield 37, 3), (16, .iload_n 1, 1), (17, .aaload, 1), (18, .iload_n 2, 1), (19, .iaload, 1), (20, .istore_n 3, 1), (21, .iconst 0, 1), (22, .istore 4, 2), (24, .aload_n 0, 1), (25, .getfield 43, 3), (28, .iload_n 3, 1), (29, .iaload, 1), (30, .ifCond .le 73, 3), (33, .iload 4, 2), (35, .aload_n 0, 1), (36, .getfield 40, 3), (39, .iload_n 1, 1), (40, .iconst 1, 1), (41, .iadd, 1), (42, .iaload, 1), (43, .if_icmp .ge 60, 3), (46, .aload_n 0, 1), (47, .getfield 37, 3), (50, .iload_n 1, 1), (51, .iconst 1, 1), (52, .iadd, 1), (53, .aaload, 1), (54, .iload 4, 2), (56, .iaload, 1), (57, .istore 5, 2), (59, .iload_n 3, 1), (60, .iload 5, 2), (62, .iand, 1), (63, .iload_n 3, 1), (64, .if_icmp .ne 33, 3), (67, .aload_n 0, 1), (68, .iload_n 3, 1), (69, .iload 5, 2), (71, .aload_n 0, 1), (72, .getfield 46, 3), (75, .iload_n 3, 1), (76, .iaload, 1), (77, .iload_n 1, 1), (78, .aload_n 0, 1), (79, .getfield 32, 3), (82, .iload 5, 2), (84, .iaload, 1), (85, .aload_n 0, 1), (86, .getfield 32, 3), (89, .iload_n 3, 1), (90, .iaload, 1), (91, .isub, 1), (92, .imul, 1), (93, .iadd, 1), (94, .invokevirtual 122, 3), (97, .iinc 4 1, 3), (100, .goto (-76), 3), (103, .iinc 2 1, 3), (106, .goto (-104), 3), (109, .return_, 1)])
set_option maxRecDepth 100000 in
theorem deX3_goOnFrom : ∀ q ∈ miX3_goOnFrom.2.2.2, decode miX3_goOnFrom.1.2.2 q.1 = .ok q.2 := by decide +kernel
def miX3_extend : MI := ((yX3_extend, RX3, cX3_extend), (4, none), (0, 0), [(0, .aload_n 0, 1), (1, .getfield 43, 3), (4, .iload_n 2, 1), (5, .iaload, 1), (6, .ifCond .eq 13, 3), (9, .iload_n 3, 1), (10, .aload_n 0, 1), (11, .getfield 46, 3), (14, .iload_n 2, 1), (15, .iaload, 1), (16, .if_icmp .ge 10, 3), (19, .aload_n 0, 1), (20, .getfield 46, 3), (23, .iload_n 2, 1), (24, .iload_n 3, 1), (25, .iastore, 1), (26, .aload_n 0, 1), (27, .getfield 43, 3), (30, .iload_n 2, 1), (31, .dup2, 1), (32, .iaload, 1), (33, .aload_n 0, 1), (34, .getfield 43, 3), (37, .iload_n 1, 1), (38, .iaload, 1), (39, .iadd, 1), (40, .iastore, 1), (41, .return_, 1)])
set_option maxRecDepth 100000 in
theorem deX3_extend : ∀ q ∈ miX3_extend.2.2.2, decode miX3_extend.1.2.2 q.1 = .ok q.2 := by decide +kernel
def miX4_init : MI := ((yX4_init, RX4, cX4_init), (13, none), (0, 0), [(0, .aload_n 0, 1), (1, .iload_n 1, 1), (2, .iconst 4, 1), (3, .aload_n 2, 1), (4, .invokevirtual 3, 3), (7, .invokespecial 9, 3), (10, .ldc2_w 15, 3), (13, .aload_n 2, 1), (14, .invokevirtual 3, 3), (17, .i2l, 1), (18, .lmul, 1), (19, .lstore_n 3, 1), (20, .aload_n 2, 1), (21, .iconst 1, 1), (22, .invokevirtual 17, 3), (25, .lstore 5, 2), (27, .aload_n 2, 1), (28, .iconst 0, 1), (29, .invokevirtual 17, 3), (32, .lstore 7, 2), (34, .lload 5, 2), (36, .lload_n 3, 1), (37, .invokestatic 21, 3), (40, .lstore 9, 2), (42, .lload 7, 2), (44, .lload_n 3, 1), (45, .invokestatic 21, 3), (48, .lstore 11, 2), (50, .aload_n 0, 1), (51, .lload 5, 2), (53, .lload 9, 2), (55, .ldiv, 1), (56, .putfield 25, 3), (59, .aload_n 0, 1), (60, .lload_n 3, 1), (61, .lload 9, 2), (63, .ldiv, 1), (64, .putfield 31, 3), (67, .aload_n 0, 1), (68, .lload 7, 2), (70, .lload 11, 2), (72, .ldiv, 1), (73, .putfield 34, 3), (76, .aload_n 0, 1), (77, .lload_n 3, 1), (78, .lload 11, 2), (80, .ldiv, 1), (81, .putfield 37, 3), (84, .return_, 1)])
set_option maxRecDepth 100000 in
theorem deX4_init : ∀ q ∈ miX4_init.2.2.2, decode miX4_init.1.2.2 q.1 = .ok q.2 := by decide +kernel
def miX4_middleAt : MI := ((yX4_middleAt, RX4, cX4_middleAt), (2, (some .long)), (0, 0), [(0, .iload_n 1, 1), (1, .tableswitch 42 0 2 #[27, 32, 37], 27), (28, .aload_n 0, 1), (29, .getfield 25, 3), (32, .lreturn, 1), (33, .aload_n 0, 1), (34, .getfield 31, 3), (37, .lreturn, 1), (38, .aload_n 0, 1), (39, .getfield 34, 3), (42, .lreturn, 1), (43, .aload_n 0, 1), (44, .getfield 37, 3), (47, .lreturn, 1)])
set_option maxRecDepth 100000 in
theorem deX4_middleAt : ∀ q ∈ miX4_middleAt.2.2.2, decode miX4_middleAt.1.2.2 q.1 = .ok q.2 := by decide +kernel
def miX5_init : MI := ((yX5_init, RX5, cX5_init), (1, none), (0, 0), [(0, .aload_n 0, 1), (1, .invokespecial 3, 3), (4, .aload_n 0, 1), (5, .bipush 8, 2), (7, .newarray .int, 2), (9, .putfield 9, 3), (12, .aload_n 0, 1), (13, .bipush 8, 2), (15, .newarray .int, 2), (17, .putfield 15, 3), (20, .aload_n 0, 1), (21, .iconst 0, 1), (22, .putfield 18, 3), (25, .return_, 1)])
set_option maxRecDepth 100000 in
theorem deX5_init : ∀ q ∈ miX5_init.2.2.2, decode miX5_init.1.2.2 q.1 = .ok q.2 := by decide +kernel
def miX5_draw : MI := ((yX5_draw, RX5, cX5_draw), (8, (some .boolean)), (0, 0), [(0, .aload_n 0, 1), (1, .iload_n 2, 1), (2, .bipush 8, 2), (4, .invokestatic 22, 3), (7, .putfield 18, 3), (10, .iconst 0, 1), (11, .istore_n 3, 1), (12, .iload_n 3, 1), (13, .aload_n 0, 1), (14, .getfield 18, 3), (17, .if_icmp .ge 65, 3), (20, .aload_n 1, 1), (21, .iconst 2, 1), (22, .iload_n 3, 1), (23, .imul, 1), (24, .invokevirtual 28, 3), (27, .lstore 4, 2), (29, .aload_n 1, 1), (30, .iconst 2, 1), (31, .iload_n 3, 1), (32, .imul, 1), (33, .iconst 1, 1), (34, .iadd, 1), (35, .invokevirtual 28, 3), (38, .lstore 6, 2), (40, .lload 4, 2), (42, .invokestatic 34, 3), (45, .ifCond .ne 11, 3), (48, .lload 6, 2), (50, .invokestatic 34, 3), (53, .ifCond .eq 5, 3), (56, .iconst 0, 1), (57, .ireturn, 1), (58, .aload_n 0, 1), (59, .getfield 9, 3), (62, .iload_n 3, 1), (63, .lload 4, 2), (65, .l2i, 1), (66, .iastore, 1), (67, .aload_n 0, 1), (68, .getfield 15, 3), (71, .iload_n 3, 1), (72, .lload 6, 2), (74, .l2i, 1), (75, .iastore, 1), (76, .iinc 3 1, 3), (79, .goto (-67), 3), (82, .iconst 1, 1), (83, .ireturn, 1)])
set_option maxRecDepth 100000 in
theorem deX5_draw : ∀ q ∈ miX5_draw.2.2.2, decode miX5_draw.1.2.2 q.1 = .ok q.2 := by decide +kernel
def miX5_isTooFar : MI := ((yX5_isTooFar, RX5, cX5_isTooFar), (2, (some .boolean)), (0, 0), [(0, .lload_n 0, 1), (1, .ldc2_w 38, 3), (4, .lcmp, 1), (5, .ifCond .lt 11, 3), (8, .lload_n 0, 1), (9, .ldc2_w 40, 3), (12, .lcmp, 1), (13, .ifCond .le 7, 3), (16, .iconst 1, 1), (17, .goto 4, 3), (20, .iconst 0, 1), (21, .ireturn, 1)])
set_option maxRecDepth 100000 in
theorem deX5_isTooFar : ∀ q ∈ miX5_isTooFar.2.2.2, decode miX5_isTooFar.1.2.2 q.1 = .ok q.2 := by decide +kernel
def miX5_next : MI := ((yX5_next, RX5, cX5_next), (2, (some .int)), (0, 0), [(0, .iload_n 1, 1), (1, .iconst 1, 1), (2, .iadd, 1), (3, .aload_n 0, 1), (4, .getfield 18, 3), (7, .if_icmp .ge 9, 3), (10, .iload_n 1, 1), (11, .iconst 1, 1), (12, .iadd, 1), (13, .goto 4, 3), (16, .iconst 0, 1), (17, .ireturn, 1)])
set_option maxRecDepth 100000 in
theorem deX5_next : ∀ q ∈ miX5_next.2.2.2, decode miX5_next.1.2.2 q.1 = .ok q.2 := by decide +kernel
def miX5_touchesItself : MI := ((yX5_touchesItself, RX5, cX5_touchesItself), (3, (some .boolean)), (0, 0), [(0, .iconst 0, 1), (1, .istore_n 1, 1), (2, .iload_n 1, 1), (3, .aload_n 0, 1), (4, .getfield 18, 3), (7, .if_icmp .ge 57, 3), (10, .aload_n 0, 1), (11, .iload_n 1, 1), (12, .invokevirtual 42, 3), (15, .ifCond .eq 5, 3), (18, .iconst 1, 1), (19, .ireturn, 1), (20, .iload_n 1, 1), (21, .iconst 2, 1), (22, .iadd, 1), (23, .istore_n 2, 1), (24, .iload_n 2, 1), (25, .aload_n 0, 1), (26, .getfield 18, 3), (29, .if_icmp .ge 29, 3), (32, .aload_n 0, 1), (33, .iload_n 2, 1), (34, .invokevirtual 46, 3), (37, .iload_n 1, 1), (38, .if_icmp .eq 14, 3), (41, .aload_n 0, 1), (42, .iload_n 1, 1), (43, .iload_n 2, 1), (44, .invokevirtual 50, 3), (47, .ifCond .eq 5, 3), (50, .iconst 1, 1), (51, .ireturn, 1), (52, .iinc 2 1, 3), (55, .goto (-31), 3), (58, .iinc 1 1, 3), (61, .goto (-59), 3), (64, .iconst 0, 1), (65, .ireturn, 1)])
set_option maxRecDepth 100000 in
theorem deX5_touchesItself : ∀ q ∈ miX5_touchesItself.2.2.2, decode miX5_touchesItself.1.2.2 q.1 = .ok q.2 := by decide +kernel
def miX5_foldsBackAfter : MI := ((yX5_foldsBackAfter, RX5, cX5_foldsBackAfter), (5, (some .boolean)), (0, 0), [(0, .aload_n 0, 1), (1, .iload_n 1, 1), (2, .invokevirtual 46, 3), (5, .istore_n 2, 1), (6, .aload_n 0, 1), (7, .iload_n 2, 1), (8, .invokevirtual 46, 3), (11, .istore_n 3, 1), (12, .aload_n 0, 1), (13, .getfield 9, 3), (16, .iload_n 2, 1), (17, .iaload, 1), (18, .aload_n 0, 1), (19, .getfield 9, 3), (22, .iload_n 1, 1), (23, .iaload, 1), (24, .isub, 1), (25, .aload_n 0, 1), (26, .getfield 9, 3), (29, .iload_n 3, 1), (30, .iaload, 1), (31, .aload_n 0, 1), (32, .getfield 9, 3), (35, .iload_n 2, 1), (36, .iaload, 1), (37, .isub, 1), (38, .imul, 1), (39, .aload_n 0, 1), (40, .getfield 15, 3), (43, .iload_n 2, 1), (44, .iaload, 1), (45, .aload_n 0, 1), (46, .getfield 15, 3), (49, .iload_n 1, 1), (50, .iaload, 1), (51, .isub, 1), (52, .aload_n 0, 1), (53, .getfield 15, 3), (56, .iload_n 3, 1), (57, .iaload, 1), (58, .aload_n 0, 1), (59, .getfield 15, 3), (62, .iload_n 2, 1), (63, .iaload, 1), (64, .isub, 1), (65, .imul, 1), (66, .iadd, 1), (67, .istore 4, 2), (69, .aload_n 0, 1), (70, .iload_n 1, 1), (71, .iload_n 2, 1), (72, .iload_n 3, 1), (73, .invokevirtual 54, 3), (76, .ifCond .ne 12, 3), (79, .iload 4, 2), (81, .ifCond .gt 7, 3), (84, .iconst 1, 1), (85, .goto 4, 3), (88, .iconst 0, 1), (89, .ireturn, 1)])
set_option maxRecDepth 100000 in
theorem deX5_foldsBackAfter : ∀ q ∈ miX5_foldsBackAfter.2.2.2, decode miX5_foldsBackAfter.1.2.2 q.1 = .ok q.2 := by decide +kernel
def miX5_doSidesMeet : MI := ((yX5_doSidesMeet, RX5, cX5_doSidesMeet), (11, (some .boolean)), (0, 0), [(0, .iload_n 1, 1), (1, .istore_n 3, 1), (2, .aload_n 0, 1), (3, .iload_n 1, 1), (4, .invokevirtual 46, 3), (7, .istore 4, 2), (9, .iload_n 2, 1), (10, .istore 5, 2), (12, .aload_n 0, 1), (13, .iload_n 2, 1), (14, .invokevirtual 46, 3), (17, .istore 6, 2), (19, .aload_n 0, 1), (20, .iload_n 3, 1), (21, .iload 4, 2), (23, .iload 5, 2), (25, .invokevirtual 54, 3), (28, .istore 7, 2), (30, .aload_n 0, 1), (31, .iload_n 3, 1), (32, .iload 4, 2), (34, .iload 6, 2), (36, .invokevirtual 54, 3), (39, .istore 8, 2), (41, .aload_n 0, 1), (42, .iload 5, 2), (44, .iload 6, 2), (46, .iload_n 3, 1), (47, .invokevirtual 54, 3), (50, .istore 9, 2), (52, .aload_n 0, 1), (53, .iload 5, 2), (55, .iload 6, 2), (57, .iload 4, 2), (59, .invokevirtual 54, 3), (62, .istore 10, 2), (64, .iload 7, 2), (66, .iload 8, 2), (68, .imul, 1), (69, .ifCond .ge 13, 3), (72, .iload 9, 2), (74, .iload 10, 2), (76, .imul, 1), (77, .ifCond .ge 5, 3), (80, .iconst 1, 1), (81, .ireturn, 1), (82, .iload 7, 2), (84, .ifCond .ne 15, 3), (87, .aload_n 0, 1), (88, .iload_n 3, 1), (89, .iload 4, 2), (91, .iload 5, 2), (93, .invokevirtual 58, 3), (96, .ifCond .ne 55, 3), (99, .iload 8, 2), (101, .ifCond .ne 15, 3), (104, .aload_n 0, 1), (105, .iload_n 3, 1), (106, .iload 4, 2), (108, .iload 6, 2), (110, .invokevirtual 58, 3), (113, .ifCond .ne 38, 3), (116, .iload 9, 2), (118, .ifCond .ne 15, 3), (121, .aload_n 0, 1), (122, .iload 5, 2), (124, .iload 6, 2), (126, .iload_n 3, 1), (127, .invokevirtual 58, 3), (130, .ifCond .ne 21, 3), (133, .iload 10, 2), (135, .ifCond .ne 20, 3), (138, .aload_n 0, 1), (139, .iload 5, 2), (141, .iload 6, 2), (143, .iload 4, 2), (145, .invokevirtual 58, 3), (148, .ifCond .eq 7, 3), (151, .iconst 1, 1), (152, .goto 4, 3), (155, .iconst 0, 1), (156, .ireturn, 1)])
set_option maxRecDepth 100000 in
theorem deX5_doSidesMeet : ∀ q ∈ miX5_doSidesMeet.2.2.2, decode miX5_doSidesMeet.1.2.2 q.1 = .ok q.2 := by decide +kernel
def miX5_turn : MI := ((yX5_turn, RX5, cX5_turn), (4, (some .int)), (0, 0), [(0, .aload_n 0, 1), (1, .getfield 9, 3), (4, .iload_n 2, 1), (5, .iaload, 1), (6, .aload_n 0, 1), (7, .getfield 9, 3), (10, .iload_n 1, 1), (11, .iaload, 1), (12, .isub, 1), (13, .aload_n 0, 1), (14, .getfield 15, 3), (17, .iload_n 3, 1), (18, .iaload, 1), (19, .aload_n 0, 1), (20, .getfield 15, 3), (23, .iload_n 1, 1), (24, .iaload, 1), (25, .isub, 1), (26, .imul, 1), (27, .aload_n 0, 1), (28, .getfield 15, 3), (31, .iload_n 2, 1), (32, .iaload, 1), (33, .aload_n 0, 1), (34, .getfield 15, 3), (37, .iload_n 1, 1), (38, .iaload, 1), (39, .isub, 1), (40, .aload_n 0, 1), (41, .getfield 9, 3), (44, .iload_n 3, 1), (45, .iaload, 1), (46, .aload_n 0, 1), (47, .getfield 9, 3), (50, .iload_n 1, 1), (51, .iaload, 1), (52, .isub, 1), (53, .imul, 1), (54, .isub, 1), (55, .iconst 0, 1), (56, .invokestatic 62, 3), (59, .ireturn, 1)])
set_option maxRecDepth 100000 in
theorem deX5_turn : ∀ q ∈ miX5_turn.2.2.2, decode miX5_turn.1.2.2 q.1 = .ok q.2 := by decide +kernel
def miX5_isInBox : MI := ((yX5_isInBox, RX5, cX5_isInBox), (4, (some .boolean)), (0, 0), [(0, .aload_n 0, 1), (1, .getfield 9, 3), (4, .iload_n 1, 1), (5, .iaload, 1), (6, .aload_n 0, 1), (7, .getfield 9, 3), (10, .iload_n 2, 1), (11, .iaload, 1), (12, .invokestatic 22, 3), (15, .aload_n 0, 1), (16, .getfield 9, 3), (19, .iload_n 3, 1), (20, .iaload, 1), (21, .if_icmp .gt 79, 3), (24, .aload_n 0, 1), (25, .getfield 9, 3), (28, .iload_n 3, 1), (29, .iaload, 1), (30, .aload_n 0, 1), (31, .getfield 9, 3), (34, .iload_n 1, 1), (35, .iaload, 1), (36, .aload_n 0, 1), (37, .getfield 9, 3), (40, .iload_n 2, 1), (41, .iaload, 1), (42, .invokestatic 67, 3), (45, .if_icmp .gt 55, 3), (48, .aload_n 0, 1), (49, .getfield 15, 3), (52, .iload_n 1, 1), (53, .iaload, 1), (54, .aload_n 0, 1), (55, .getfield 15, 3), (58, .iload_n 2, 1), (59, .iaload, 1), (60, .invokestatic 22, 3), (63, .aload_n 0, 1), (64, .getfield 15, 3), (67, .iload_n 3, 1), (68, .iaload, 1), (69, .if_icmp .gt 31, 3), (72, .aload_n 0, 1), (73, .getfield 15, 3), (76, .iload_n 3, 1), (77, .iaload, 1), (78, .aload_n 0, 1), (79, .getfield 15, 3), (82, .iload_n 1, 1), (83, .iaload, 1), (84, .aload_n 0, 1), (85, .getfield 15, 3), (88, .iload_n 2, 1), (89, .iaload, 1), (90, .invokestatic 67, 3), (93, .if_icmp .gt 7, 3), (96, .iconst 1, 1), (97, .goto 4, 3), (100, .iconst 0, 1), (101, .ireturn, 1)])
set_option maxRecDepth 100000 in
theorem deX5_isInBox : ∀ q ∈ miX5_isInBox.2.2.2, decode miX5_isInBox.1.2.2 q.1 = .ok q.2 := by decide +kernel
def miX5_crossAfter : MI := ((yX5_crossAfter, RX5, cX5_crossAfter), (2, (some .int)), (0, 0), [(0, .aload_n 0, 1), (1, .getfield 9, 3), (4, .iload_n 1, 1), (5, .iaload, 1), (6, .aload_n 0, 1), (7, .getfield 15, 3), (10, .aload_n 0, 1), (11, .iload_n 1, 1), (12, .invokevirtual 46, 3), (15, .iaload, 1), (16, .imul, 1), (17, .aload_n 0, 1), (18, .getfield 9, 3), (21, .aload_n 0, 1), (22, .iload_n 1, 1), (23, .invokevirtual 46, 3), (26, .iaload, 1), (27, .aload_n 0, 1), (28, .getfield 15, 3), (31, .iload_n 1, 1), (32, .iaload, 1), (33, .imul, 1), (34, .isub, 1), (35, .ireturn, 1)])
set_option maxRecDepth 100000 in
theorem deX5_crossAfter : ∀ q ∈ miX5_crossAfter.2.2.2, decode miX5_crossAfter.1.2.2 q.1 = .ok q.2 := by decide +kernel
def miX5_signedTwiceArea : MI := ((yX5_signedTwiceArea, RX5, cX5_signedTwiceArea), (3, (some .int)), (0, 0), [(0, .iconst 0, 1), (1, .istore_n 1, 1), (2, .iconst 0, 1), (3, .istore_n 2, 1), (4, .iload_n 2, 1), (5, .aload_n 0, 1), (6, .getfield 18, 3), (9, .if_icmp .ge 17, 3), (12, .iload_n 1, 1), (13, .aload_n 0, 1), (14, .iload_n 2, 1), (15, .invokevirtual 70, 3), (18, .iadd, 1), (19, .istore_n 1, 1), (20, .iinc 2 1, 3), (23, .goto (-19), 3), (26, .iload_n 1, 1), (27, .ireturn, 1)])
set_option maxRecDepth 100000 in
theorem deX5_signedTwiceArea : ∀ q ∈ miX5_signedTwiceArea.2.2.2, decode miX5_signedTwiceArea.1.2.2 q.1 = .ok q.2 := by decide +kernel
def miX5_twiceArea : MI := ((yX5_twiceArea, RX5, cX5_twiceArea), (1, (some .int)), (0, 0), [(0, .aload_n 0, 1), (1, .invokevirtual 73, 3), (4, .invokestatic 77, 3), (7, .ireturn, 1)])
set_option maxRecDepth 100000 in
theorem deX5_twiceArea : ∀ q ∈ miX5_twiceArea.2.2.2, decode miX5_twiceArea.1.2.2 q.1 = .ok q.2 := by decide +kernel
def miX5_middleSum : MI := ((yX5_middleSum, RX5, cX5_middleSum), (6, (some .long)), (0, 0), [(0, .lconst 0, 1), (1, .lstore_n 2, 1), (2, .iconst 0, 1), (3, .istore 4, 2), (5, .iload 4, 2), (7, .aload_n 0, 1), (8, .getfield 18, 3), (11, .if_icmp .ge 70, 3), (14, .iload_n 1, 1), (15, .ifCond .eq 25, 3), (18, .aload_n 0, 1), (19, .getfield 9, 3), (22, .iload 4, 2), (24, .iaload, 1), (25, .aload_n 0, 1), (26, .getfield 9, 3), (29, .aload_n 0, 1), (30, .iload 4, 2), (32, .invokevirtual 46, 3), (35, .iaload, 1), (36, .iadd, 1), (37, .goto 22, 3), (40, .aload_n 0, 1), (41, .getfield 15, 3), (44, .iload 4, 2), (46, .iaload, 1), (47, .aload_n 0, 1), (48, .getfield 15, 3), (51, .aload_n 0, 1), (52, .iload 4, 2), (54, .invokevirtual 46, 3), (57, .iaload, 1), (58, .iadd, 1), (59, .istore 5, 2), (61, .lload_n 2, 1), (62, .iload 5, 2), (64, .i2l, 1), (65, .aload_n 0, 1), (66, .iload 4, 2), (68, .invokevirtual 70, 3), (71, .i2l, 1), (72, .lmul, 1), (73, .ladd, 1), (74, .lstore_n 2, 1), (75, .iinc 4 1, 3), (78, .goto (-73), 3), (81, .aload_n 0, 1), (82, .invokevirtual 73, 3), (85, .ifCond .ge 8, 3), (88, .lload_n 2, 1), (89, .lneg, 1), (90, .goto 4, 3), (93, .lload_n 2, 1), (94, .lreturn, 1)])
set_option maxRecDepth 100000 in
theorem deX5_middleSum : ∀ q ∈ miX5_middleSum.2.2.2, decode miX5_middleSum.1.2.2 q.1 = .ok q.2 := by decide +kernel
def miX6_init : MI := ((yX6_init, RX6, cX6_init), (5, none), (0, 0), [(0, .aload_n 0, 1), (1, .iload_n 1, 1), (2, .iload_n 2, 1), (3, .iload_n 3, 1), (4, .iload 4, 2), (6, .imul, 1), (7, .invokespecial 3, 3), (10, .aload_n 0, 1), (11, .iconst 1, 1), (12, .putfield 9, 3), (15, .aload_n 0, 1), (16, .iconst 2, 1), (17, .putfield 15, 3), (20, .aload_n 0, 1), (21, .aconst_null, 1), (22, .putfield 18, 3), (25, .aload_n 0, 1), (26, .aconst_null, 1), (27, .putfield 22, 3), (30, .aload_n 0, 1), (31, .iload_n 3, 1), (32, .putfield 25, 3), (35, .aload_n 0, 1), (36, .iload 4, 2), (38, .putfield 28, 3), (41, .return_, 1)])
set_option maxRecDepth 100000 in
theorem deX6_init : ∀ q ∈ miX6_init.2.2.2, decode miX6_init.1.2.2 q.1 = .ok q.2 := by decide +kernel
def miX6_side : MI := ((yX6_side, RX6, cX6_side), (2, (some (.object "MobileMaker$Part"))), (0, 0), [(0, .iload_n 1, 1), (1, .ifCond .ne 10, 3), (4, .aload_n 0, 1), (5, .getfield 18, 3), (8, .goto 7, 3), (11, .aload_n 0, 1), (12, .getfield 22, 3), (15, .areturn, 1)])
set_option maxRecDepth 100000 in
theorem deX6_side : ∀ q ∈ miX6_side.2.2.2, decode miX6_side.1.2.2 q.1 = .ok q.2 := by decide +kernel
def miX6_bear : MI := ((yX6_bear, RX6, cX6_bear), (3, none), (0, 0), [(0, .iload_n 1, 1), (1, .ifCond .ne 11, 3), (4, .aload_n 0, 1), (5, .aload_n 2, 1), (6, .putfield 18, 3), (9, .goto 8, 3), (12, .aload_n 0, 1), (13, .aload_n 2, 1), (14, .putfield 22, 3), (17, .aload_n 2, 1), (18, .ifnull 13, 3), (21, .aload_n 2, 1), (22, .aload_n 0, 1), (23, .putfield 31, 3), (26, .aload_n 2, 1), (27, .iload_n 1, 1), (28, .putfield 35, 3), (31, .return_, 1)])
set_option maxRecDepth 100000 in
theorem deX6_bear : ∀ q ∈ miX6_bear.2.2.2, decode miX6_bear.1.2.2 q.1 = .ok q.2 := by decide +kernel
def miX6_hasWholeArms : MI := ((yX6_hasWholeArms, RX6, cX6_hasWholeArms), (1, (some .boolean)), (0, 0), [(0, .aload_n 0, 1), (1, .getfield 15, 3), (4, .ifCond .le 29, 3), (7, .aload_n 0, 1), (8, .getfield 25, 3), (11, .i2l, 1), (12, .aload_n 0, 1), (13, .getfield 9, 3), (16, .i2l, 1), (17, .lmul, 1), (18, .aload_n 0, 1), (19, .getfield 15, 3), (22, .i2l, 1), (23, .lrem, 1), (24, .lconst 0, 1), (25, .lcmp, 1), (26, .ifCond .ne 7, 3), (29, .iconst 1, 1), (30, .goto 4, 3), (33, .iconst 0, 1), (34, .ireturn, 1)])
set_option maxRecDepth 100000 in
theorem deX6_hasWholeArms : ∀ q ∈ miX6_hasWholeArms.2.2.2, decode miX6_hasWholeArms.1.2.2 q.1 = .ok q.2 := by decide +kernel
def miX6_arm : MI := ((yX6_arm, RX6, cX6_arm), (3, (some .int)), (0, 0), [(0, .aload_n 0, 1), (1, .getfield 15, 3), (4, .ifCond .le 24, 3), (7, .aload_n 0, 1), (8, .getfield 25, 3), (11, .i2l, 1), (12, .aload_n 0, 1), (13, .getfield 9, 3), (16, .i2l, 1), (17, .lmul, 1), (18, .aload_n 0, 1), (19, .getfield 15, 3), (22, .i2l, 1), (23, .ldiv, 1), (24, .l2i, 1), (25, .goto 4, 3), (28, .iconst 0, 1), (29, .istore_n 2, 1), (30, .iload_n 1, 1), (31, .ifCond .ne 7, 3), (34, .iload_n 2, 1), (35, .goto 9, 3), (38, .aload_n 0, 1), (39, .getfield 25, 3), (42, .iload_n 2, 1), (43, .isub, 1), (44, .ireturn, 1)])
set_option maxRecDepth 100000 in
theorem deX6_arm : ∀ q ∈ miX6_arm.2.2.2, decode miX6_arm.1.2.2 q.1 = .ok q.2 := by decide +kernel
def miX6_isTiedAt : MI := ((yX6_isTiedAt, RX6, cX6_isTiedAt), (3, (some .boolean)), (0, 0), [(0, .aload_n 0, 1), (1, .getfield 9, 3), (4, .i2l, 1), (5, .iload_n 2, 1), (6, .i2l, 1), (7, .lmul, 1), (8, .iload_n 1, 1), (9, .i2l, 1), (10, .aload_n 0, 1), (11, .getfield 15, 3), (14, .i2l, 1), (15, .lmul, 1), (16, .lcmp, 1), (17, .ifCond .ne 7, 3), (20, .iconst 1, 1), (21, .goto 4, 3), (24, .iconst 0, 1), (25, .ireturn, 1)])
set_option maxRecDepth 100000 in
theorem deX6_isTiedAt : ∀ q ∈ miX6_isTiedAt.2.2.2, decode miX6_isTiedAt.1.2.2 q.1 = .ok q.2 := by decide +kernel
def miX6_loadOf : MI := ((yX6_loadOf, RX6, cX6_loadOf), (1, (some .long)), (0, 0), [(0, .aload_n 0, 1), (1, .ifnonnull 7, 3), (4, .lconst 0, 1), (5, .goto 7, 3), (8, .aload_n 0, 1), (9, .getfield 38, 3), (12, .lreturn, 1)])
set_option maxRecDepth 100000 in
theorem deX6_loadOf : ∀ q ∈ miX6_loadOf.2.2.2, decode miX6_loadOf.1.2.2 q.1 = .ok q.2 := by decide +kernel
def miX6_bareLossOf : MI := ((yX6_bareLossOf, RX6, cX6_bareLossOf), (1, (some .long)), (0, 0), [(0, .aload_n 0, 1), (1, .ifnonnull 7, 3), (4, .lconst 0, 1), (5, .goto 7, 3), (8, .aload_n 0, 1), (9, .getfield 42, 3), (12, .lreturn, 1)])
set_option maxRecDepth 100000 in
theorem deX6_bareLossOf : ∀ q ∈ miX6_bareLossOf.2.2.2, decode miX6_bareLossOf.1.2.2 q.1 = .ok q.2 := by decide +kernel
def miX6_lean : MI := ((yX6_lean, RX6, cX6_lean), (1, (some .long)), (0, 0), [(0, .ldc2_w 45, 3), (3, .aload_n 0, 1), (4, .getfield 18, 3), (7, .invokestatic 47, 3), (10, .aload_n 0, 1), (11, .getfield 9, 3), (14, .i2l, 1), (15, .lmul, 1), (16, .aload_n 0, 1), (17, .getfield 22, 3), (20, .invokestatic 47, 3), (23, .aload_n 0, 1), (24, .getfield 15, 3), (27, .aload_n 0, 1), (28, .getfield 9, 3), (31, .isub, 1), (32, .i2l, 1), (33, .lmul, 1), (34, .lsub, 1), (35, .lmul, 1), (36, .aload_n 0, 1), (37, .getfield 51, 3), (40, .i2l, 1), (41, .ldc2_w 45, 3), (44, .aload_n 0, 1), (45, .getfield 9, 3), (48, .i2l, 1), (49, .lmul, 1), (50, .aload_n 0, 1), (51, .getfield 15, 3), (54, .i2l, 1), (55, .lsub, 1), (56, .lmul, 1), (57, .ladd, 1), (58, .lreturn, 1)])
set_option maxRecDepth 100000 in
theorem deX6_lean : ∀ q ∈ miX6_lean.2.2.2, decode miX6_lean.1.2.2 q.1 = .ok q.2 := by decide +kernel
def miX6_keepsLevelBare : MI := ((yX6_keepsLevelBare, RX6, cX6_keepsLevelBare), (1, (some .boolean)), (0, 0), [(0, .aload_n 0, 1), (1, .getfield 18, 3), (4, .invokestatic 54, 3), (7, .aload_n 0, 1), (8, .getfield 9, 3), (11, .i2l, 1), (12, .lmul, 1), (13, .aload_n 0, 1), (14, .getfield 22, 3), (17, .invokestatic 54, 3), (20, .aload_n 0, 1), (21, .getfield 15, 3), (24, .aload_n 0, 1), (25, .getfield 9, 3), (28, .isub, 1), (29, .i2l, 1), (30, .lmul, 1), (31, .lcmp, 1), (32, .ifCond .ne 7, 3), (35, .iconst 1, 1), (36, .goto 4, 3), (39, .iconst 0, 1), (40, .ireturn, 1)])
set_option maxRecDepth 100000 in
theorem deX6_keepsLevelBare : ∀ q ∈ miX6_keepsLevelBare.2.2.2, decode miX6_keepsLevelBare.1.2.2 q.1 = .ok q.2 := by decide +kernel
def miX6_upperShare : MI := ((yX6_upperShare, RX6, cX6_upperShare), (1, (some .long)), (0, 0), [(0, .ldc2_w 45, 3), (3, .aload_n 0, 1), (4, .getfield 22, 3), (7, .invokestatic 47, 3), (10, .lmul, 1), (11, .aload_n 0, 1), (12, .getfield 51, 3), (15, .i2l, 1), (16, .ladd, 1), (17, .lreturn, 1)])
set_option maxRecDepth 100000 in
theorem deX6_upperShare : ∀ q ∈ miX6_upperShare.2.2.2, decode miX6_upperShare.1.2.2 q.1 = .ok q.2 := by decide +kernel
def miX6_lowerShare : MI := ((yX6_lowerShare, RX6, cX6_lowerShare), (1, (some .long)), (0, 0), [(0, .ldc2_w 45, 3), (3, .aload_n 0, 1), (4, .getfield 18, 3), (7, .invokestatic 47, 3), (10, .aload_n 0, 1), (11, .getfield 22, 3), (14, .invokestatic 47, 3), (17, .ladd, 1), (18, .aload_n 0, 1), (19, .getfield 51, 3), (22, .i2l, 1), (23, .ladd, 1), (24, .lmul, 1), (25, .lreturn, 1)])
set_option maxRecDepth 100000 in
theorem deX6_lowerShare : ∀ q ∈ miX6_lowerShare.2.2.2, decode miX6_lowerShare.1.2.2 q.1 = .ok q.2 := by decide +kernel
def miX6_canBeLevel : MI := ((yX6_canBeLevel, RX6, cX6_canBeLevel), (1, (some .boolean)), (0, 0), [(0, .aload_n 0, 1), (1, .invokevirtual 57, 3), (4, .lconst 0, 1), (5, .lcmp, 1), (6, .ifCond .le 19, 3), (9, .aload_n 0, 1), (10, .invokevirtual 57, 3), (13, .aload_n 0, 1), (14, .invokevirtual 61, 3), (17, .lcmp, 1), (18, .ifCond .ge 7, 3), (21, .iconst 1, 1), (22, .goto 4, 3), (25, .iconst 0, 1), (26, .ireturn, 1)])
set_option maxRecDepth 100000 in
theorem deX6_canBeLevel : ∀ q ∈ miX6_canBeLevel.2.2.2, decode miX6_canBeLevel.1.2.2 q.1 = .ok q.2 := by decide +kernel
def miX6_levelUpper : MI := ((yX6_levelUpper, RX6, cX6_levelUpper), (1, (some .int)), (0, 0), [(0, .aload_n 0, 1), (1, .invokevirtual 57, 3), (4, .aload_n 0, 1), (5, .invokevirtual 57, 3), (8, .aload_n 0, 1), (9, .invokevirtual 61, 3), (12, .invokestatic 64, 3), (15, .ldiv, 1), (16, .l2i, 1), (17, .ireturn, 1)])
set_option maxRecDepth 100000 in
theorem deX6_levelUpper : ∀ q ∈ miX6_levelUpper.2.2.2, decode miX6_levelUpper.1.2.2 q.1 = .ok q.2 := by decide +kernel
def miX6_levelLower : MI := ((yX6_levelLower, RX6, cX6_levelLower), (1, (some .int)), (0, 0), [(0, .aload_n 0, 1), (1, .invokevirtual 61, 3), (4, .aload_n 0, 1), (5, .invokevirtual 57, 3), (8, .aload_n 0, 1), (9, .invokevirtual 61, 3), (12, .invokestatic 64, 3), (15, .ldiv, 1), (16, .l2i, 1), (17, .ireturn, 1)])
set_option maxRecDepth 100000 in
theorem deX6_levelLower : ∀ q ∈ miX6_levelLower.2.2.2, decode miX6_levelLower.1.2.2 q.1 = .ok q.2 := by decide +kernel
def miX6_tieLevel : MI := ((yX6_tieLevel, RX6, cX6_tieLevel), (1, none), (0, 0), [(0, .aload_n 0, 1), (1, .aload_n 0, 1), (2, .invokevirtual 68, 3), (5, .putfield 9, 3), (8, .aload_n 0, 1), (9, .aload_n 0, 1), (10, .invokevirtual 72, 3), (13, .putfield 15, 3), (16, .return_, 1)])
set_option maxRecDepth 100000 in
theorem deX6_tieLevel : ∀ q ∈ miX6_tieLevel.2.2.2, decode miX6_tieLevel.1.2.2 q.1 = .ok q.2 := by decide +kernel
def miX7_init : MI := ((yX7_init, RX7, cX7_init), (1, none), (0, 0), [(0, .aload_n 0, 1), (1, .invokespecial 1, 3), (4, .aload_n 0, 1), (5, .iconst 0, 1), (6, .putfield 7, 3), (9, .aload_n 0, 1), (10, .iconst 0, 1), (11, .putfield 13, 3), (14, .aload_n 0, 1), (15, .iconst 1, 1), (16, .putfield 16, 3), (19, .return_, 1)])
set_option maxRecDepth 100000 in
theorem deX7_init : ∀ q ∈ miX7_init.2.2.2, decode miX7_init.1.2.2 q.1 = .ok q.2 := by decide +kernel
def miX7_measure : MI := ((yX7_measure, RX7, cX7_measure), (6, none), (0, 0), [(0, .aload_n 0, 1), (1, .iconst 0, 1), (2, .putfield 7, 3), (5, .aload_n 0, 1), (6, .iconst 0, 1), (7, .putfield 13, 3), (10, .aload_n 0, 1), (11, .iconst 1, 1), (12, .putfield 16, 3), (15, .aload_n 1, 1), (16, .getfield 20, 3), (19, .istore_n 3, 1), (20, .aload_n 1, 1), (21, .getfield 25, 3), (24, .astore 4, 2), (26, .aload 4, 2), (28, .ifnull 81, 3), (31, .aload 4, 2), (33, .aload_n 2, 1), (34, .if_acmp .eq 75, 3), (37, .aload 4, 2), (39, .iload_n 3, 1), (40, .invokevirtual 29, 3), (43, .istore 5, 2), (45, .aload_n 0, 1), (46, .dup, 1), (47, .getfield 7, 3), (50, .iload 5, 2), (52, .iadd, 1), (53, .putfield 7, 3), (56, .aload_n 0, 1), (57, .aload_n 0, 1), (58, .getfield 13, 3), (61, .iload 5, 2), (63, .invokestatic 35, 3), (66, .putfield 13, 3), (69, .aload_n 0, 1), (70, .aload_n 0, 1), (71, .getfield 16, 3), (74, .ifCond .eq 15, 3), (77, .aload 4, 2), (79, .invokevirtual 41, 3), (82, .ifCond .eq 7, 3), (85, .iconst 1, 1), (86, .goto 4, 3), (89, .iconst 0, 1), (90, .putfield 16, 3), (93, .aload 4, 2), (95, .getfield 45, 3), (98, .istore_n 3, 1), (99, .aload 4, 2), (101, .getfield 46, 3), (104, .astore 4, 2), (106, .goto (-80), 3), (109, .return_, 1)])
set_option maxRecDepth 100000 in
theorem deX7_measure : ∀ q ∈ miX7_measure.2.2.2, decode miX7_measure.1.2.2 q.1 = .ok q.2 := by decide +kernel
def miX7_least : MI := ((yX7_least, RX7, cX7_least), (1, (some .int)), (0, 0), [(0, .iconst 0, 1), (1, .iconst 2, 1), (2, .aload_n 0, 1), (3, .getfield 13, 3), (6, .imul, 1), (7, .aload_n 0, 1), (8, .getfield 7, 3), (11, .isub, 1), (12, .invokestatic 35, 3), (15, .ireturn, 1)])
set_option maxRecDepth 100000 in
theorem deX7_least : ∀ q ∈ miX7_least.2.2.2, decode miX7_least.1.2.2 q.1 = .ok q.2 := by decide +kernel
def miX8_init : MI := ((yX8_init, RX8, cX8_init), (1, none), (0, 0), [(0, .aload_n 0, 1), (1, .invokespecial 3, 3), (4, .aload_n 0, 1), (5, .sipush 600, 3), (8, .newarray .byte, 2), (10, .putfield 9, 3), (13, .aload_n 0, 1), (14, .iconst 0, 1), (15, .putfield 15, 3), (18, .aload_n 0, 1), (19, .bipush 60, 2), (21, .anewarray 19, 3), (24, .putfield 21, 3), (27, .aload_n 0, 1), (28, .bipush 60, 2), (30, .newarray .int, 2), (32, .putfield 25, 3), (35, .aload_n 0, 1), (36, .iconst 0, 1), (37, .putfield 29, 3), (40, .return_, 1)])
set_option maxRecDepth 100000 in
theorem deX8_init : ∀ q ∈ miX8_init.2.2.2, decode miX8_init.1.2.2 q.1 = .ok q.2 := by decide +kernel
def miX8_has : MI := ((yX8_has, RX8, cX8_has), (2, (some .boolean)), (0, 0), [(0, .iload_n 1, 1), (1, .ifCond .lt 24, 3), (4, .iload_n 1, 1), (5, .aload_n 0, 1), (6, .getfield 15, 3), (9, .if_icmp .ge 16, 3), (12, .iload_n 1, 1), (13, .aload_n 0, 1), (14, .getfield 9, 3), (17, .arraylength, 1), (18, .if_icmp .ge 7, 3), (21, .iconst 1, 1), (22, .goto 4, 3), (25, .iconst 0, 1), (26, .ireturn, 1)])
set_option maxRecDepth 100000 in
theorem deX8_has : ∀ q ∈ miX8_has.2.2.2, decode miX8_has.1.2.2 q.1 = .ok q.2 := by decide +kernel
def miX8_at : MI := ((yX8_at, RX8, cX8_at), (2, (some .int)), (0, 0), [(0, .aload_n 0, 1), (1, .iload_n 1, 1), (2, .invokevirtual 32, 3), (5, .ifCond .eq 12, 3), (8, .aload_n 0, 1), (9, .getfield 9, 3), (12, .iload_n 1, 1), (13, .baload, 1), (14, .goto 4, 3), (17, .iconst (-1), 1), (18, .ireturn, 1)])
set_option maxRecDepth 100000 in
theorem deX8_at : ∀ q ∈ miX8_at.2.2.2, decode miX8_at.1.2.2 q.1 = .ok q.2 := by decide +kernel
def miX8_tell : MI := ((yX8_tell, RX8, cX8_tell), (3, (some .int)), (0, 0), [(0, .aload_n 0, 1), (1, .iconst 0, 1), (2, .putfield 15, 3), (5, .aload_n 0, 1), (6, .iconst 0, 1), (7, .putfield 29, 3), (10, .aload_n 0, 1), (11, .aload_n 1, 1), (12, .invokevirtual 36, 3), (15, .iconst 0, 1), (16, .istore_n 2, 1), (17, .iload_n 2, 1), (18, .sipush 180, 3), (21, .if_icmp .ge 26, 3), (24, .aload_n 0, 1), (25, .getfield 29, 3), (28, .ifCond .le 19, 3), (31, .aload_n 0, 1), (32, .aload_n 0, 1), (33, .getfield 29, 3), (36, .iconst 1, 1), (37, .isub, 1), (38, .invokevirtual 40, 3), (41, .iinc 2 1, 3), (44, .goto (-27), 3), (47, .aload_n 0, 1), (48, .getfield 15, 3), (51, .ireturn, 1)])
set_option maxRecDepth 100000 in
theorem deX8_tell : ∀ q ∈ miX8_tell.2.2.2, decode miX8_tell.1.2.2 q.1 = .ok q.2 := by decide +kernel
def miX8_goOnWith : MI := ((yX8_goOnWith, RX8, cX8_goOnWith), (4, none), (0, 0), [(0, .aload_n 0, 1), (1, .getfield 21, 3), (4, .iload_n 1, 1), (5, .aaload, 1), (6, .astore_n 2, 1), (7, .aload_n 0, 1), (8, .getfield 25, 3), (11, .iload_n 1, 1), (12, .iaload, 1), (13, .istore_n 3, 1), (14, .aload_n 0, 1), (15, .getfield 25, 3), (18, .iload_n 1, 1), (19, .dup2, 1), (20, .iaload, 1), (21, .iconst 1, 1), (22, .iadd, 1), (23, .iastore, 1), (24, .iload_n 3, 1), (25, .ifCond .ne 14, 3), (28, .aload_n 0, 1), (29, .aload_n 2, 1), (30, .getfield 44, 3), (33, .invokevirtual 48, 3), (36, .goto 69, 3), (39, .iload_n 3, 1), (40, .iconst 1, 1), (41, .if_icmp .ne 48, 3), (44, .aload_n 0, 1), (45, .bipush 44, 2), (47, .invokevirtual 51, 3), (50, .aload_n 0, 1), (51, .aload_n 2, 1), (52, .getfield 55, 3), (55, .invokevirtual 58, 3), (58, .aload_n 0, 1), (59, .bipush 47, 2), (61, .invokevirtual 51, 3), (64, .aload_n 0, 1), (65, .aload_n 2, 1), (66, .getfield 61, 3), (69, .invokevirtual 58, 3), (72, .aload_n 0, 1), (73, .bipush 44, 2), (75, .invokevirtual 51, 3), (78, .aload_n 0, 1), (79, .aload_n 2, 1), (80, .getfield 64, 3), (83, .invokevirtual 48, 3), (86, .goto 19, 3), (89, .aload_n 0, 1), (90, .bipush 41, 2), (92, .invokevirtual 51, 3), (95, .aload_n 0, 1), (96, .dup, 1), (97, .getfield 29, 3), (100, .iconst 1, 1), (101, .isub, 1), (102, .putfield 29, 3), (105, .return_, 1)])
set_option maxRecDepth 100000 in
theorem deX8_goOnWith : ∀ q ∈ miX8_goOnWith.2.2.2, decode miX8_goOnWith.1.2.2 q.1 = .ok q.2 := by decide +kernel
def miX8_tellSide : MI := ((yX8_tellSide, RX8, cX8_tellSide), (2, none), (0, 0), [(0, .aload_n 1, 1), (1, .ifnonnull 10, 3), (4, .aload_n 0, 1), (5, .bipush 45, 2), (7, .invokevirtual 51, 3), (10, .return_, 1), (11, .aload_n 0, 1), (12, .aload_n 1, 1), (13, .getfield 67, 3), (16, .invokevirtual 58, 3), (19, .aload_n 0, 1), (20, .bipush 58, 2), (22, .invokevirtual 51, 3), (25, .aload_n 0, 1), (26, .aload_n 1, 1), (27, .invokevirtual 36, 3), (30, .return_, 1)])
set_option maxRecDepth 100000 in
theorem deX8_tellSide : ∀ q ∈ miX8_tellSide.2.2.2, decode miX8_tellSide.1.2.2 q.1 = .ok q.2 := by decide +kernel
def miX8_tellPart : MI := ((yX8_tellPart, RX8, cX8_tellPart), (3, none), (0, 0), [(0, .aload_n 1, 1), (1, .invokestatic 72, 3), (4, .astore_n 2, 1), (5, .aload_n 2, 1), (6, .ifnull 52, 3), (9, .aload_n 0, 1), (10, .getfield 29, 3), (13, .aload_n 0, 1), (14, .getfield 21, 3), (17, .arraylength, 1), (18, .if_icmp .ge 40, 3), (21, .aload_n 0, 1), (22, .bipush 40, 2), (24, .invokevirtual 51, 3), (27, .aload_n 0, 1), (28, .getfield 21, 3), (31, .aload_n 0, 1), (32, .getfield 29, 3), (35, .aload_n 2, 1), (36, .aastore, 1), (37, .aload_n 0, 1), (38, .getfield 25, 3), (41, .aload_n 0, 1), (42, .getfield 29, 3), (45, .iconst 0, 1), (46, .iastore, 1), (47, .aload_n 0, 1), (48, .dup, 1), (49, .getfield 29, 3), (52, .iconst 1, 1), (53, .iadd, 1), (54, .putfield 29, 3), (57, .return_, 1), (58, .aload_n 1, 1), (59, .getfield 76, 3), (62, .iconst 4, 1), (63, .if_icmp .ne 9, 3), (66, .aload_n 0, 1), (67, .bipush 112, 2), (69, .invokevirtual 51, 3), (72, .aload_n 0, 1), (73, .aload_n 1, 1), (74, .getfield 79, 3), (77, .invokevirtual 58, 3), (80, .return_, 1)])
set_option maxRecDepth 100000 in
theorem deX8_tellPart : ∀ q ∈ miX8_tellPart.2.2.2, decode miX8_tellPart.1.2.2 q.1 = .ok q.2 := by decide +kernel
def miX8_putNumber : MI := ((yX8_putNumber, RX8, cX8_putNumber), (5, none), (0, 0), [(0, .iconst 0, 1), (1, .istore_n 2, 1), (2, .ldc 82, 2), (4, .istore_n 3, 1), (5, .iload_n 3, 1), (6, .ifCond .le 53, 3), (9, .iload_n 1, 1), (10, .iload_n 3, 1), (11, .idiv, 1), (12, .bipush 10, 2), (14, .irem, 1), (15, .istore 4, 2), (17, .iload_n 2, 1), (18, .ifCond .ne 13, 3), (21, .iload 4, 2), (23, .ifCond .ne 8, 3), (26, .iload_n 3, 1), (27, .iconst 1, 1), (28, .if_icmp .ne 7, 3), (31, .iconst 1, 1), (32, .goto 4, 3), (35, .iconst 0, 1), (36, .istore_n 2, 1), (37, .iload_n 2, 1), (38, .ifCond .eq 13, 3), (41, .aload_n 0, 1), (42, .bipush 48, 2), (44, .iload 4, 2), (46, .iadd, 1), (47, .i2c, 1), (48, .invokevirtual 51, 3), (51, .iload_n 3, 1), (52, .bipush 10, 2), (54, .idiv, 1), (55, .istore_n 3, 1), (56, .goto (-51), 3), (59, .return_, 1)])
set_option maxRecDepth 100000 in
theorem deX8_putNumber : ∀ q ∈ miX8_putNumber.2.2.2, decode miX8_putNumber.1.2.2 q.1 = .ok q.2 := by decide +kernel
def miX8_put : MI := ((yX8_put, RX8, cX8_put), (2, none), (0, 0), [(0, .aload_n 0, 1), (1, .getfield 15, 3), (4, .aload_n 0, 1), (5, .getfield 9, 3), (8, .arraylength, 1), (9, .if_icmp .ge 14, 3), (12, .aload_n 0, 1), (13, .getfield 9, 3), (16, .aload_n 0, 1), (17, .getfield 15, 3), (20, .iload_n 1, 1), (21, .i2b, 1), (22, .bastore, 1), (23, .aload_n 0, 1), (24, .dup, 1), (25, .getfield 15, 3), (28, .iconst 1, 1), (29, .iadd, 1), (30, .putfield 15, 3), (33, .return_, 1)])
set_option maxRecDepth 100000 in
theorem deX8_put : ∀ q ∈ miX8_put.2.2.2, decode miX8_put.1.2.2 q.1 = .ok q.2 := by decide +kernel
def miX9_init : MI := ((yX9_init, RX9, cX9_init), (1, none), (0, 0), [(0, .aload_n 0, 1), (1, .invokespecial 3, 3), (4, .aload_n 0, 1), (5, .iconst (-1), 1), (6, .putfield 9, 3), (9, .aload_n 0, 1), (10, .iconst 0, 1), (11, .putfield 15, 3), (14, .aload_n 0, 1), (15, .bipush 16, 2), (17, .newarray .long, 2), (19, .putfield 18, 3), (22, .return_, 1)])
set_option maxRecDepth 100000 in
theorem deX9_init : ∀ q ∈ miX9_init.2.2.2, decode miX9_init.1.2.2 q.1 = .ok q.2 := by decide +kernel
def miX9_isMissing : MI := ((yX9_isMissing, RX9, cX9_isMissing), (1, (some .boolean)), (0, 0), [(0, .aload_n 0, 1), (1, .getfield 9, 3), (4, .iconst (-1), 1), (5, .if_icmp .ne 7, 3), (8, .iconst 1, 1), (9, .goto 4, 3), (12, .iconst 0, 1), (13, .ireturn, 1)])
set_option maxRecDepth 100000 in
theorem deX9_isMissing : ∀ q ∈ miX9_isMissing.2.2.2, decode miX9_isMissing.1.2.2 q.1 = .ok q.2 := by decide +kernel
def miX9_lay : MI := ((yX9_lay, RX9, cX9_lay), (3, none), (0, 0), [(0, .aload_n 0, 1), (1, .iload_n 1, 1), (2, .putfield 9, 3), (5, .aload_n 0, 1), (6, .iload_n 2, 1), (7, .putfield 15, 3), (10, .aload_n 0, 1), (11, .getfield 18, 3), (14, .lconst 0, 1), (15, .invokestatic 22, 3), (18, .return_, 1)])
set_option maxRecDepth 100000 in
theorem deX9_lay : ∀ q ∈ miX9_lay.2.2.2, decode miX9_lay.1.2.2 q.1 = .ok q.2 := by decide +kernel
def miX9_has : MI := ((yX9_has, RX9, cX9_has), (2, (some .boolean)), (0, 0), [(0, .iload_n 1, 1), (1, .ifCond .lt 24, 3), (4, .iload_n 1, 1), (5, .aload_n 0, 1), (6, .getfield 15, 3), (9, .if_icmp .ge 16, 3), (12, .iload_n 1, 1), (13, .aload_n 0, 1), (14, .getfield 18, 3), (17, .arraylength, 1), (18, .if_icmp .ge 7, 3), (21, .iconst 1, 1), (22, .goto 4, 3), (25, .iconst 0, 1), (26, .ireturn, 1)])
set_option maxRecDepth 100000 in
theorem deX9_has : ∀ q ∈ miX9_has.2.2.2, decode miX9_has.1.2.2 q.1 = .ok q.2 := by decide +kernel
def miX9_hasFrom : MI := ((yX9_hasFrom, RX9, cX9_hasFrom), (3, (some .boolean)), (0, 0), [(0, .iload_n 1, 1), (1, .ifCond .lt 25, 3), (4, .iload_n 2, 1), (5, .ifCond .lt 21, 3), (8, .iload_n 1, 1), (9, .i2l, 1), (10, .iload_n 2, 1), (11, .i2l, 1), (12, .ladd, 1), (13, .aload_n 0, 1), (14, .getfield 15, 3), (17, .i2l, 1), (18, .lcmp, 1), (19, .ifCond .gt 7, 3), (22, .iconst 1, 1), (23, .goto 4, 3), (26, .iconst 0, 1), (27, .ireturn, 1)])
set_option maxRecDepth 100000 in
theorem deX9_hasFrom : ∀ q ∈ miX9_hasFrom.2.2.2, decode miX9_hasFrom.1.2.2 q.1 = .ok q.2 := by decide +kernel
def miX9_at : MI := ((yX9_at, RX9, cX9_at), (2, (some .long)), (0, 0), [(0, .aload_n 0, 1), (1, .iload_n 1, 1), (2, .invokevirtual 28, 3), (5, .ifCond .eq 12, 3), (8, .aload_n 0, 1), (9, .getfield 18, 3), (12, .iload_n 1, 1), (13, .laload, 1), (14, .goto 6, 3), (17, .ldc2_w 32, 3), (20, .lreturn, 1)])
set_option maxRecDepth 100000 in
theorem deX9_at : ∀ q ∈ miX9_at.2.2.2, decode miX9_at.1.2.2 q.1 = .ok q.2 := by decide +kernel
def miX9_put : MI := ((yX9_put, RX9, cX9_put), (4, none), (0, 0), [(0, .aload_n 0, 1), (1, .iload_n 1, 1), (2, .invokevirtual 28, 3), (5, .ifCond .eq 38, 3), (8, .aload_n 0, 1), (9, .getfield 18, 3), (12, .iload_n 1, 1), (13, .aload_n 0, 1), (14, .getfield 9, 3), (17, .ifCond .ne 10, 3), (20, .lload_n 2, 1), (21, .l2i, 1), (22, .i2s, 1), (23, .i2l, 1), (24, .goto 18, 3), (27, .aload_n 0, 1), (28, .getfield 9, 3), (31, .iconst 1, 1), (32, .if_icmp .ne 9, 3), (35, .lload_n 2, 1), (36, .l2i, 1), (37, .i2l, 1), (38, .goto 4, 3), (41, .lload_n 2, 1), (42, .lastore, 1), (43, .return_, 1)])
set_option maxRecDepth 100000 in
theorem deX9_put : ∀ q ∈ miX9_put.2.2.2, decode miX9_put.1.2.2 q.1 = .ok q.2 := by decide +kernel
def miX9_canBeParted : MI := ((yX9_canBeParted, RX9, cX9_canBeParted), (2, (some .boolean)), (0, 0), [(0, .aload_n 0, 1), (1, .getfield 15, 3), (4, .iconst 2, 1), (5, .if_icmp .lt 12, 3), (8, .aload_n 0, 1), (9, .getfield 15, 3), (12, .bipush 10, 2), (14, .if_icmp .le 5, 3), (17, .iconst 0, 1), (18, .ireturn, 1), (19, .iconst 0, 1), (20, .istore_n 1, 1), (21, .iload_n 1, 1), (22, .aload_n 0, 1), (23, .getfield 15, 3), (26, .if_icmp .ge 33, 3), (29, .aload_n 0, 1), (30, .iload_n 1, 1), (31, .invokevirtual 34, 3), (34, .lconst 1, 1), (35, .lcmp, 1), (36, .ifCond .lt 15, 3), (39, .aload_n 0, 1), (40, .iload_n 1, 1), (41, .invokevirtual 34, 3), (44, .ldc2_w 38, 3), (47, .lcmp, 1), (48, .ifCond .le 5, 3), (51, .iconst 0, 1), (52, .ireturn, 1), (53, .iinc 1 1, 3), (56, .goto (-35), 3), (59, .iconst 1, 1), (60, .ireturn, 1)])
set_option maxRecDepth 100000 in
theorem deX9_canBeParted : ∀ q ∈ miX9_canBeParted.2.2.2, decode miX9_canBeParted.1.2.2 q.1 = .ok q.2 := by decide +kernel
def miX10_init : MI := ((yX10_init, RX10, cX10_init), (3, none), (0, 0), [(0, .aload_n 0, 1), (1, .iload_n 1, 1), (2, .iconst 1, 1), (3, .iload_n 2, 1), (4, .invokespecial 3, 3), (7, .return_, 1)])
set_option maxRecDepth 100000 in
theorem deX10_init : ∀ q ∈ miX10_init.2.2.2, decode miX10_init.1.2.2 q.1 = .ok q.2 := by decide +kernel
def miX11_init : MI := ((yX11_init, RX11, cX11_init), (2, none), (0, 0), [(0, .aload_n 0, 1), (1, .invokespecial 3, 3), (4, .aload_n 0, 1), (5, .bipush 6, 2), (7, .anewarray 9, 3), (10, .putfield 11, 3), (13, .aload_n 0, 1), (14, .bipush 60, 2), (16, .anewarray 15, 3), (19, .putfield 17, 3), (22, .aload_n 0, 1), (23, .iconst 0, 1), (24, .putfield 21, 3), (27, .aload_n 0, 1), (28, .iconst 0, 1), (29, .putfield 25, 3), (32, .aload_n 0, 1), (33, .new 28, 3), (36, .dup, 1), (37, .invokespecial 30, 3), (40, .putfield 31, 3), (43, .aload_n 0, 1), (44, .new 35, 3), (47, .dup, 1), (48, .invokespecial 37, 3), (51, .putfield 38, 3), (54, .aload_n 0, 1), (55, .new 42, 3), (58, .dup, 1), (59, .invokespecial 44, 3), (62, .putfield 45, 3), (65, .aload_n 0, 1), (66, .new 42, 3), (69, .dup, 1), (70, .invokespecial 44, 3), (73, .putfield 49, 3), (76, .aload_n 0, 1), (77, .new 52, 3), (80, .dup, 1), (81, .invokespecial 54, 3), (84, .putfield 55, 3), (87, .aload_n 0, 1), (88, .new 59, 3), (91, .dup, 1), (92, .invokespecial 61, 3), (95, .putfield 62, 3), (98, .aload_n 0, 1), (99, .bipush 14, 2), (101, .newarray .int, 2), (103, .putfield 66, 3), (106, .aload_n 0, 1), (107, .iconst 0, 1), (108, .putfield 70, 3), (111, .aload_n 0, 1), (112, .new 73, 3), (115, .dup, 1), (116, .invokespecial 75, 3), (119, .putfield 76, 3), (122, .iconst 0, 1), (123, .istore_n 1, 1), (124, .iload_n 1, 1), (125, .aload_n 0, 1), (126, .getfield 11, 3), (129, .arraylength, 1), (130, .if_icmp .ge 22, 3), (133, .aload_n 0, 1), (134, .getfield 11, 3), (137, .iload_n 1, 1), (138, .new 9, 3), (141, .dup, 1), (142, .invokespecial 80, 3), (145, .aastore, 1), (146, .iinc 1 1, 3), (149, .goto (-25), 3), (152, .return_, 1)])
set_option maxRecDepth 100000 in
theorem deX11_init : ∀ q ∈ miX11_init.2.2.2, decode miX11_init.1.2.2 q.1 = .ok q.2 := by decide +kernel
def miX11_status : MI := ((yX11_status, RX11, cX11_status), (1, (some .int)), (0, 0), [(0, .aload_n 0, 1), (1, .getfield 25, 3), (4, .ireturn, 1)])
set_option maxRecDepth 100000 in
theorem deX11_status : ∀ q ∈ miX11_status.2.2.2, decode miX11_status.1.2.2 q.1 = .ok q.2 := by decide +kernel
def miX11_tray : MI := ((yX11_tray, RX11, cX11_tray), (5, (some .boolean)), (0, 0), [(0, .aload_n 0, 1), (1, .iload_n 1, 1), (2, .invokevirtual 81, 3), (5, .astore 4, 2), (7, .aload 4, 2), (9, .ifnull 12, 3), (12, .iload_n 2, 1), (13, .ifCond .lt 8, 3), (16, .iload_n 2, 1), (17, .iconst 3, 1), (18, .if_icmp .lt 9, 3), (21, .aload_n 0, 1), (22, .iconst 1, 1), (23, .invokevirtual 85, 3), (26, .ireturn, 1), (27, .iload_n 3, 1), (28, .ifCond .ge 10, 3), (31, .aload_n 0, 1), (32, .bipush 6, 2), (34, .invokevirtual 85, 3), (37, .ireturn, 1), (38, .iload_n 3, 1), (39, .bipush 16, 2), (41, .if_icmp .le 10, 3), (44, .aload_n 0, 1), (45, .bipush 7, 2), (47, .invokevirtual 85, 3), (50, .ireturn, 1), (51, .aload 4, 2), (53, .iload_n 2, 1), (54, .iload_n 3, 1), (55, .invokevirtual 89, 3), (58, .aload_n 0, 1), (59, .invokevirtual 93, 3), (62, .ireturn, 1)])
set_option maxRecDepth 100000 in
theorem deX11_tray : ∀ q ∈ miX11_tray.2.2.2, decode miX11_tray.1.2.2 q.1 = .ok q.2 := by decide +kernel
def miX11_write : MI := ((yX11_write, RX11, cX11_write), (7, (some .boolean)), (0, 0), [(0, .aload_n 0, 1), (1, .iload_n 1, 1), (2, .invokevirtual 81, 3), (5, .astore 5, 2), (7, .aload 5, 2), (9, .iload_n 2, 1), (10, .invokestatic 97, 3), (13, .istore 6, 2), (15, .iload 6, 2), (17, .ifCond .ne 8, 3), (20, .aload 5, 2), (22, .ifnonnull 10, 3), (25, .aload_n 0, 1), (26, .iload 6, 2), (28, .invokevirtual 85, 3), (31, .ireturn, 1), (32, .aload 5, 2), (34, .iload_n 2, 1), (35, .lload_n 3, 1), (36, .invokevirtual 101, 3), (39, .aload_n 0, 1), (40, .invokevirtual 93, 3), (43, .ireturn, 1)])
set_option maxRecDepth 100000 in
theorem deX11_write : ∀ q ∈ miX11_write.2.2.2, decode miX11_write.1.2.2 q.1 = .ok q.2 := by decide +kernel
def miX11_read : MI := ((yX11_read, RX11, cX11_read), (4, (some .long)), (0, 0), [(0, .aload_n 0, 1), (1, .iload_n 1, 1), (2, .invokevirtual 81, 3), (5, .astore_n 3, 1), (6, .aload_n 0, 1), (7, .aload_n 3, 1), (8, .iload_n 2, 1), (9, .invokestatic 97, 3), (12, .putfield 25, 3), (15, .aload_n 0, 1), (16, .getfield 25, 3), (19, .ifCond .ne 15, 3), (22, .aload_n 3, 1), (23, .ifnull 11, 3), (26, .aload_n 3, 1), (27, .iload_n 2, 1), (28, .invokevirtual 105, 3), (31, .goto 6, 3), (34, .ldc2_w 109, 3), (37, .lreturn, 1)])
set_option maxRecDepth 100000 in
theorem deX11_read : ∀ q ∈ miX11_read.2.2.2, decode miX11_read.1.2.2 q.1 = .ok q.2 := by decide +kernel
def miX11_pour : MI := ((yX11_pour, RX11, cX11_pour), (8, (some .boolean)), (0, 0), [(0, .aload_n 0, 1), (1, .iload_n 1, 1), (2, .invokevirtual 81, 3), (5, .astore 6, 2), (7, .aload_n 0, 1), (8, .iload_n 3, 1), (9, .invokevirtual 81, 3), (12, .astore 7, 2), (14, .aload 6, 2), (16, .ifnull 8, 3), (19, .aload 7, 2), (21, .ifnonnull 9, 3), (24, .aload_n 0, 1), (25, .iconst 1, 1), (26, .invokevirtual 85, 3), (29, .ireturn, 1), (30, .aload 6, 2), (32, .invokevirtual 111, 3), (35, .ifCond .ne 11, 3), (38, .aload 7, 2), (40, .invokevirtual 111, 3), (43, .ifCond .eq 9, 3), (46, .aload_n 0, 1), (47, .iconst 3, 1), (48, .invokevirtual 85, 3), (51, .ireturn, 1), (52, .aload 6, 2), (54, .getfield 114, 3), (57, .aload 7, 2), (59, .getfield 114, 3), (62, .if_icmp .eq 10, 3), (65, .aload_n 0, 1), (66, .bipush 12, 2), (68, .invokevirtual 85, 3), (71, .ireturn, 1), (72, .iload 5, 2), (74, .ifCond .ge 10, 3), (77, .aload_n 0, 1), (78, .bipush 6, 2), (80, .invokevirtual 85, 3), (83, .ireturn, 1), (84, .aload 6, 2), (86, .iload_n 2, 1), (87, .iload 5, 2), (89, .invokevirtual 117, 3), (92, .ifCond .eq 15, 3), (95, .aload 7, 2), (97, .iload 4, 2), (99, .iload 5, 2), (101, .invokevirtual 117, 3), (104, .ifCond .ne 9, 3), (107, .aload_n 0, 1), (108, .iconst 4, 1), (109, .invokevirtual 85, 3), (112, .ireturn, 1), (113, .aload 6, 2), (115, .getfield 121, 3), (118, .iload_n 2, 1), (119, .aload 7, 2), (121, .getfield 121, 3), (124, .iload 4, 2), (126, .iload 5, 2), (128, .invokestatic 125, 3), (131, .aload_n 0, 1), (132, .invokevirtual 93, 3), (135, .ireturn, 1)])
set_option maxRecDepth 100000 in
theorem deX11_pour : ∀ q ∈ miX11_pour.2.2.2, decode miX11_pour.1.2.2 q.1 = .ok q.2 := by decide +kernel
def miX11_weight : MI := ((yX11_weight, RX11, cX11_weight), (2, (some .int)), (0, 0), [(0, .aload_n 0, 1), (1, .iload_n 1, 1), (2, .i2l, 1), (3, .invokevirtual 131, 3), (6, .ireturn, 1)])
set_option maxRecDepth 100000 in
theorem deX11_weight : ∀ q ∈ miX11_weight.2.2.2, decode miX11_weight.1.2.2 q.1 = .ok q.2 := by decide +kernel
def miX11_load : MI := ((yX11_load, RX11, cX11_load), (5, (some .int)), (0, 0), [(0, .aload_n 0, 1), (1, .iload_n 1, 1), (2, .invokevirtual 81, 3), (5, .astore_n 3, 1), (6, .aload_n 3, 1), (7, .iload_n 2, 1), (8, .invokestatic 97, 3), (11, .istore 4, 2), (13, .iload 4, 2), (15, .ifCond .ne 7, 3), (18, .aload_n 3, 1), (19, .ifnonnull 10, 3), (22, .aload_n 0, 1), (23, .iload 4, 2), (25, .invokevirtual 135, 3), (28, .ireturn, 1), (29, .aload_n 0, 1), (30, .aload_n 3, 1), (31, .iload_n 2, 1), (32, .invokevirtual 105, 3), (35, .invokevirtual 131, 3), (38, .ireturn, 1)])
set_option maxRecDepth 100000 in
theorem deX11_load : ∀ q ∈ miX11_load.2.2.2, decode miX11_load.1.2.2 q.1 = .ok q.2 := by decide +kernel
def miX11_rod : MI := ((yX11_rod, RX11, cX11_rod), (4, (some .int)), (0, 0), [(0, .iload_n 1, 1), (1, .iconst 2, 1), (2, .if_icmp .lt 21, 3), (5, .iload_n 1, 1), (6, .sipush 1000, 3), (9, .if_icmp .gt 14, 3), (12, .iload_n 2, 1), (13, .ifCond .lt 10, 3), (16, .iload_n 2, 1), (17, .sipush 1000, 3), (20, .if_icmp .le 10, 3), (23, .aload_n 0, 1), (24, .bipush 7, 2), (26, .invokevirtual 135, 3), (29, .ireturn, 1), (30, .aload_n 0, 1), (31, .getfield 21, 3), (34, .bipush 60, 2), (36, .if_icmp .lt 10, 3), (39, .aload_n 0, 1), (40, .bipush 10, 2), (42, .invokevirtual 135, 3), (45, .ireturn, 1), (46, .aload_n 0, 1), (47, .new 139, 3), (50, .dup, 1), (51, .aload_n 0, 1), (52, .getfield 21, 3), (55, .iload_n 3, 1), (56, .ifCond .eq 7, 3), (59, .iconst 3, 1), (60, .goto 4, 3), (63, .iconst 2, 1), (64, .iload_n 1, 1), (65, .iload_n 2, 1), (66, .invokespecial 141, 3), (69, .invokevirtual 144, 3), (72, .ireturn, 1)])
set_option maxRecDepth 100000 in
theorem deX11_rod : ∀ q ∈ miX11_rod.2.2.2, decode miX11_rod.1.2.2 q.1 = .ok q.2 := by decide +kernel
def miX11_plate : MI := ((yX11_plate, RX11, cX11_plate), (4, (some .int)), (0, 0), [(0, .aload_n 0, 1), (1, .iload_n 1, 1), (2, .invokevirtual 81, 3), (5, .astore_n 3, 1), (6, .aload_n 3, 1), (7, .ifnonnull 9, 3), (10, .aload_n 0, 1), (11, .iconst 1, 1), (12, .invokevirtual 135, 3), (15, .ireturn, 1), (16, .aload_n 3, 1), (17, .invokevirtual 111, 3), (20, .ifCond .eq 9, 3), (23, .aload_n 0, 1), (24, .iconst 3, 1), (25, .invokevirtual 135, 3), (28, .ireturn, 1), (29, .iload_n 2, 1), (30, .iconst 3, 1), (31, .if_icmp .lt 9, 3), (34, .iload_n 2, 1), (35, .bipush 8, 2), (37, .if_icmp .le 10, 3), (40, .aload_n 0, 1), (41, .bipush 7, 2), (43, .invokevirtual 135, 3), (46, .ireturn, 1), (47, .aload_n 3, 1), (48, .getfield 148, 3), (51, .iconst 2, 1), (52, .iload_n 2, 1), (53, .imul, 1), (54, .if_icmp .ge 9, 3), (57, .aload_n 0, 1), (58, .iconst 4, 1), (59, .invokevirtual 135, 3), (62, .ireturn, 1), (63, .aload_n 0, 1), (64, .getfield 38, 3), (67, .aload_n 3, 1), (68, .iload_n 2, 1), (69, .invokevirtual 151, 3), (72, .ifCond .ne 10, 3), (75, .aload_n 0, 1), (76, .bipush 7, 2), (78, .invokevirtual 135, 3), (81, .ireturn, 1), (82, .aload_n 0, 1), (83, .getfield 38, 3), (86, .invokevirtual 155, 3), (89, .ifCond .eq 10, 3), (92, .aload_n 0, 1), (93, .bipush 12, 2), (95, .invokevirtual 135, 3), (98, .ireturn, 1), (99, .aload_n 0, 1), (100, .getfield 21, 3), (103, .bipush 60, 2), (105, .if_icmp .lt 10, 3), (108, .aload_n 0, 1), (109, .bipush 10, 2), (111, .invokevirtual 135, 3), (114, .ireturn, 1), (115, .aload_n 0, 1), (116, .new 158, 3), (119, .dup, 1), (120, .aload_n 0, 1), (121, .getfield 21, 3), (124, .aload_n 0, 1), (125, .getfield 38, 3), (128, .invokespecial 160, 3), (131, .invokevirtual 144, 3), (134, .ireturn, 1)])
set_option maxRecDepth 100000 in
theorem deX11_plate : ∀ q ∈ miX11_plate.2.2.2, decode miX11_plate.1.2.2 q.1 = .ok q.2 := by decide +kernel
def miX11_part : MI := ((yX11_part, RX11, cX11_part), (4, (some .int)), (0, 0), [(0, .aload_n 0, 1), (1, .iload_n 1, 1), (2, .invokevirtual 163, 3), (5, .astore_n 3, 1), (6, .aload_n 3, 1), (7, .ifnonnull 9, 3), (10, .aload_n 0, 1), (11, .iconst 2, 1), (12, .invokevirtual 135, 3), (15, .ireturn, 1), (16, .iload_n 2, 1), (17, .ifCond .lt 9, 3), (20, .iload_n 2, 1), (21, .bipush 6, 2), (23, .if_icmp .le 10, 3), (26, .aload_n 0, 1), (27, .bipush 7, 2), (29, .invokevirtual 135, 3), (32, .ireturn, 1), (33, .aload_n 0, 1), (34, .iconst 0, 1), (35, .putfield 25, 3), (38, .aload_n 3, 1), (39, .iload_n 2, 1), (40, .invokestatic 167, 3), (43, .ireturn, 1)])
set_option maxRecDepth 100000 in
theorem deX11_part : ∀ q ∈ miX11_part.2.2.2, decode miX11_part.1.2.2 q.1 = .ok q.2 := by decide +kernel
def miX11_rodAt : MI := ((yX11_rodAt, RX11, cX11_rodAt), (4, (some .long)), (0, 0), [(0, .aload_n 0, 1), (1, .iload_n 1, 1), (2, .invokevirtual 171, 3), (5, .astore_n 3, 1), (6, .aload_n 3, 1), (7, .ifnonnull 7, 3), (10, .ldc2_w 109, 3), (13, .lreturn, 1), (14, .iload_n 2, 1), (15, .ifCond .lt 8, 3), (18, .iload_n 2, 1), (19, .iconst 5, 1), (20, .if_icmp .le 11, 3), (23, .aload_n 0, 1), (24, .bipush 7, 2), (26, .invokevirtual 135, 3), (29, .i2l, 1), (30, .lreturn, 1), (31, .aload_n 3, 1), (32, .iload_n 2, 1), (33, .invokestatic 175, 3), (36, .lreturn, 1)])
set_option maxRecDepth 100000 in
theorem deX11_rodAt : ∀ q ∈ miX11_rodAt.2.2.2, decode miX11_rodAt.1.2.2 q.1 = .ok q.2 := by decide +kernel
def miX11_middle : MI := ((yX11_middle, RX11, cX11_middle), (5, (some .long)), (0, 0), [(0, .aload_n 0, 1), (1, .iload_n 1, 1), (2, .invokevirtual 163, 3), (5, .astore_n 3, 1), (6, .aload_n 3, 1), (7, .ifnonnull 10, 3), (10, .aload_n 0, 1), (11, .iconst 2, 1), (12, .invokevirtual 135, 3), (15, .i2l, 1), (16, .lreturn, 1), (17, .aload_n 3, 1), (18, .instanceof 158, 3), (21, .ifCond .eq 38, 3), (24, .aload_n 3, 1), (25, .checkcast 158, 3), (28, .astore 4, 2), (30, .iload_n 2, 1), (31, .ifCond .lt 8, 3), (34, .iload_n 2, 1), (35, .iconst 3, 1), (36, .if_icmp .le 11, 3), (39, .aload_n 0, 1), (40, .bipush 7, 2), (42, .invokevirtual 135, 3), (45, .i2l, 1), (46, .lreturn, 1), (47, .aload_n 0, 1), (48, .iconst 0, 1), (49, .putfield 25, 3), (52, .aload 4, 2), (54, .iload_n 2, 1), (55, .invokevirtual 179, 3), (58, .lreturn, 1), (59, .aload_n 0, 1), (60, .iconst 5, 1), (61, .invokevirtual 135, 3), (64, .i2l, 1), (65, .lreturn, 1)])
set_option maxRecDepth 100000 in
theorem deX11_middle : ∀ q ∈ miX11_middle.2.2.2, decode miX11_middle.1.2.2 q.1 = .ok q.2 := by decide +kernel
end
section
def miX11_hang : MI := ((yX11_hang, RX11, cX11_hang), (8, (some .boolean)), (0, 0), [(0, .aload_n 0, 1), (1, .iload_n 1, 1), (2, .invokevirtual 163, 3), (5, .astore 5, 2), (7, .aload_n 0, 1), (8, .iload_n 2, 1), (9, .invokevirtual 163, 3), (12, .astore 6, 2), (14, .aload 5, 2), (16, .ifnull 8, 3), (19, .aload 6, 2), (21, .ifnonnull 9, 3), (24, .aload_n 0, 1), (25, .iconst 2, 1), (26, .invokevirtual 85, 3), (29, .ireturn, 1), (30, .aload 6, 2), (32, .invokestatic 182, 3), (35, .astore 7, 2), (37, .aload 7, 2), (39, .ifnull 20, 3), (42, .aload 7, 2), (44, .getfield 186, 3), (47, .iconst 3, 1), (48, .if_icmp .ne 17, 3), (51, .aload 5, 2), (53, .invokestatic 182, 3), (56, .ifnull 9, 3), (59, .aload_n 0, 1), (60, .iconst 5, 1), (61, .invokevirtual 85, 3), (64, .ireturn, 1), (65, .iload_n 3, 1), (66, .ifCond .eq 8, 3), (69, .iload_n 3, 1), (70, .iconst 1, 1), (71, .if_icmp .ne 28, 3), (74, .iload 4, 2), (76, .invokestatic 189, 3), (79, .ifCond .eq 20, 3), (82, .aload 7, 2), (84, .aload 5, 2), (86, .if_acmp .eq 13, 3), (89, .aload 5, 2), (91, .aload 7, 2), (93, .invokestatic 192, 3), (96, .ifCond .eq 10, 3), (99, .aload_n 0, 1), (100, .bipush 7, 2), (102, .invokevirtual 85, 3), (105, .ireturn, 1), (106, .aload 5, 2), (108, .getfield 196, 3), (111, .ifnonnull 12, 3), (114, .aload 7, 2), (116, .iload_n 3, 1), (117, .invokevirtual 200, 3), (120, .ifnull 10, 3), (123, .aload_n 0, 1), (124, .bipush 8, 2), (126, .invokevirtual 85, 3), (129, .ireturn, 1), (130, .aload 7, 2), (132, .iload_n 3, 1), (133, .aload 5, 2), (135, .invokevirtual 203, 3), (138, .aload 5, 2), (140, .iload 4, 2), (142, .putfield 207, 3), (145, .aload_n 0, 1), (146, .invokevirtual 93, 3), (149, .ireturn, 1)])
set_option maxRecDepth 100000 in
theorem deX11_hang : ∀ q ∈ miX11_hang.2.2.2, decode miX11_hang.1.2.2 q.1 = .ok q.2 := by decide +kernel
def miX11_take : MI := ((yX11_take, RX11, cX11_take), (3, (some .boolean)), (0, 0), [(0, .aload_n 0, 1), (1, .iload_n 1, 1), (2, .invokevirtual 163, 3), (5, .astore_n 2, 1), (6, .aload_n 2, 1), (7, .ifnonnull 9, 3), (10, .aload_n 0, 1), (11, .iconst 2, 1), (12, .invokevirtual 85, 3), (15, .ireturn, 1), (16, .aload_n 2, 1), (17, .getfield 196, 3), (20, .ifnonnull 10, 3), (23, .aload_n 0, 1), (24, .bipush 8, 2), (26, .invokevirtual 85, 3), (29, .ireturn, 1), (30, .aload_n 2, 1), (31, .invokevirtual 210, 3), (34, .aload_n 0, 1), (35, .invokevirtual 93, 3), (38, .ireturn, 1)])
set_option maxRecDepth 100000 in
theorem deX11_take : ∀ q ∈ miX11_take.2.2.2, decode miX11_take.1.2.2 q.1 = .ok q.2 := by decide +kernel
def miX11_thread : MI := ((yX11_thread, RX11, cX11_thread), (4, (some .boolean)), (0, 0), [(0, .aload_n 0, 1), (1, .iload_n 1, 1), (2, .invokevirtual 163, 3), (5, .astore_n 3, 1), (6, .aload_n 3, 1), (7, .ifnonnull 9, 3), (10, .aload_n 0, 1), (11, .iconst 2, 1), (12, .invokevirtual 85, 3), (15, .ireturn, 1), (16, .aload_n 3, 1), (17, .getfield 196, 3), (20, .ifnonnull 10, 3), (23, .aload_n 0, 1), (24, .bipush 8, 2), (26, .invokevirtual 85, 3), (29, .ireturn, 1), (30, .iload_n 2, 1), (31, .invokestatic 189, 3), (34, .ifCond .ne 10, 3), (37, .aload_n 0, 1), (38, .bipush 7, 2), (40, .invokevirtual 85, 3), (43, .ireturn, 1), (44, .aload_n 3, 1), (45, .iload_n 2, 1), (46, .putfield 207, 3), (49, .aload_n 0, 1), (50, .invokevirtual 93, 3), (53, .ireturn, 1)])
set_option maxRecDepth 100000 in
theorem deX11_thread : ∀ q ∈ miX11_thread.2.2.2, decode miX11_thread.1.2.2 q.1 = .ok q.2 := by decide +kernel
def miX11_tied : MI := ((yX11_tied, RX11, cX11_tied), (5, (some .boolean)), (0, 0), [(0, .aload_n 0, 1), (1, .iload_n 1, 1), (2, .invokevirtual 171, 3), (5, .astore 4, 2), (7, .aload 4, 2), (9, .ifnonnull 5, 3), (12, .iconst 0, 1), (13, .ireturn, 1), (14, .iload_n 3, 1), (15, .iconst 2, 1), (16, .if_icmp .lt 19, 3), (19, .iload_n 3, 1), (20, .ldc 213, 2), (22, .if_icmp .gt 13, 3), (25, .iload_n 2, 1), (26, .iconst 1, 1), (27, .if_icmp .lt 8, 3), (30, .iload_n 2, 1), (31, .iload_n 3, 1), (32, .if_icmp .lt 10, 3), (35, .aload_n 0, 1), (36, .bipush 7, 2), (38, .invokevirtual 85, 3), (41, .ireturn, 1), (42, .aload 4, 2), (44, .iload_n 2, 1), (45, .putfield 214, 3), (48, .aload 4, 2), (50, .iload_n 3, 1), (51, .putfield 217, 3), (54, .aload_n 0, 1), (55, .invokevirtual 93, 3), (58, .ireturn, 1)])
set_option maxRecDepth 100000 in
theorem deX11_tied : ∀ q ∈ miX11_tied.2.2.2, decode miX11_tied.1.2.2 q.1 = .ok q.2 := by decide +kernel
def miX11_swap : MI := ((yX11_swap, RX11, cX11_swap), (4, (some .boolean)), (0, 0), [(0, .aload_n 0, 1), (1, .iload_n 1, 1), (2, .invokevirtual 171, 3), (5, .astore_n 2, 1), (6, .aload_n 2, 1), (7, .ifnonnull 5, 3), (10, .iconst 0, 1), (11, .ireturn, 1), (12, .aload_n 2, 1), (13, .getfield 220, 3), (16, .astore_n 3, 1), (17, .aload_n 2, 1), (18, .iconst 0, 1), (19, .aload_n 2, 1), (20, .getfield 224, 3), (23, .invokevirtual 203, 3), (26, .aload_n 2, 1), (27, .iconst 1, 1), (28, .aload_n 3, 1), (29, .invokevirtual 203, 3), (32, .aload_n 0, 1), (33, .invokevirtual 93, 3), (36, .ireturn, 1)])
set_option maxRecDepth 100000 in
theorem deX11_swap : ∀ q ∈ miX11_swap.2.2.2, decode miX11_swap.1.2.2 q.1 = .ok q.2 := by decide +kernel
def miX11_bears : MI := ((yX11_bears, RX11, cX11_bears), (3, (some .long)), (0, 0), [(0, .aload_n 0, 1), (1, .iload_n 1, 1), (2, .invokevirtual 163, 3), (5, .astore_n 2, 1), (6, .aload_n 2, 1), (7, .ifnonnull 10, 3), (10, .aload_n 0, 1), (11, .iconst 2, 1), (12, .invokevirtual 135, 3), (15, .i2l, 1), (16, .lreturn, 1), (17, .aload_n 0, 1), (18, .getfield 31, 3), (21, .aload_n 2, 1), (22, .invokevirtual 227, 3), (25, .aload_n 0, 1), (26, .iconst 0, 1), (27, .putfield 25, 3), (30, .aload_n 2, 1), (31, .getfield 231, 3), (34, .lreturn, 1)])
set_option maxRecDepth 100000 in
theorem deX11_bears : ∀ q ∈ miX11_bears.2.2.2, decode miX11_bears.1.2.2 q.1 = .ok q.2 := by decide +kernel
def miX11_tilts : MI := ((yX11_tilts, RX11, cX11_tilts), (5, (some .int)), (0, 0), [(0, .aload_n 0, 1), (1, .iload_n 1, 1), (2, .invokevirtual 171, 3), (5, .astore_n 2, 1), (6, .aload_n 2, 1), (7, .ifnonnull 5, 3), (10, .iconst (-1), 1), (11, .ireturn, 1), (12, .aload_n 0, 1), (13, .getfield 31, 3), (16, .aload_n 2, 1), (17, .invokevirtual 227, 3), (20, .aload_n 2, 1), (21, .invokevirtual 235, 3), (24, .lstore_n 3, 1), (25, .lload_n 3, 1), (26, .lconst 0, 1), (27, .lcmp, 1), (28, .ifCond .ne 7, 3), (31, .iconst 0, 1), (32, .goto 14, 3), (35, .lload_n 3, 1), (36, .lconst 0, 1), (37, .lcmp, 1), (38, .ifCond .le 7, 3), (41, .iconst 1, 1), (42, .goto 4, 3), (45, .iconst 2, 1), (46, .ireturn, 1)])
set_option maxRecDepth 100000 in
theorem deX11_tilts : ∀ q ∈ miX11_tilts.2.2.2, decode miX11_tilts.1.2.2 q.1 = .ok q.2 := by decide +kernel
def miX11_wrong : MI := ((yX11_wrong, RX11, cX11_wrong), (3, (some .int)), (0, 0), [(0, .aload_n 0, 1), (1, .iload_n 1, 1), (2, .invokevirtual 239, 3), (5, .astore_n 2, 1), (6, .aload_n 2, 1), (7, .ifnonnull 5, 3), (10, .iconst (-1), 1), (11, .ireturn, 1), (12, .aload_n 0, 1), (13, .getfield 31, 3), (16, .aload_n 2, 1), (17, .invokevirtual 227, 3), (20, .aload_n 0, 1), (21, .getfield 31, 3), (24, .invokevirtual 242, 3), (27, .ireturn, 1)])
set_option maxRecDepth 100000 in
theorem deX11_wrong : ∀ q ∈ miX11_wrong.2.2.2, decode miX11_wrong.1.2.2 q.1 = .ok q.2 := by decide +kernel
def miX11_tie : MI := ((yX11_tie, RX11, cX11_tie), (4, (some .long)), (0, 0), [(0, .aload_n 0, 1), (1, .iload_n 1, 1), (2, .invokevirtual 171, 3), (5, .astore_n 3, 1), (6, .aload_n 3, 1), (7, .ifnonnull 7, 3), (10, .ldc2_w 109, 3), (13, .lreturn, 1), (14, .iload_n 2, 1), (15, .ifCond .eq 16, 3), (18, .iload_n 2, 1), (19, .iconst 1, 1), (20, .if_icmp .eq 11, 3), (23, .aload_n 0, 1), (24, .bipush 7, 2), (26, .invokevirtual 135, 3), (29, .i2l, 1), (30, .lreturn, 1), (31, .aload_n 0, 1), (32, .getfield 31, 3), (35, .aload_n 3, 1), (36, .invokevirtual 227, 3), (39, .aload_n 3, 1), (40, .invokevirtual 246, 3), (43, .ifCond .ne 11, 3), (46, .aload_n 0, 1), (47, .bipush 11, 2), (49, .invokevirtual 135, 3), (52, .i2l, 1), (53, .lreturn, 1), (54, .iload_n 2, 1), (55, .ifCond .ne 11, 3), (58, .aload_n 3, 1), (59, .invokevirtual 249, 3), (62, .i2l, 1), (63, .goto 8, 3), (66, .aload_n 3, 1), (67, .invokevirtual 252, 3), (70, .i2l, 1), (71, .lreturn, 1)])
set_option maxRecDepth 100000 in
theorem deX11_tie : ∀ q ∈ miX11_tie.2.2.2, decode miX11_tie.1.2.2 q.1 = .ok q.2 := by decide +kernel
def miX11_all : MI := ((yX11_all, RX11, cX11_all), (3, (some .int)), (0, 0), [(0, .aload_n 0, 1), (1, .iload_n 1, 1), (2, .invokevirtual 239, 3), (5, .astore_n 2, 1), (6, .aload_n 2, 1), (7, .ifnonnull 5, 3), (10, .iconst (-1), 1), (11, .ireturn, 1), (12, .aload_n 0, 1), (13, .getfield 31, 3), (16, .aload_n 2, 1), (17, .invokevirtual 227, 3), (20, .aload_n 0, 1), (21, .getfield 31, 3), (24, .invokevirtual 255, 3), (27, .ifCond .ne 10, 3), (30, .aload_n 0, 1), (31, .bipush 11, 2), (33, .invokevirtual 135, 3), (36, .ireturn, 1), (37, .aload_n 0, 1), (38, .getfield 31, 3), (41, .invokevirtual 258, 3), (44, .ireturn, 1)])
set_option maxRecDepth 100000 in
theorem deX11_all : ∀ q ∈ miX11_all.2.2.2, decode miX11_all.1.2.2 q.1 = .ok q.2 := by decide +kernel
def miX11_reach : MI := ((yX11_reach, RX11, cX11_reach), (7, (some .int)), (0, 0), [(0, .aload_n 0, 1), (1, .iload_n 1, 1), (2, .invokevirtual 163, 3), (5, .astore 4, 2), (7, .aload_n 0, 1), (8, .iload_n 2, 1), (9, .invokevirtual 163, 3), (12, .astore 5, 2), (14, .aload 4, 2), (16, .ifnull 8, 3), (19, .aload 5, 2), (21, .ifnonnull 9, 3), (24, .aload_n 0, 1), (25, .iconst 2, 1), (26, .invokevirtual 135, 3), (29, .ireturn, 1), (30, .aload 5, 2), (32, .invokestatic 182, 3), (35, .astore 6, 2), (37, .aload 6, 2), (39, .ifnonnull 9, 3), (42, .aload_n 0, 1), (43, .iconst 5, 1), (44, .invokevirtual 135, 3), (47, .ireturn, 1), (48, .aload 6, 2), (50, .aload 4, 2), (52, .invokestatic 192, 3), (55, .ifCond .ne 10, 3), (58, .aload_n 0, 1), (59, .bipush 8, 2), (61, .invokevirtual 135, 3), (64, .ireturn, 1), (65, .aload_n 0, 1), (66, .getfield 45, 3), (69, .aload 4, 2), (71, .aload 6, 2), (73, .getfield 261, 3), (76, .invokevirtual 262, 3), (79, .aload_n 0, 1), (80, .getfield 45, 3), (83, .getfield 266, 3), (86, .ifCond .ne 10, 3), (89, .aload_n 0, 1), (90, .bipush 9, 2), (92, .invokevirtual 135, 3), (95, .ireturn, 1), (96, .aload_n 0, 1), (97, .iconst 0, 1), (98, .putfield 25, 3), (101, .iload_n 3, 1), (102, .ifCond .eq 13, 3), (105, .aload_n 0, 1), (106, .getfield 45, 3), (109, .getfield 270, 3), (112, .goto 10, 3), (115, .aload_n 0, 1), (116, .getfield 45, 3), (119, .invokevirtual 273, 3), (122, .ireturn, 1)])
set_option maxRecDepth 100000 in
theorem deX11_reach : ∀ q ∈ miX11_reach.2.2.2, decode miX11_reach.1.2.2 q.1 = .ok q.2 := by decide +kernel
def miX11_lowest : MI := ((yX11_lowest, RX11, cX11_lowest), (3, (some .int)), (0, 0), [(0, .aload_n 0, 1), (1, .iload_n 1, 1), (2, .invokevirtual 239, 3), (5, .astore_n 2, 1), (6, .aload_n 2, 1), (7, .ifnonnull 5, 3), (10, .iconst (-1), 1), (11, .ireturn, 1), (12, .aload_n 0, 1), (13, .getfield 31, 3), (16, .aload_n 2, 1), (17, .invokevirtual 227, 3), (20, .aload_n 0, 1), (21, .getfield 31, 3), (24, .invokevirtual 276, 3), (27, .ireturn, 1)])
set_option maxRecDepth 100000 in
theorem deX11_lowest : ∀ q ∈ miX11_lowest.2.2.2, decode miX11_lowest.1.2.2 q.1 = .ok q.2 := by decide +kernel
def miX11_clash : MI := ((yX11_clash, RX11, cX11_clash), (7, (some .int)), (0, 0), [(0, .aload_n 0, 1), (1, .iload_n 1, 1), (2, .invokevirtual 163, 3), (5, .astore_n 3, 1), (6, .aload_n 0, 1), (7, .iload_n 2, 1), (8, .invokevirtual 163, 3), (11, .astore 4, 2), (13, .aload_n 3, 1), (14, .ifnull 14, 3), (17, .aload 4, 2), (19, .ifnull 9, 3), (22, .aload_n 3, 1), (23, .aload 4, 2), (25, .if_acmp .ne 9, 3), (28, .aload_n 0, 1), (29, .iconst 2, 1), (30, .invokevirtual 135, 3), (33, .ireturn, 1), (34, .aload_n 3, 1), (35, .getfield 279, 3), (38, .iconst 1, 1), (39, .if_icmp .ne 12, 3), (42, .aload 4, 2), (44, .getfield 279, 3), (47, .iconst 1, 1), (48, .if_icmp .eq 9, 3), (51, .aload_n 0, 1), (52, .iconst 5, 1), (53, .invokevirtual 135, 3), (56, .ireturn, 1), (57, .aload_n 3, 1), (58, .invokestatic 280, 3), (61, .astore 5, 2), (63, .aload 5, 2), (65, .aload 4, 2), (67, .invokestatic 280, 3), (70, .if_acmp .eq 10, 3), (73, .aload_n 0, 1), (74, .bipush 8, 2), (76, .invokevirtual 135, 3), (79, .ireturn, 1), (80, .aload_n 0, 1), (81, .getfield 31, 3), (84, .aload 5, 2), (86, .invokevirtual 227, 3), (89, .aload_n 3, 1), (90, .aload 4, 2), (92, .invokestatic 284, 3), (95, .astore 6, 2), (97, .aload_n 0, 1), (98, .getfield 45, 3), (101, .aload_n 3, 1), (102, .aload 6, 2), (104, .invokevirtual 262, 3), (107, .aload_n 0, 1), (108, .getfield 49, 3), (111, .aload 4, 2), (113, .aload 6, 2), (115, .invokevirtual 262, 3), (118, .aload_n 0, 1), (119, .getfield 45, 3), (122, .getfield 266, 3), (125, .ifCond .eq 13, 3), (128, .aload_n 0, 1), (129, .getfield 49, 3), (132, .getfield 266, 3), (135, .ifCond .ne 10, 3), (138, .aload_n 0, 1), (139, .bipush 9, 2), (141, .invokevirtual 135, 3), (144, .ireturn, 1), (145, .aload_n 0, 1), (146, .iconst 0, 1), (147, .putfield 25, 3), (150, .aload_n 3, 1), (151, .getfield 288, 3), (154, .aload 4, 2), (156, .getfield 288, 3), (159, .if_icmp .ne 16, 3), (162, .aload_n 0, 1), (163, .aload 6, 2), (165, .invokevirtual 291, 3), (168, .ifCond .eq 7, 3), (171, .iconst 1, 1), (172, .goto 4, 3), (175, .iconst 0, 1), (176, .ireturn, 1)])
set_option maxRecDepth 100000 in
theorem deX11_clash : ∀ q ∈ miX11_clash.2.2.2, decode miX11_clash.1.2.2 q.1 = .ok q.2 := by decide +kernel
def miX11_clashes : MI := ((yX11_clashes, RX11, cX11_clashes), (5, (some .int)), (0, 0), [(0, .aload_n 0, 1), (1, .aload_n 0, 1), (2, .iload_n 1, 1), (3, .invokevirtual 295, 3), (6, .putfield 25, 3), (9, .aload_n 0, 1), (10, .getfield 25, 3), (13, .ifCond .eq 5, 3), (16, .iconst (-1), 1), (17, .ireturn, 1), (18, .iconst 0, 1), (19, .istore_n 2, 1), (20, .iconst 0, 1), (21, .istore_n 3, 1), (22, .iload_n 3, 1), (23, .aload_n 0, 1), (24, .getfield 31, 3), (27, .getfield 298, 3), (30, .if_icmp .ge 62, 3), (33, .iload_n 3, 1), (34, .iconst 1, 1), (35, .iadd, 1), (36, .istore 4, 2), (38, .iload 4, 2), (40, .aload_n 0, 1), (41, .getfield 31, 3), (44, .getfield 298, 3), (47, .if_icmp .ge 39, 3), (50, .aload_n 0, 1), (51, .aload_n 0, 1), (52, .getfield 31, 3), (55, .getfield 299, 3), (58, .iload_n 3, 1), (59, .aaload, 1), (60, .aload_n 0, 1), (61, .getfield 31, 3), (64, .getfield 299, 3), (67, .iload 4, 2), (69, .aaload, 1), (70, .iconst 0, 1), (71, .invokevirtual 302, 3), (74, .ifCond .eq 6, 3), (77, .iinc 2 1, 3), (80, .iinc 4 1, 3), (83, .goto (-45), 3), (86, .iinc 3 1, 3), (89, .goto (-67), 3), (92, .iload_n 2, 1), (93, .ireturn, 1)])
set_option maxRecDepth 100000 in
theorem deX11_clashes : ∀ q ∈ miX11_clashes.2.2.2, decode miX11_clashes.1.2.2 q.1 = .ok q.2 := by decide +kernel
def miX11_clear : MI := ((yX11_clear, RX11, cX11_clear), (4, (some .int)), (0, 0), [(0, .aload_n 0, 1), (1, .aload_n 0, 1), (2, .iload_n 1, 1), (3, .invokevirtual 295, 3), (6, .putfield 25, 3), (9, .aload_n 0, 1), (10, .getfield 25, 3), (13, .ifCond .eq 5, 3), (16, .iconst (-1), 1), (17, .ireturn, 1), (18, .aload_n 0, 1), (19, .invokevirtual 306, 3), (22, .iconst 0, 1), (23, .istore_n 2, 1), (24, .iload_n 2, 1), (25, .iconst 5, 1), (26, .if_icmp .gt 44, 3), (29, .aload_n 0, 1), (30, .getfield 55, 3), (33, .iload_n 2, 1), (34, .invokevirtual 309, 3), (37, .istore_n 3, 1), (38, .iload_n 3, 1), (39, .iconst 1, 1), (40, .if_icmp .ne 12, 3), (43, .aload_n 0, 1), (44, .getfield 55, 3), (47, .invokevirtual 312, 3), (50, .iload_n 2, 1), (51, .ireturn, 1), (52, .iload_n 3, 1), (53, .iconst 2, 1), (54, .if_icmp .ne 10, 3), (57, .aload_n 0, 1), (58, .bipush 10, 2), (60, .invokevirtual 135, 3), (63, .ireturn, 1), (64, .iinc 2 1, 3), (67, .goto (-43), 3), (70, .aload_n 0, 1), (71, .bipush 11, 2), (73, .invokevirtual 135, 3), (76, .ireturn, 1)])
set_option maxRecDepth 100000 in
theorem deX11_clear : ∀ q ∈ miX11_clear.2.2.2, decode miX11_clear.1.2.2 q.1 = .ok q.2 := by decide +kernel
def miX11_ways : MI := ((yX11_ways, RX11, cX11_ways), (4, (some .int)), (0, 0), [(0, .aload_n 0, 1), (1, .iload_n 1, 1), (2, .iload_n 2, 1), (3, .invokevirtual 315, 3), (6, .istore_n 3, 1), (7, .aload_n 0, 1), (8, .iload_n 3, 1), (9, .ifCond .ne 20, 3), (12, .aload_n 0, 1), (13, .aload_n 0, 1), (14, .iload_n 1, 1), (15, .invokevirtual 163, 3), (18, .aload_n 0, 1), (19, .iload_n 2, 1), (20, .invokevirtual 81, 3), (23, .invokevirtual 319, 3), (26, .goto 4, 3), (29, .iload_n 3, 1), (30, .putfield 25, 3), (33, .aload_n 0, 1), (34, .getfield 25, 3), (37, .ifCond .ne 20, 3), (40, .aload_n 0, 1), (41, .aload_n 0, 1), (42, .iload_n 1, 1), (43, .invokevirtual 163, 3), (46, .aload_n 0, 1), (47, .iload_n 2, 1), (48, .invokevirtual 81, 3), (51, .invokevirtual 323, 3), (54, .goto 4, 3), (57, .iconst (-1), 1), (58, .ireturn, 1)])
set_option maxRecDepth 100000 in
theorem deX11_ways : ∀ q ∈ miX11_ways.2.2.2, decode miX11_ways.1.2.2 q.1 = .ok q.2 := by decide +kernel
def miX11_fill : MI := ((yX11_fill, RX11, cX11_fill), (6, (some .int)), (0, 0), [(0, .aload_n 0, 1), (1, .iload_n 2, 1), (2, .invokevirtual 81, 3), (5, .astore 4, 2), (7, .aload_n 0, 1), (8, .iload_n 1, 1), (9, .iload_n 2, 1), (10, .invokevirtual 315, 3), (13, .istore 5, 2), (15, .iload 5, 2), (17, .ifCond .ne 11, 3), (20, .aload 4, 2), (22, .iload_n 3, 1), (23, .invokestatic 97, 3), (26, .istore 5, 2), (28, .iload 5, 2), (30, .ifCond .ne 16, 3), (33, .aload_n 0, 1), (34, .aload_n 0, 1), (35, .iload_n 1, 1), (36, .invokevirtual 163, 3), (39, .aload 4, 2), (41, .invokevirtual 319, 3), (44, .istore 5, 2), (46, .iload 5, 2), (48, .ifCond .ne 21, 3), (51, .aload_n 0, 1), (52, .aload_n 0, 1), (53, .iload_n 1, 1), (54, .invokevirtual 163, 3), (57, .aload 4, 2), (59, .invokevirtual 323, 3), (62, .ifCond .ne 7, 3), (65, .bipush 11, 2), (67, .istore 5, 2), (69, .aload_n 0, 1), (70, .iload 5, 2), (72, .putfield 25, 3), (75, .aload_n 0, 1), (76, .getfield 25, 3), (79, .ifCond .ne 14, 3), (82, .aload_n 0, 1), (83, .getfield 62, 3), (86, .iload_n 3, 1), (87, .invokevirtual 326, 3), (90, .goto 4, 3), (93, .iconst (-1), 1), (94, .ireturn, 1)])
set_option maxRecDepth 100000 in
theorem deX11_fill : ∀ q ∈ miX11_fill.2.2.2, decode miX11_fill.1.2.2 q.1 = .ok q.2 := by decide +kernel
def miX11_fewest : MI := ((yX11_fewest, RX11, cX11_fewest), (3, (some .int)), (0, 0), [(0, .aload_n 0, 1), (1, .aload_n 0, 1), (2, .aload_n 0, 1), (3, .iload_n 1, 1), (4, .invokevirtual 163, 3), (7, .iload_n 2, 1), (8, .invokevirtual 329, 3), (11, .putfield 25, 3), (14, .aload_n 0, 1), (15, .getfield 25, 3), (18, .ifCond .eq 5, 3), (21, .iconst (-1), 1), (22, .ireturn, 1), (23, .iload_n 2, 1), (24, .ifCond .ne 13, 3), (27, .aload_n 0, 1), (28, .iconst 0, 1), (29, .putfield 70, 3), (32, .aload_n 0, 1), (33, .getfield 70, 3), (36, .ireturn, 1), (37, .iload_n 2, 1), (38, .aload_n 0, 1), (39, .getfield 31, 3), (42, .iconst 1, 1), (43, .invokevirtual 332, 3), (46, .if_icmp .gt 13, 3), (49, .aload_n 0, 1), (50, .getfield 31, 3), (53, .invokevirtual 335, 3), (56, .ifCond .ne 10, 3), (59, .aload_n 0, 1), (60, .bipush 11, 2), (62, .invokevirtual 135, 3), (65, .ireturn, 1), (66, .aload_n 0, 1), (67, .invokevirtual 338, 3), (70, .aload_n 0, 1), (71, .getfield 70, 3), (74, .ireturn, 1)])
set_option maxRecDepth 100000 in
theorem deX11_fewest : ∀ q ∈ miX11_fewest.2.2.2, decode miX11_fewest.1.2.2 q.1 = .ok q.2 := by decide +kernel
def miX11_suspect : MI := ((yX11_suspect, RX11, cX11_suspect), (2, (some .int)), (0, 0), [(0, .iload_n 1, 1), (1, .ifCond .lt 29, 3), (4, .iload_n 1, 1), (5, .aload_n 0, 1), (6, .getfield 70, 3), (9, .if_icmp .ge 21, 3), (12, .iload_n 1, 1), (13, .aload_n 0, 1), (14, .getfield 66, 3), (17, .arraylength, 1), (18, .if_icmp .ge 12, 3), (21, .aload_n 0, 1), (22, .getfield 66, 3), (25, .iload_n 1, 1), (26, .iaload, 1), (27, .goto 4, 3), (30, .iconst (-1), 1), (31, .ireturn, 1)])
set_option maxRecDepth 100000 in
theorem deX11_suspect : ∀ q ∈ miX11_suspect.2.2.2, decode miX11_suspect.1.2.2 q.1 = .ok q.2 := by decide +kernel
def miX11_cut : MI := ((yX11_cut, RX11, cX11_cut), (4, (some .int)), (0, 0), [(0, .iconst 0, 1), (1, .istore_n 1, 1), (2, .iconst 0, 1), (3, .istore_n 2, 1), (4, .iload_n 2, 1), (5, .aload_n 0, 1), (6, .getfield 70, 3), (9, .if_icmp .ge 37, 3), (12, .aload_n 0, 1), (13, .aload_n 0, 1), (14, .iload_n 2, 1), (15, .invokevirtual 341, 3), (18, .invokevirtual 163, 3), (21, .astore_n 3, 1), (22, .aload_n 3, 1), (23, .ifnull 17, 3), (26, .aload_n 3, 1), (27, .getfield 196, 3), (30, .ifnull 10, 3), (33, .aload_n 3, 1), (34, .invokevirtual 210, 3), (37, .iinc 1 1, 3), (40, .iinc 2 1, 3), (43, .goto (-39), 3), (46, .aload_n 0, 1), (47, .iconst 0, 1), (48, .putfield 25, 3), (51, .iload_n 1, 1), (52, .ireturn, 1)])
set_option maxRecDepth 100000 in
theorem deX11_cut : ∀ q ∈ miX11_cut.2.2.2, decode miX11_cut.1.2.2 q.1 = .ok q.2 := by decide +kernel
def miX11_same : MI := ((yX11_same, RX11, cX11_same), (5, (some .int)), (0, 0), [(0, .aload_n 0, 1), (1, .iload_n 1, 1), (2, .invokevirtual 163, 3), (5, .astore_n 3, 1), (6, .aload_n 0, 1), (7, .iload_n 2, 1), (8, .invokevirtual 163, 3), (11, .astore 4, 2), (13, .aload_n 3, 1), (14, .ifnull 8, 3), (17, .aload 4, 2), (19, .ifnonnull 9, 3), (22, .aload_n 0, 1), (23, .iconst 2, 1), (24, .invokevirtual 135, 3), (27, .ireturn, 1), (28, .aload_n 3, 1), (29, .getfield 196, 3), (32, .ifnonnull 11, 3), (35, .aload 4, 2), (37, .getfield 196, 3), (40, .ifnull 10, 3), (43, .aload_n 0, 1), (44, .bipush 8, 2), (46, .invokevirtual 135, 3), (49, .ireturn, 1), (50, .aload_n 0, 1), (51, .iconst 0, 1), (52, .putfield 25, 3), (55, .aload_n 3, 1), (56, .aload 4, 2), (58, .if_acmp .eq 13, 3), (61, .aload_n 3, 1), (62, .aload 4, 2), (64, .iconst 0, 1), (65, .invokestatic 344, 3), (68, .ifCond .eq 7, 3), (71, .iconst 1, 1), (72, .goto 4, 3), (75, .iconst 0, 1), (76, .ireturn, 1)])
set_option maxRecDepth 100000 in
theorem deX11_same : ∀ q ∈ miX11_same.2.2.2, decode miX11_same.1.2.2 q.1 = .ok q.2 := by decide +kernel
def miX11_show : MI := ((yX11_show, RX11, cX11_show), (3, (some .int)), (0, 0), [(0, .aload_n 0, 1), (1, .iload_n 1, 1), (2, .invokevirtual 239, 3), (5, .astore_n 2, 1), (6, .aload_n 2, 1), (7, .ifnonnull 5, 3), (10, .iconst (-1), 1), (11, .ireturn, 1), (12, .aload_n 0, 1), (13, .getfield 76, 3), (16, .aload_n 2, 1), (17, .invokevirtual 347, 3), (20, .ireturn, 1)])
set_option maxRecDepth 100000 in
theorem deX11_show : ∀ q ∈ miX11_show.2.2.2, decode miX11_show.1.2.2 q.1 = .ok q.2 := by decide +kernel
def miX11_out : MI := ((yX11_out, RX11, cX11_out), (2, (some .int)), (0, 0), [(0, .aload_n 0, 1), (1, .getfield 76, 3), (4, .iload_n 1, 1), (5, .invokevirtual 350, 3), (8, .ifCond .ne 14, 3), (11, .new 353, 3), (14, .dup, 1), (15, .ldc_w 355, 3), (18, .invokespecial 357, 3), (21, .athrow, 1), (22, .aload_n 0, 1), (23, .getfield 76, 3), (26, .iload_n 1, 1), (27, .invokevirtual 360, 3), (30, .ireturn, 1)])
set_option maxRecDepth 100000 in
theorem deX11_out : ∀ q ∈ miX11_out.2.2.2, decode miX11_out.1.2.2 q.1 = .ok q.2 := by decide +kernel
def miX11_allows : MI := ((yX11_allows, RX11, cX11_allows), (1, (some .boolean)), (0, 0), [(0, .aload_n 0, 1), (1, .iconst 0, 1), (2, .putfield 25, 3), (5, .iconst 1, 1), (6, .ireturn, 1)])
set_option maxRecDepth 100000 in
theorem deX11_allows : ∀ q ∈ miX11_allows.2.2.2, decode miX11_allows.1.2.2 q.1 = .ok q.2 := by decide +kernel
def miX11_refuses : MI := ((yX11_refuses, RX11, cX11_refuses), (2, (some .boolean)), (0, 0), [(0, .aload_n 0, 1), (1, .iload_n 1, 1), (2, .putfield 25, 3), (5, .iconst 0, 1), (6, .ireturn, 1)])
set_option maxRecDepth 100000 in
theorem deX11_refuses : ∀ q ∈ miX11_refuses.2.2.2, decode miX11_refuses.1.2.2 q.1 = .ok q.2 := by decide +kernel
def miX11_none : MI := ((yX11_none, RX11, cX11_none), (2, (some .int)), (0, 0), [(0, .aload_n 0, 1), (1, .iload_n 1, 1), (2, .putfield 25, 3), (5, .iconst (-1), 1), (6, .ireturn, 1)])
set_option maxRecDepth 100000 in
theorem deX11_none : ∀ q ∈ miX11_none.2.2.2, decode miX11_none.1.2.2 q.1 = .ok q.2 := by decide +kernel
def miX11_trayAt : MI := ((yX11_trayAt, RX11, cX11_trayAt), (2, (some (.object "MobileMaker$Tray"))), (0, 0), [(0, .iload_n 1, 1), (1, .ifCond .lt 21, 3), (4, .iload_n 1, 1), (5, .aload_n 0, 1), (6, .getfield 11, 3), (9, .arraylength, 1), (10, .if_icmp .ge 12, 3), (13, .aload_n 0, 1), (14, .getfield 11, 3), (17, .iload_n 1, 1), (18, .aaload, 1), (19, .goto 4, 3), (22, .aconst_null, 1), (23, .areturn, 1)])
set_option maxRecDepth 100000 in
theorem deX11_trayAt : ∀ q ∈ miX11_trayAt.2.2.2, decode miX11_trayAt.1.2.2 q.1 = .ok q.2 := by decide +kernel
def miX11_partAt : MI := ((yX11_partAt, RX11, cX11_partAt), (2, (some (.object "MobileMaker$Part"))), (0, 0), [(0, .iload_n 1, 1), (1, .ifCond .lt 29, 3), (4, .iload_n 1, 1), (5, .aload_n 0, 1), (6, .getfield 21, 3), (9, .if_icmp .ge 21, 3), (12, .iload_n 1, 1), (13, .aload_n 0, 1), (14, .getfield 17, 3), (17, .arraylength, 1), (18, .if_icmp .ge 12, 3), (21, .aload_n 0, 1), (22, .getfield 17, 3), (25, .iload_n 1, 1), (26, .aaload, 1), (27, .goto 4, 3), (30, .aconst_null, 1), (31, .areturn, 1)])
set_option maxRecDepth 100000 in
theorem deX11_partAt : ∀ q ∈ miX11_partAt.2.2.2, decode miX11_partAt.1.2.2 q.1 = .ok q.2 := by decide +kernel
def miX11_asRod : MI := ((yX11_asRod, RX11, cX11_asRod), (2, (some (.object "MobileMaker$Rod"))), (0, 0), [(0, .aload_n 0, 1), (1, .instanceof 139, 3), (4, .ifCond .eq 10, 3), (7, .aload_n 0, 1), (8, .checkcast 139, 3), (11, .astore_n 1, 1), (12, .aload_n 1, 1), (13, .areturn, 1), (14, .aconst_null, 1), (15, .areturn, 1)])
set_option maxRecDepth 100000 in
theorem deX11_asRod : ∀ q ∈ miX11_asRod.2.2.2, decode miX11_asRod.1.2.2 q.1 = .ok q.2 := by decide +kernel
def miX11_placeStatus : MI := ((yX11_placeStatus, RX11, cX11_placeStatus), (2, (some .int)), (0, 0), [(0, .aload_n 0, 1), (1, .ifnonnull 5, 3), (4, .iconst 1, 1), (5, .ireturn, 1), (6, .aload_n 0, 1), (7, .invokevirtual 111, 3), (10, .ifCond .eq 5, 3), (13, .iconst 3, 1), (14, .ireturn, 1), (15, .aload_n 0, 1), (16, .iload_n 1, 1), (17, .invokevirtual 362, 3), (20, .ifCond .eq 7, 3), (23, .iconst 0, 1), (24, .goto 4, 3), (27, .iconst 4, 1), (28, .ireturn, 1)])
set_option maxRecDepth 100000 in
theorem deX11_placeStatus : ∀ q ∈ miX11_placeStatus.2.2.2, decode miX11_placeStatus.1.2.2 q.1 = .ok q.2 := by decide +kernel
def miX11_rodGiven : MI := ((yX11_rodGiven, RX11, cX11_rodGiven), (4, (some (.object "MobileMaker$Rod"))), (0, 0), [(0, .aload_n 0, 1), (1, .iload_n 1, 1), (2, .invokevirtual 163, 3), (5, .astore_n 2, 1), (6, .aload_n 2, 1), (7, .invokestatic 182, 3), (10, .astore_n 3, 1), (11, .aload_n 0, 1), (12, .aload_n 2, 1), (13, .ifnonnull 7, 3), (16, .iconst 2, 1), (17, .goto 12, 3), (20, .aload_n 3, 1), (21, .ifnonnull 7, 3), (24, .iconst 5, 1), (25, .goto 4, 3), (28, .iconst 0, 1), (29, .putfield 25, 3), (32, .aload_n 3, 1), (33, .areturn, 1)])
set_option maxRecDepth 100000 in
theorem deX11_rodGiven : ∀ q ∈ miX11_rodGiven.2.2.2, decode miX11_rodGiven.1.2.2 q.1 = .ok q.2 := by decide +kernel
def miX11_topGiven : MI := ((yX11_topGiven, RX11, cX11_topGiven), (3, (some (.object "MobileMaker$Part"))), (0, 0), [(0, .aload_n 0, 1), (1, .iload_n 1, 1), (2, .invokevirtual 163, 3), (5, .astore_n 2, 1), (6, .aload_n 0, 1), (7, .aload_n 2, 1), (8, .ifnonnull 7, 3), (11, .iconst 2, 1), (12, .goto 16, 3), (15, .aload_n 2, 1), (16, .getfield 196, 3), (19, .ifnull 8, 3), (22, .bipush 8, 2), (24, .goto 4, 3), (27, .iconst 0, 1), (28, .putfield 25, 3), (31, .aload_n 0, 1), (32, .getfield 25, 3), (35, .ifCond .ne 7, 3), (38, .aload_n 2, 1), (39, .goto 4, 3), (42, .aconst_null, 1), (43, .areturn, 1)])
set_option maxRecDepth 100000 in
theorem deX11_topGiven : ∀ q ∈ miX11_topGiven.2.2.2, decode miX11_topGiven.1.2.2 q.1 = .ok q.2 := by decide +kernel
def miX11_wholeTopStatus : MI := ((yX11_wholeTopStatus, RX11, cX11_wholeTopStatus), (3, (some .int)), (0, 0), [(0, .aload_n 0, 1), (1, .iload_n 1, 1), (2, .invokevirtual 163, 3), (5, .astore_n 2, 1), (6, .aload_n 2, 1), (7, .ifnonnull 5, 3), (10, .iconst 2, 1), (11, .ireturn, 1), (12, .aload_n 2, 1), (13, .getfield 196, 3), (16, .ifnull 6, 3), (19, .bipush 8, 2), (21, .ireturn, 1), (22, .aload_n 0, 1), (23, .getfield 31, 3), (26, .aload_n 2, 1), (27, .invokevirtual 227, 3), (30, .aload_n 0, 1), (31, .getfield 31, 3), (34, .invokevirtual 363, 3), (37, .ifCond .eq 7, 3), (40, .iconst 0, 1), (41, .goto 5, 3), (44, .bipush 9, 2), (46, .ireturn, 1)])
set_option maxRecDepth 100000 in
theorem deX11_wholeTopStatus : ∀ q ∈ miX11_wholeTopStatus.2.2.2, decode miX11_wholeTopStatus.1.2.2 q.1 = .ok q.2 := by decide +kernel
def miX11_isThread : MI := ((yX11_isThread, RX11, cX11_isThread), (1, (some .boolean)), (0, 0), [(0, .iload_n 0, 1), (1, .iconst 1, 1), (2, .if_icmp .lt 14, 3), (5, .iload_n 0, 1), (6, .sipush 1000, 3), (9, .if_icmp .gt 7, 3), (12, .iconst 1, 1), (13, .goto 4, 3), (16, .iconst 0, 1), (17, .ireturn, 1)])
set_option maxRecDepth 100000 in
theorem deX11_isThread : ∀ q ∈ miX11_isThread.2.2.2, decode miX11_isThread.1.2.2 q.1 = .ok q.2 := by decide +kernel
def miX11_newWeight : MI := ((yX11_newWeight, RX11, cX11_newWeight), (3, (some .int)), (0, 0), [(0, .lload_n 1, 1), (1, .lconst 1, 1), (2, .lcmp, 1), (3, .ifCond .lt 11, 3), (6, .lload_n 1, 1), (7, .ldc2_w 366, 3), (10, .lcmp, 1), (11, .ifCond .le 10, 3), (14, .aload_n 0, 1), (15, .bipush 7, 2), (17, .invokevirtual 135, 3), (20, .ireturn, 1), (21, .aload_n 0, 1), (22, .getfield 21, 3), (25, .bipush 60, 2), (27, .if_icmp .lt 10, 3), (30, .aload_n 0, 1), (31, .bipush 10, 2), (33, .invokevirtual 135, 3), (36, .ireturn, 1), (37, .aload_n 0, 1), (38, .new 368, 3), (41, .dup, 1), (42, .aload_n 0, 1), (43, .getfield 21, 3), (46, .lload_n 1, 1), (47, .l2i, 1), (48, .invokespecial 370, 3), (51, .invokevirtual 144, 3), (54, .ireturn, 1)])
set_option maxRecDepth 100000 in
theorem deX11_newWeight : ∀ q ∈ miX11_newWeight.2.2.2, decode miX11_newWeight.1.2.2 q.1 = .ok q.2 := by decide +kernel
def miX11_added : MI := ((yX11_added, RX11, cX11_added), (2, (some .int)), (0, 0), [(0, .aload_n 0, 1), (1, .getfield 21, 3), (4, .aload_n 0, 1), (5, .getfield 17, 3), (8, .arraylength, 1), (9, .if_icmp .lt 10, 3), (12, .aload_n 0, 1), (13, .bipush 10, 2), (15, .invokevirtual 135, 3), (18, .ireturn, 1), (19, .aload_n 0, 1), (20, .getfield 17, 3), (23, .aload_n 0, 1), (24, .getfield 21, 3), (27, .aload_n 1, 1), (28, .aastore, 1), (29, .aload_n 0, 1), (30, .dup, 1), (31, .getfield 21, 3), (34, .iconst 1, 1), (35, .iadd, 1), (36, .putfield 21, 3), (39, .aload_n 0, 1), (40, .iconst 0, 1), (41, .putfield 25, 3), (44, .aload_n 1, 1), (45, .getfield 372, 3), (48, .ireturn, 1)])
set_option maxRecDepth 100000 in
theorem deX11_added : ∀ q ∈ miX11_added.2.2.2, decode miX11_added.1.2.2 q.1 = .ok q.2 := by decide +kernel
def miX11_partTold : MI := ((yX11_partTold, RX11, cX11_partTold), (2, (some .int)), (0, 0), [(0, .iload_n 1, 1), (1, .tableswitch 94 0 5 #[39, 44, 49, 68, 84, 89], 39), (40, .aload_n 0, 1), (41, .getfield 279, 3), (44, .ireturn, 1), (45, .aload_n 0, 1), (46, .getfield 375, 3), (49, .ireturn, 1), (50, .aload_n 0, 1), (51, .getfield 196, 3), (54, .ifnonnull 7, 3), (57, .iconst (-1), 1), (58, .goto 10, 3), (61, .aload_n 0, 1), (62, .getfield 196, 3), (65, .getfield 378, 3), (68, .ireturn, 1), (69, .aload_n 0, 1), (70, .getfield 196, 3), (73, .ifnonnull 7, 3), (76, .iconst (-1), 1), (77, .goto 7, 3), (80, .aload_n 0, 1), (81, .getfield 379, 3), (84, .ireturn, 1), (85, .aload_n 0, 1), (86, .getfield 207, 3), (89, .ireturn, 1), (90, .aload_n 0, 1), (91, .invokestatic 382, 3), (94, .ireturn, 1), (95, .aload_n 0, 1), (96, .invokestatic 280, 3), (99, .getfield 372, 3), (102, .ireturn, 1)])
set_option maxRecDepth 100000 in
theorem deX11_partTold : ∀ q ∈ miX11_partTold.2.2.2, decode miX11_partTold.1.2.2 q.1 = .ok q.2 := by decide +kernel
def miX11_rodTold : MI := ((yX11_rodTold, RX11, cX11_rodTold), (3, (some .long)), (0, 0), [(0, .iload_n 1, 1), (1, .tableswitch 55 0 3 #[31, 37, 43, 49], 31), (32, .aload_n 0, 1), (33, .getfield 385, 3), (36, .i2l, 1), (37, .lreturn, 1), (38, .aload_n 0, 1), (39, .getfield 388, 3), (42, .i2l, 1), (43, .lreturn, 1), (44, .aload_n 0, 1), (45, .getfield 214, 3), (48, .i2l, 1), (49, .lreturn, 1), (50, .aload_n 0, 1), (51, .getfield 217, 3), (54, .i2l, 1), (55, .lreturn, 1), (56, .aload_n 0, 1), (57, .iload_n 1, 1), (58, .iconst 4, 1), (59, .if_icmp .ne 7, 3), (62, .iconst 0, 1), (63, .goto 4, 3), (66, .iconst 1, 1), (67, .invokevirtual 200, 3), (70, .astore_n 2, 1), (71, .aload_n 2, 1), (72, .ifnonnull 9, 3), (75, .ldc2_w 109, 3), (78, .goto 8, 3), (81, .aload_n 2, 1), (82, .getfield 372, 3), (85, .i2l, 1), (86, .lreturn, 1)])
set_option maxRecDepth 100000 in
theorem deX11_rodTold : ∀ q ∈ miX11_rodTold.2.2.2, decode miX11_rodTold.1.2.2 q.1 = .ok q.2 := by decide +kernel
def miX11_topOf : MI := ((yX11_topOf, RX11, cX11_topOf), (3, (some (.object "MobileMaker$Part"))), (0, 0), [(0, .aload_n 0, 1), (1, .astore_n 1, 1), (2, .aload_n 0, 1), (3, .getfield 196, 3), (6, .astore_n 2, 1), (7, .aload_n 2, 1), (8, .ifnull 13, 3), (11, .aload_n 2, 1), (12, .astore_n 1, 1), (13, .aload_n 2, 1), (14, .getfield 261, 3), (17, .astore_n 2, 1), (18, .goto (-11), 3), (21, .aload_n 1, 1), (22, .areturn, 1)])
set_option maxRecDepth 100000 in
theorem deX11_topOf : ∀ q ∈ miX11_topOf.2.2.2, decode miX11_topOf.1.2.2 q.1 = .ok q.2 := by decide +kernel
def miX11_heightOf : MI := ((yX11_heightOf, RX11, cX11_heightOf), (3, (some .int)), (0, 0), [(0, .aload_n 0, 1), (1, .getfield 207, 3), (4, .istore_n 1, 1), (5, .aload_n 0, 1), (6, .getfield 196, 3), (9, .astore_n 2, 1), (10, .aload_n 2, 1), (11, .ifnull 18, 3), (14, .iload_n 1, 1), (15, .aload_n 2, 1), (16, .getfield 391, 3), (19, .iadd, 1), (20, .istore_n 1, 1), (21, .aload_n 2, 1), (22, .getfield 261, 3), (25, .astore_n 2, 1), (26, .goto (-16), 3), (29, .iload_n 1, 1), (30, .ireturn, 1)])
set_option maxRecDepth 100000 in
theorem deX11_heightOf : ∀ q ∈ miX11_heightOf.2.2.2, decode miX11_heightOf.1.2.2 q.1 = .ok q.2 := by decide +kernel
def miX11_isAbove : MI := ((yX11_isAbove, RX11, cX11_isAbove), (3, (some .boolean)), (0, 0), [(0, .aload_n 1, 1), (1, .getfield 196, 3), (4, .astore_n 2, 1), (5, .aload_n 2, 1), (6, .ifnull 18, 3), (9, .aload_n 2, 1), (10, .aload_n 0, 1), (11, .if_acmp .ne 5, 3), (14, .iconst 1, 1), (15, .ireturn, 1), (16, .aload_n 2, 1), (17, .getfield 261, 3), (20, .astore_n 2, 1), (21, .goto (-16), 3), (24, .iconst 0, 1), (25, .ireturn, 1)])
set_option maxRecDepth 100000 in
theorem deX11_isAbove : ∀ q ∈ miX11_isAbove.2.2.2, decode miX11_isAbove.1.2.2 q.1 = .ok q.2 := by decide +kernel
def miX11_lastAboveBoth : MI := ((yX11_lastAboveBoth, RX11, cX11_lastAboveBoth), (3, (some (.object "MobileMaker$Rod"))), (0, 0), [(0, .aload_n 0, 1), (1, .getfield 196, 3), (4, .astore_n 2, 1), (5, .aload_n 2, 1), (6, .ifnull 27, 3), (9, .aload_n 1, 1), (10, .getfield 392, 3), (13, .aload_n 2, 1), (14, .invokevirtual 395, 3), (17, .land, 1), (18, .lconst 0, 1), (19, .lcmp, 1), (20, .ifCond .eq 5, 3), (23, .aload_n 2, 1), (24, .areturn, 1), (25, .aload_n 2, 1), (26, .getfield 261, 3), (29, .astore_n 2, 1), (30, .goto (-25), 3), (33, .aconst_null, 1), (34, .areturn, 1)])
set_option maxRecDepth 100000 in
theorem deX11_lastAboveBoth : ∀ q ∈ miX11_lastAboveBoth.2.2.2, decode miX11_lastAboveBoth.1.2.2 q.1 = .ok q.2 := by decide +kernel
def miX11_canTouch : MI := ((yX11_canTouch, RX11, cX11_canTouch), (2, (some .boolean)), (0, 0), [(0, .aload_n 1, 1), (1, .ifnull 73, 3), (4, .aload_n 1, 1), (5, .getfield 385, 3), (8, .aload_n 0, 1), (9, .getfield 45, 3), (12, .getfield 270, 3), (15, .aload_n 0, 1), (16, .getfield 49, 3), (19, .getfield 270, 3), (22, .iadd, 1), (23, .if_icmp .gt 51, 3), (26, .aload_n 0, 1), (27, .getfield 45, 3), (30, .invokevirtual 273, 3), (33, .aload_n 0, 1), (34, .getfield 49, 3), (37, .getfield 270, 3), (40, .aload_n 1, 1), (41, .getfield 385, 3), (44, .iadd, 1), (45, .if_icmp .gt 29, 3), (48, .aload_n 0, 1), (49, .getfield 49, 3), (52, .invokevirtual 273, 3), (55, .aload_n 0, 1), (56, .getfield 45, 3), (59, .getfield 270, 3), (62, .aload_n 1, 1), (63, .getfield 385, 3), (66, .iadd, 1), (67, .if_icmp .gt 7, 3), (70, .iconst 1, 1), (71, .goto 4, 3), (74, .iconst 0, 1), (75, .ireturn, 1)])
set_option maxRecDepth 100000 in
theorem deX11_canTouch : ∀ q ∈ miX11_canTouch.2.2.2, decode miX11_canTouch.1.2.2 q.1 = .ok q.2 := by decide +kernel
def miX11_canMeet : MI := ((yX11_canMeet, RX11, cX11_canMeet), (5, (some .boolean)), (0, 0), [(0, .aload_n 1, 1), (1, .ifnull 23, 3), (4, .aload_n 2, 1), (5, .ifnull 19, 3), (8, .aload_n 1, 1), (9, .getfield 279, 3), (12, .iconst 1, 1), (13, .if_icmp .ne 11, 3), (16, .aload_n 2, 1), (17, .getfield 279, 3), (20, .iconst 1, 1), (21, .if_icmp .eq 5, 3), (24, .iconst 0, 1), (25, .ireturn, 1), (26, .aload_n 1, 1), (27, .getfield 288, 3), (30, .aload_n 2, 1), (31, .getfield 288, 3), (34, .isub, 1), (35, .invokestatic 398, 3), (38, .iload_n 3, 1), (39, .if_icmp .le 5, 3), (42, .iconst 0, 1), (43, .ireturn, 1), (44, .aload_n 1, 1), (45, .aload_n 2, 1), (46, .invokestatic 284, 3), (49, .astore 4, 2), (51, .aload_n 0, 1), (52, .getfield 45, 3), (55, .aload_n 1, 1), (56, .aload 4, 2), (58, .invokevirtual 262, 3), (61, .aload_n 0, 1), (62, .getfield 49, 3), (65, .aload_n 2, 1), (66, .aload 4, 2), (68, .invokevirtual 262, 3), (71, .aload_n 0, 1), (72, .aload 4, 2), (74, .invokevirtual 291, 3), (77, .ireturn, 1)])
set_option maxRecDepth 100000 in
theorem deX11_canMeet : ∀ q ∈ miX11_canMeet.2.2.2, decode miX11_canMeet.1.2.2 q.1 = .ok q.2 := by decide +kernel
def miX11_prepareClearing : MI := ((yX11_prepareClearing, RX11, cX11_prepareClearing), (3, none), (0, 0), [(0, .aload_n 0, 1), (1, .getfield 55, 3), (4, .invokevirtual 403, 3), (7, .iconst 0, 1), (8, .istore_n 1, 1), (9, .iload_n 1, 1), (10, .aload_n 0, 1), (11, .getfield 21, 3), (14, .if_icmp .ge 46, 3), (17, .aload_n 0, 1), (18, .getfield 17, 3), (21, .iload_n 1, 1), (22, .aaload, 1), (23, .astore_n 2, 1), (24, .aload_n 2, 1), (25, .ifnull 29, 3), (28, .aload_n 2, 1), (29, .getfield 196, 3), (32, .ifnull 22, 3), (35, .aload_n 0, 1), (36, .getfield 31, 3), (39, .aload_n 2, 1), (40, .invokevirtual 406, 3), (43, .ifCond .eq 11, 3), (46, .aload_n 0, 1), (47, .getfield 55, 3), (50, .aload_n 2, 1), (51, .invokevirtual 410, 3), (54, .iinc 1 1, 3), (57, .goto (-48), 3), (60, .iconst 0, 1), (61, .istore_n 1, 1), (62, .iload_n 1, 1), (63, .aload_n 0, 1), (64, .getfield 31, 3), (67, .getfield 298, 3), (70, .if_icmp .ge 81, 3), (73, .iload_n 1, 1), (74, .iconst 1, 1), (75, .iadd, 1), (76, .istore_n 2, 1), (77, .iload_n 2, 1), (78, .aload_n 0, 1), (79, .getfield 31, 3), (82, .getfield 298, 3), (85, .if_icmp .ge 60, 3), (88, .aload_n 0, 1), (89, .aload_n 0, 1), (90, .getfield 31, 3), (93, .getfield 299, 3), (96, .iload_n 1, 1), (97, .aaload, 1), (98, .aload_n 0, 1), (99, .getfield 31, 3), (102, .getfield 299, 3), (105, .iload_n 2, 1), (106, .aaload, 1), (107, .iconst 5, 1), (108, .invokevirtual 302, 3), (111, .ifCond .eq 28, 3), (114, .aload_n 0, 1), (115, .getfield 55, 3), (118, .aload_n 0, 1), (119, .getfield 31, 3), (122, .getfield 299, 3), (125, .iload_n 1, 1), (126, .aaload, 1), (127, .aload_n 0, 1), (128, .getfield 31, 3), (131, .getfield 299, 3), (134, .iload_n 2, 1), (135, .aaload, 1), (136, .invokevirtual 413, 3), (139, .iinc 2 1, 3), (142, .goto (-65), 3), (145, .iinc 1 1, 3), (148, .goto (-86), 3), (151, .return_, 1)])
set_option maxRecDepth 100000 in
theorem deX11_prepareClearing : ∀ q ∈ miX11_prepareClearing.2.2.2, decode miX11_prepareClearing.1.2.2 q.1 = .ok q.2 := by decide +kernel
def miX11_givenStatus : MI := ((yX11_givenStatus, RX11, cX11_givenStatus), (4, (some .int)), (0, 0), [(0, .aload_n 0, 1), (1, .iload_n 2, 1), (2, .invokevirtual 81, 3), (5, .astore_n 3, 1), (6, .aload_n 3, 1), (7, .ifnonnull 5, 3), (10, .iconst 1, 1), (11, .ireturn, 1), (12, .aload_n 0, 1), (13, .iload_n 1, 1), (14, .invokevirtual 163, 3), (17, .ifnonnull 5, 3), (20, .iconst 2, 1), (21, .ireturn, 1), (22, .aload_n 3, 1), (23, .invokevirtual 111, 3), (26, .ifCond .eq 7, 3), (29, .iconst 3, 1), (30, .goto 4, 3), (33, .iconst 0, 1), (34, .ireturn, 1)])
set_option maxRecDepth 100000 in
theorem deX11_givenStatus : ∀ q ∈ miX11_givenStatus.2.2.2, decode miX11_givenStatus.1.2.2 q.1 = .ok q.2 := by decide +kernel
def miX11_shapeStatus : MI := ((yX11_shapeStatus, RX11, cX11_shapeStatus), (3, (some .int)), (0, 0), [(0, .aload_n 1, 1), (1, .invokestatic 182, 3), (4, .ifnonnull 5, 3), (7, .iconst 5, 1), (8, .ireturn, 1), (9, .aload_n 2, 1), (10, .ifnull 10, 3), (13, .aload_n 2, 1), (14, .invokevirtual 417, 3), (17, .ifCond .ne 6, 3), (20, .bipush 7, 2), (22, .ireturn, 1), (23, .aload_n 1, 1), (24, .getfield 196, 3), (27, .ifnull 6, 3), (30, .bipush 8, 2), (32, .ireturn, 1), (33, .aload_n 0, 1), (34, .getfield 31, 3), (37, .aload_n 1, 1), (38, .invokevirtual 227, 3), (41, .aload_n 0, 1), (42, .getfield 31, 3), (45, .invokevirtual 420, 3), (48, .ifCond .eq 7, 3), (51, .iconst 0, 1), (52, .goto 5, 3), (55, .bipush 9, 2), (57, .ireturn, 1)])
set_option maxRecDepth 100000 in
theorem deX11_shapeStatus : ∀ q ∈ miX11_shapeStatus.2.2.2, decode miX11_shapeStatus.1.2.2 q.1 = .ok q.2 := by decide +kernel
def miX11_waysFound : MI := ((yX11_waysFound, RX11, cX11_waysFound), (4, (some .int)), (0, 0), [(0, .aload_n 1, 1), (1, .invokestatic 182, 3), (4, .astore_n 3, 1), (5, .aload_n 3, 1), (6, .ifnull 7, 3), (9, .aload_n 2, 1), (10, .ifnonnull 5, 3), (13, .iconst 0, 1), (14, .ireturn, 1), (15, .aload_n 0, 1), (16, .getfield 62, 3), (19, .aload_n 3, 1), (20, .aload_n 2, 1), (21, .invokevirtual 423, 3), (24, .ireturn, 1)])
set_option maxRecDepth 100000 in
theorem deX11_waysFound : ∀ q ∈ miX11_waysFound.2.2.2, decode miX11_waysFound.1.2.2 q.1 = .ok q.2 := by decide +kernel
def miX11_fewestStatus : MI := ((yX11_fewestStatus, RX11, cX11_fewestStatus), (3, (some .int)), (0, 0), [(0, .aload_n 1, 1), (1, .ifnonnull 5, 3), (4, .iconst 2, 1), (5, .ireturn, 1), (6, .aload_n 1, 1), (7, .invokestatic 182, 3), (10, .ifnonnull 5, 3), (13, .iconst 5, 1), (14, .ireturn, 1), (15, .iload_n 2, 1), (16, .ifCond .lt 9, 3), (19, .iload_n 2, 1), (20, .bipush 14, 2), (22, .if_icmp .le 6, 3), (25, .bipush 7, 2), (27, .ireturn, 1), (28, .aload_n 1, 1), (29, .getfield 196, 3), (32, .ifnull 6, 3), (35, .bipush 8, 2), (37, .ireturn, 1), (38, .aload_n 0, 1), (39, .getfield 31, 3), (42, .aload_n 1, 1), (43, .invokevirtual 227, 3), (46, .aload_n 0, 1), (47, .getfield 31, 3), (50, .invokevirtual 242, 3), (53, .ifCond .le 6, 3), (56, .bipush 9, 2), (58, .ireturn, 1), (59, .aload_n 0, 1), (60, .getfield 31, 3), (63, .iconst 1, 1), (64, .invokevirtual 332, 3), (67, .bipush 14, 2), (69, .if_icmp .le 8, 3), (72, .bipush 10, 2), (74, .goto 4, 3), (77, .iconst 0, 1), (78, .ireturn, 1)])
set_option maxRecDepth 100000 in
theorem deX11_fewestStatus : ∀ q ∈ miX11_fewestStatus.2.2.2, decode miX11_fewestStatus.1.2.2 q.1 = .ok q.2 := by decide +kernel
def miX11_suspectAllWeights : MI := ((yX11_suspectAllWeights, RX11, cX11_suspectAllWeights), (3, none), (0, 0), [(0, .aload_n 0, 1), (1, .iconst 0, 1), (2, .putfield 70, 3), (5, .iconst 0, 1), (6, .istore_n 1, 1), (7, .iload_n 1, 1), (8, .aload_n 0, 1), (9, .getfield 21, 3), (12, .if_icmp .ge 74, 3), (15, .aload_n 0, 1), (16, .getfield 17, 3), (19, .iload_n 1, 1), (20, .aaload, 1), (21, .astore_n 2, 1), (22, .aload_n 2, 1), (23, .ifnull 57, 3), (26, .aload_n 2, 1), (27, .getfield 279, 3), (30, .iconst 1, 1), (31, .if_icmp .ne 49, 3), (34, .aload_n 0, 1), (35, .getfield 31, 3), (38, .aload_n 2, 1), (39, .invokevirtual 406, 3), (42, .ifCond .eq 38, 3), (45, .aload_n 0, 1), (46, .getfield 70, 3), (49, .aload_n 0, 1), (50, .getfield 66, 3), (53, .arraylength, 1), (54, .if_icmp .ge 26, 3), (57, .aload_n 0, 1), (58, .getfield 66, 3), (61, .aload_n 0, 1), (62, .getfield 70, 3), (65, .aload_n 2, 1), (66, .getfield 372, 3), (69, .iastore, 1), (70, .aload_n 0, 1), (71, .dup, 1), (72, .getfield 70, 3), (75, .iconst 1, 1), (76, .iadd, 1), (77, .putfield 70, 3), (80, .iinc 1 1, 3), (83, .goto (-76), 3), (86, .return_, 1)])
set_option maxRecDepth 100000 in
theorem deX11_suspectAllWeights : ∀ q ∈ miX11_suspectAllWeights.2.2.2, decode miX11_suspectAllWeights.1.2.2 q.1 = .ok q.2 := by decide +kernel
def miX11_areAlike : MI := ((yX11_areAlike, RX11, cX11_areAlike), (5, (some .boolean)), (0, 0), [(0, .iload_n 2, 1), (1, .bipush 60, 2), (3, .if_icmp .ge 25, 3), (6, .aload_n 0, 1), (7, .getfield 279, 3), (10, .aload_n 1, 1), (11, .getfield 279, 3), (14, .if_icmp .ne 14, 3), (17, .aload_n 0, 1), (18, .getfield 375, 3), (21, .aload_n 1, 1), (22, .getfield 375, 3), (25, .if_icmp .eq 5, 3), (28, .iconst 0, 1), (29, .ireturn, 1), (30, .aload_n 0, 1), (31, .invokestatic 182, 3), (34, .astore_n 3, 1), (35, .aload_n 1, 1), (36, .invokestatic 182, 3), (39, .astore 4, 2), (41, .aload_n 3, 1), (42, .ifnull 8, 3), (45, .aload 4, 2), (47, .ifnonnull 5, 3), (50, .iconst 1, 1), (51, .ireturn, 1), (52, .aload_n 3, 1), (53, .getfield 385, 3), (56, .aload 4, 2), (58, .getfield 385, 3), (61, .if_icmp .ne 15, 3), (64, .aload_n 3, 1), (65, .getfield 388, 3), (68, .aload 4, 2), (70, .getfield 388, 3), (73, .if_icmp .eq 5, 3), (76, .iconst 0, 1), (77, .ireturn, 1), (78, .aload_n 3, 1), (79, .aload 4, 2), (81, .getfield 214, 3), (84, .aload 4, 2), (86, .getfield 217, 3), (89, .invokevirtual 427, 3), (92, .ifCond .eq 37, 3), (95, .aload_n 3, 1), (96, .getfield 220, 3), (99, .aload 4, 2), (101, .getfield 220, 3), (104, .iload_n 2, 1), (105, .invokestatic 430, 3), (108, .ifCond .eq 21, 3), (111, .aload_n 3, 1), (112, .getfield 224, 3), (115, .aload 4, 2), (117, .getfield 224, 3), (120, .iload_n 2, 1), (121, .invokestatic 430, 3), (124, .ifCond .eq 5, 3), (127, .iconst 1, 1), (128, .ireturn, 1), (129, .aload_n 3, 1), (130, .aload 4, 2), (132, .getfield 217, 3), (135, .aload 4, 2), (137, .getfield 214, 3), (140, .isub, 1), (141, .aload 4, 2), (143, .getfield 217, 3), (146, .invokevirtual 427, 3), (149, .ifCond .eq 39, 3), (152, .aload_n 3, 1), (153, .getfield 220, 3), (156, .aload 4, 2), (158, .getfield 224, 3), (161, .iload_n 2, 1), (162, .invokestatic 430, 3), (165, .ifCond .eq 23, 3), (168, .aload_n 3, 1), (169, .getfield 224, 3), (172, .aload 4, 2), (174, .getfield 220, 3), (177, .iload_n 2, 1), (178, .invokestatic 430, 3), (181, .ifCond .eq 7, 3), (184, .iconst 1, 1), (185, .goto 4, 3), (188, .iconst 0, 1), (189, .ireturn, 1)])
set_option maxRecDepth 100000 in
theorem deX11_areAlike : ∀ q ∈ miX11_areAlike.2.2.2, decode miX11_areAlike.1.2.2 q.1 = .ok q.2 := by decide +kernel
def miX11_areSidesAlike : MI := ((yX11_areSidesAlike, RX11, cX11_areSidesAlike), (3, (some .boolean)), (0, 0), [(0, .aload_n 0, 1), (1, .ifnull 7, 3), (4, .aload_n 1, 1), (5, .ifnonnull 17, 3), (8, .aload_n 0, 1), (9, .ifnonnull 11, 3), (12, .aload_n 1, 1), (13, .ifnonnull 7, 3), (16, .iconst 1, 1), (17, .goto 4, 3), (20, .iconst 0, 1), (21, .ireturn, 1), (22, .aload_n 0, 1), (23, .getfield 207, 3), (26, .aload_n 1, 1), (27, .getfield 207, 3), (30, .if_icmp .ne 18, 3), (33, .aload_n 0, 1), (34, .aload_n 1, 1), (35, .iload_n 2, 1), (36, .iconst 1, 1), (37, .iadd, 1), (38, .invokestatic 344, 3), (41, .ifCond .eq 7, 3), (44, .iconst 1, 1), (45, .goto 4, 3), (48, .iconst 0, 1), (49, .ireturn, 1)])
set_option maxRecDepth 100000 in
theorem deX11_areSidesAlike : ∀ q ∈ miX11_areSidesAlike.2.2.2, decode miX11_areSidesAlike.1.2.2 q.1 = .ok q.2 := by decide +kernel
def miX11_commonDivisor : MI := ((yX11_commonDivisor, RX11, cX11_commonDivisor), (11, (some .long)), (0, 0), [(0, .lload_n 0, 1), (1, .invokestatic 433, 3), (4, .lstore 4, 2), (6, .lload_n 2, 1), (7, .invokestatic 433, 3), (10, .lstore 6, 2), (12, .iconst 0, 1), (13, .istore 8, 2), (15, .iload 8, 2), (17, .sipush 200, 3), (20, .if_icmp .ge 31, 3), (23, .lload 6, 2), (25, .lconst 0, 1), (26, .lcmp, 1), (27, .ifCond .eq 24, 3), (30, .lload 4, 2), (32, .lload 6, 2), (34, .lrem, 1), (35, .lstore 9, 2), (37, .lload 6, 2), (39, .lstore 4, 2), (41, .lload 9, 2), (43, .lstore 6, 2), (45, .iinc 8 1, 3), (48, .goto (-33), 3), (51, .lload 4, 2), (53, .lconst 0, 1), (54, .lcmp, 1), (55, .ifCond .ne 7, 3), (58, .lconst 1, 1), (59, .goto 5, 3), (62, .lload 4, 2), (64, .lreturn, 1)])
set_option maxRecDepth 100000 in
theorem deX11_commonDivisor : ∀ q ∈ miX11_commonDivisor.2.2.2, decode miX11_commonDivisor.1.2.2 q.1 = .ok q.2 := by decide +kernel
def miX12_init : MI := ((yX12_init, RX12, cX12_init), (2, none), (0, 0), [(0, .aload_n 0, 1), (1, .invokespecial 1, 3), (4, .aload_n 0, 1), (5, .bipush 6, 2), (7, .newarray .int, 2), (9, .putfield 7, 3), (12, .aload_n 0, 1), (13, .bipush 6, 2), (15, .newarray .int, 2), (17, .putfield 13, 3), (20, .aload_n 0, 1), (21, .bipush 96, 2), (23, .newarray .long, 2), (25, .putfield 16, 3), (28, .aload_n 0, 1), (29, .bipush 60, 2), (31, .newarray .int, 2), (33, .putfield 20, 3), (36, .aload_n 0, 1), (37, .bipush 60, 2), (39, .newarray .int, 2), (41, .putfield 23, 3), (44, .aload_n 0, 1), (45, .bipush 60, 2), (47, .newarray .int, 2), (49, .putfield 26, 3), (52, .aload_n 0, 1), (53, .bipush 60, 2), (55, .newarray .int, 2), (57, .putfield 29, 3), (60, .aload_n 0, 1), (61, .bipush 60, 2), (63, .newarray .int, 2), (65, .putfield 32, 3), (68, .aload_n 0, 1), (69, .bipush 60, 2), (71, .newarray .int, 2), (73, .putfield 35, 3), (76, .aload_n 0, 1), (77, .bipush 60, 2), (79, .newarray .long, 2), (81, .putfield 38, 3), (84, .aload_n 0, 1), (85, .bipush 60, 2), (87, .newarray .long, 2), (89, .putfield 41, 3), (92, .aload_n 0, 1), (93, .bipush 60, 2), (95, .newarray .long, 2), (97, .putfield 44, 3), (100, .aload_n 0, 1), (101, .bipush 60, 2), (103, .newarray .int, 2), (105, .putfield 47, 3), (108, .aload_n 0, 1), (109, .bipush 60, 2), (111, .newarray .int, 2), (113, .putfield 50, 3), (116, .aload_n 0, 1), (117, .bipush 60, 2), (119, .newarray .int, 2), (121, .putfield 53, 3), (124, .aload_n 0, 1), (125, .sipush 480, 3), (128, .newarray .int, 2), (130, .putfield 56, 3), (133, .aload_n 0, 1), (134, .sipush 480, 3), (137, .newarray .int, 2), (139, .putfield 59, 3), (142, .aload_n 0, 1), (143, .bipush 60, 2), (145, .newarray .int, 2), (147, .putfield 62, 3), (150, .aload_n 0, 1), (151, .bipush 60, 2), (153, .newarray .int, 2), (155, .putfield 65, 3), (158, .aload_n 0, 1), (159, .bipush 60, 2), (161, .newarray .int, 2), (163, .putfield 68, 3), (166, .aload_n 0, 1), (167, .bipush 60, 2), (169, .newarray .long, 2), (171, .putfield 71, 3), (174, .aload_n 0, 1), (175, .bipush 60, 2), (177, .newarray .boolean, 2), (179, .putfield 74, 3), (182, .aload_n 0, 1), (183, .bipush 60, 2), (185, .newarray .boolean, 2), (187, .putfield 78, 3), (190, .aload_n 0, 1), (191, .bipush 14, 2), (193, .newarray .int, 2), (195, .putfield 81, 3), (198, .aload_n 0, 1), (199, .sipush 600, 3), (202, .newarray .byte, 2), (204, .putfield 84, 3), (207, .aload_n 0, 1), (208, .bipush 8, 2), (210, .newarray .int, 2), (212, .putfield 88, 3), (215, .aload_n 0, 1), (216, .bipush 8, 2), (218, .newarray .int, 2), (220, .putfield 91, 3), (223, .aload_n 0, 1), (224, .sipush 1800, 3), (227, .newarray .int, 2), (229, .putfield 94, 3), (232, .aload_n 0, 1), (233, .sipush 1800, 3), (236, .newarray .int, 2), (238, .putfield 97, 3), (241, .aload_n 0, 1), (242, .bipush 60, 2), (244, .newarray .int, 2), (246, .putfield 100, 3), (249, .aload_n 0, 1), (250, .bipush 60, 2), (252, .newarray .int, 2), (254, .putfield 103, 3), (257, .aload_n 0, 1), (258, .bipush 60, 2), (260, .newarray .int, 2), (262, .putfield 106, 3), (265, .aload_n 0, 1), (266, .bipush 60, 2), (268, .newarray .long, 2), (270, .putfield 109, 3), (273, .aload_n 0, 1), (274, .bipush 60, 2), (276, .newarray .long, 2), (278, .putfield 112, 3), (281, .aload_n 0, 1), (282, .bipush 8, 2), (284, .newarray .long, 2), (286, .putfield 115, 3), (289, .aload_n 0, 1), (290, .bipush 10, 2), (292, .newarray .long, 2), (294, .putfield 118, 3), (297, .aload_n 0, 1), (298, .sipush 200, 3), (301, .newarray .int, 2), (303, .putfield 121, 3), (306, .aload_n 0, 1), (307, .sipush 200, 3), (310, .newarray .int, 2), (312, .putfield 124, 3), (315, .aload_n 0, 1), (316, .bipush 8, 2), (318, .newarray .long, 2), (320, .putfield 127, 3), (323, .aload_n 0, 1), (324, .bipush 8, 2), (326, .newarray .long, 2), (328, .putfield 130, 3), (331, .aload_n 0, 1), (332, .sipush 9216, 3), (335, .newarray .int, 2), (337, .putfield 133, 3), (340, .aload_n 0, 1), (341, .sipush 1024, 3), (344, .newarray .long, 2), (346, .putfield 136, 3), (349, .aload_n 0, 1), (350, .bipush 60, 2), (352, .newarray .int, 2), (354, .putfield 139, 3), (357, .aload_n 0, 1), (358, .sipush 400, 3), (361, .newarray .int, 2), (363, .putfield 142, 3), (366, .aload_n 0, 1), (367, .sipush 400, 3), (370, .newarray .int, 2), (372, .putfield 145, 3), (375, .iconst 0, 1), (376, .istore_n 1, 1), (377, .iload_n 1, 1), (378, .bipush 6, 2), (380, .if_icmp .ge 16, 3), (383, .aload_n 0, 1), (384, .getfield 13, 3), (387, .iload_n 1, 1), (388, .iconst (-1), 1), (389, .iastore, 1), (390, .iinc 1 1, 3), (393, .goto (-16), 3), (396, .return_, 1)])
set_option maxRecDepth 100000 in
theorem deX12_init : ∀ q ∈ miX12_init.2.2.2, decode miX12_init.1.2.2 q.1 = .ok q.2 := by decide +kernel
def miX12_thrown : MI := ((yX12_thrown, RX12, cX12_thrown), (1, (some .int)), (0, 0), [(0, .aload_n 0, 1), (1, .getfield 148, 3), (4, .ireturn, 1)])
set_option maxRecDepth 100000 in
theorem deX12_thrown : ∀ q ∈ miX12_thrown.2.2.2, decode miX12_thrown.1.2.2 q.1 = .ok q.2 := by decide +kernel
def miX12_status : MI := ((yX12_status, RX12, cX12_status), (1, (some .int)), (0, 0), [(0, .aload_n 0, 1), (1, .iconst 0, 1), (2, .putfield 148, 3), (5, .aload_n 0, 1), (6, .getfield 152, 3), (9, .ireturn, 1)])
set_option maxRecDepth 100000 in
theorem deX12_status : ∀ q ∈ miX12_status.2.2.2, decode miX12_status.1.2.2 q.1 = .ok q.2 := by decide +kernel
def miX12_refuse : MI := ((yX12_refuse, RX12, cX12_refuse), (2, (some .int)), (0, 0), [(0, .aload_n 0, 1), (1, .iload_n 1, 1), (2, .putfield 152, 3), (5, .iconst (-1), 1), (6, .ireturn, 1)])
set_option maxRecDepth 100000 in
theorem deX12_refuse : ∀ q ∈ miX12_refuse.2.2.2, decode miX12_refuse.1.2.2 q.1 = .ok q.2 := by decide +kernel
def miX12_no : MI := ((yX12_no, RX12, cX12_no), (2, (some .boolean)), (0, 0), [(0, .aload_n 0, 1), (1, .iload_n 1, 1), (2, .putfield 152, 3), (5, .iconst 0, 1), (6, .ireturn, 1)])
set_option maxRecDepth 100000 in
theorem deX12_no : ∀ q ∈ miX12_no.2.2.2, decode miX12_no.1.2.2 q.1 = .ok q.2 := by decide +kernel
def miX12_cut : MI := ((yX12_cut, RX12, cX12_cut), (3, (some .long)), (0, 0), [(0, .iload_n 0, 1), (1, .ifCond .ne 10, 3), (4, .lload_n 1, 1), (5, .l2i, 1), (6, .i2s, 1), (7, .i2l, 1), (8, .goto 15, 3), (11, .iload_n 0, 1), (12, .iconst 1, 1), (13, .if_icmp .ne 9, 3), (16, .lload_n 1, 1), (17, .l2i, 1), (18, .i2l, 1), (19, .goto 4, 3), (22, .lload_n 1, 1), (23, .lreturn, 1)])
set_option maxRecDepth 100000 in
theorem deX12_cut : ∀ q ∈ miX12_cut.2.2.2, decode miX12_cut.1.2.2 q.1 = .ok q.2 := by decide +kernel
def miX12_tray : MI := ((yX12_tray, RX12, cX12_tray), (5, (some .boolean)), (0, 0), [(0, .aload_n 0, 1), (1, .iconst 0, 1), (2, .putfield 148, 3), (5, .aload_n 0, 1), (6, .iconst 0, 1), (7, .putfield 152, 3), (10, .iload_n 1, 1), (11, .ifCond .lt 18, 3), (14, .iload_n 1, 1), (15, .bipush 6, 2), (17, .if_icmp .ge 12, 3), (20, .iload_n 2, 1), (21, .ifCond .lt 8, 3), (24, .iload_n 2, 1), (25, .iconst 2, 1), (26, .if_icmp .le 9, 3), (29, .aload_n 0, 1), (30, .iconst 1, 1), (31, .invokevirtual 155, 3), (34, .ireturn, 1), (35, .iload_n 3, 1), (36, .ifCond .ge 10, 3), (39, .aload_n 0, 1), (40, .bipush 6, 2), (42, .invokevirtual 155, 3), (45, .ireturn, 1), (46, .iload_n 3, 1), (47, .bipush 16, 2), (49, .if_icmp .le 10, 3), (52, .aload_n 0, 1), (53, .bipush 7, 2), (55, .invokevirtual 155, 3), (58, .ireturn, 1), (59, .aload_n 0, 1), (60, .getfield 7, 3), (63, .iload_n 1, 1), (64, .iload_n 2, 1), (65, .iastore, 1), (66, .aload_n 0, 1), (67, .getfield 13, 3), (70, .iload_n 1, 1), (71, .iload_n 3, 1), (72, .iastore, 1), (73, .iconst 0, 1), (74, .istore 4, 2), (76, .iload 4, 2), (78, .iload_n 3, 1), (79, .if_icmp .ge 22, 3), (82, .aload_n 0, 1), (83, .getfield 16, 3), (86, .bipush 16, 2), (88, .iload_n 1, 1), (89, .imul, 1), (90, .iload 4, 2), (92, .iadd, 1), (93, .lconst 0, 1), (94, .lastore, 1), (95, .iinc 4 1, 3), (98, .goto (-22), 3), (101, .iconst 1, 1), (102, .ireturn, 1)])
set_option maxRecDepth 100000 in
theorem deX12_tray : ∀ q ∈ miX12_tray.2.2.2, decode miX12_tray.1.2.2 q.1 = .ok q.2 := by decide +kernel
def miX12_placed : MI := ((yX12_placed, RX12, cX12_placed), (3, (some .int)), (0, 0), [(0, .iload_n 1, 1), (1, .ifCond .lt 9, 3), (4, .iload_n 1, 1), (5, .bipush 6, 2), (7, .if_icmp .lt 5, 3), (10, .iconst 1, 1), (11, .ireturn, 1), (12, .aload_n 0, 1), (13, .getfield 13, 3), (16, .iload_n 1, 1), (17, .iaload, 1), (18, .ifCond .ge 7, 3), (21, .iconst 3, 1), (22, .goto 22, 3), (25, .iload_n 2, 1), (26, .ifCond .lt 13, 3), (29, .iload_n 2, 1), (30, .aload_n 0, 1), (31, .getfield 13, 3), (34, .iload_n 1, 1), (35, .iaload, 1), (36, .if_icmp .lt 7, 3), (39, .iconst 4, 1), (40, .goto 4, 3), (43, .iconst 0, 1), (44, .ireturn, 1)])
set_option maxRecDepth 100000 in
theorem deX12_placed : ∀ q ∈ miX12_placed.2.2.2, decode miX12_placed.1.2.2 q.1 = .ok q.2 := by decide +kernel
def miX12_write : MI := ((yX12_write, RX12, cX12_write), (5, (some .boolean)), (0, 0), [(0, .aload_n 0, 1), (1, .iconst 0, 1), (2, .putfield 148, 3), (5, .aload_n 0, 1), (6, .aload_n 0, 1), (7, .iload_n 1, 1), (8, .iload_n 2, 1), (9, .invokevirtual 159, 3), (12, .putfield 152, 3), (15, .aload_n 0, 1), (16, .getfield 152, 3), (19, .ifCond .le 5, 3), (22, .iconst 0, 1), (23, .ireturn, 1), (24, .aload_n 0, 1), (25, .getfield 16, 3), (28, .bipush 16, 2), (30, .iload_n 1, 1), (31, .imul, 1), (32, .iload_n 2, 1), (33, .iadd, 1), (34, .aload_n 0, 1), (35, .getfield 7, 3), (38, .iload_n 1, 1), (39, .iaload, 1), (40, .lload_n 3, 1), (41, .invokestatic 163, 3), (44, .lastore, 1), (45, .iconst 1, 1), (46, .ireturn, 1)])
set_option maxRecDepth 100000 in
theorem deX12_write : ∀ q ∈ miX12_write.2.2.2, decode miX12_write.1.2.2 q.1 = .ok q.2 := by decide +kernel
def miX12_read : MI := ((yX12_read, RX12, cX12_read), (3, (some .long)), (0, 0), [(0, .aload_n 0, 1), (1, .iconst 0, 1), (2, .putfield 148, 3), (5, .aload_n 0, 1), (6, .aload_n 0, 1), (7, .iload_n 1, 1), (8, .iload_n 2, 1), (9, .invokevirtual 159, 3), (12, .putfield 152, 3), (15, .aload_n 0, 1), (16, .getfield 152, 3), (19, .ifCond .le 9, 3), (22, .ldc2_w 167, 3), (25, .goto 14, 3), (28, .aload_n 0, 1), (29, .getfield 16, 3), (32, .bipush 16, 2), (34, .iload_n 1, 1), (35, .imul, 1), (36, .iload_n 2, 1), (37, .iadd, 1), (38, .laload, 1), (39, .lreturn, 1)])
set_option maxRecDepth 100000 in
theorem deX12_read : ∀ q ∈ miX12_read.2.2.2, decode miX12_read.1.2.2 q.1 = .ok q.2 := by decide +kernel
def miX12_pour : MI := ((yX12_pour, RX12, cX12_pour), (9, (some .boolean)), (0, 0), [(0, .aload_n 0, 1), (1, .iconst 0, 1), (2, .putfield 148, 3), (5, .aload_n 0, 1), (6, .iconst 0, 1), (7, .putfield 152, 3), (10, .iload_n 1, 1), (11, .ifCond .lt 19, 3), (14, .iload_n 1, 1), (15, .bipush 6, 2), (17, .if_icmp .ge 13, 3), (20, .iload_n 3, 1), (21, .ifCond .lt 9, 3), (24, .iload_n 3, 1), (25, .bipush 6, 2), (27, .if_icmp .lt 9, 3), (30, .aload_n 0, 1), (31, .iconst 1, 1), (32, .invokevirtual 155, 3), (35, .ireturn, 1), (36, .aload_n 0, 1), (37, .getfield 13, 3), (40, .iload_n 1, 1), (41, .iaload, 1), (42, .ifCond .lt 12, 3), (45, .aload_n 0, 1), (46, .getfield 13, 3), (49, .iload_n 3, 1), (50, .iaload, 1), (51, .ifCond .ge 9, 3), (54, .aload_n 0, 1), (55, .iconst 3, 1), (56, .invokevirtual 155, 3), (59, .ireturn, 1), (60, .aload_n 0, 1), (61, .getfield 7, 3), (64, .iload_n 1, 1), (65, .iaload, 1), (66, .aload_n 0, 1), (67, .getfield 7, 3), (70, .iload_n 3, 1), (71, .iaload, 1), (72, .if_icmp .eq 10, 3), (75, .aload_n 0, 1), (76, .bipush 12, 2), (78, .invokevirtual 155, 3), (81, .ireturn, 1), (82, .iload 5, 2), (84, .ifCond .ge 10, 3), (87, .aload_n 0, 1), (88, .bipush 6, 2), (90, .invokevirtual 155, 3), (93, .ireturn, 1), (94, .iload_n 2, 1), (95, .ifCond .lt 43, 3), (98, .iload 4, 2), (100, .ifCond .lt 38, 3), (103, .iload_n 2, 1), (104, .i2l, 1), (105, .iload 5, 2), (107, .i2l, 1), (108, .ladd, 1), (109, .aload_n 0, 1), (110, .getfield 13, 3), (113, .iload_n 1, 1), (114, .iaload, 1), (115, .i2l, 1), (116, .lcmp, 1), (117, .ifCond .gt 21, 3), (120, .iload 4, 2), (122, .i2l, 1), (123, .iload 5, 2), (125, .i2l, 1), (126, .ladd, 1), (127, .aload_n 0, 1), (128, .getfield 13, 3), (131, .iload_n 3, 1), (132, .iaload, 1), (133, .i2l, 1), (134, .lcmp, 1), (135, .ifCond .le 9, 3), (138, .aload_n 0, 1), (139, .iconst 4, 1), (140, .invokevirtual 155, 3), (143, .ireturn, 1), (144, .iload_n 2, 1), (145, .iload 4, 2), (147, .if_icmp .ge 7, 3), (150, .iconst 1, 1), (151, .goto 4, 3), (154, .iconst 0, 1), (155, .istore 6, 2), (157, .iconst 0, 1), (158, .istore 7, 2), (160, .iload 7, 2), (162, .iload 5, 2), (164, .if_icmp .ge 57, 3), (167, .iload 6, 2), (169, .ifCond .eq 13, 3), (172, .iload 5, 2), (174, .iconst 1, 1), (175, .isub, 1), (176, .iload 7, 2), (178, .isub, 1), (179, .goto 5, 3), (182, .iload 7, 2), (184, .istore 8, 2), (186, .aload_n 0, 1), (187, .getfield 16, 3), (190, .bipush 16, 2), (192, .iload_n 3, 1), (193, .imul, 1), (194, .iload 4, 2), (196, .iadd, 1), (197, .iload 8, 2), (199, .iadd, 1), (200, .aload_n 0, 1), (201, .getfield 16, 3), (204, .bipush 16, 2), (206, .iload_n 1, 1), (207, .imul, 1), (208, .iload_n 2, 1), (209, .iadd, 1), (210, .iload 8, 2), (212, .iadd, 1), (213, .laload, 1), (214, .lastore, 1), (215, .iinc 7 1, 3), (218, .goto (-58), 3), (221, .iconst 1, 1), (222, .ireturn, 1)])
set_option maxRecDepth 100000 in
theorem deX12_pour : ∀ q ∈ miX12_pour.2.2.2, decode miX12_pour.1.2.2 q.1 = .ok q.2 := by decide +kernel
def miX12_newPart : MI := ((yX12_newPart, RX12, cX12_newPart), (5, (some .int)), (0, 0), [(0, .aload_n 0, 1), (1, .getfield 169, 3), (4, .istore 4, 2), (6, .aload_n 0, 1), (7, .getfield 20, 3), (10, .iload 4, 2), (12, .iload_n 1, 1), (13, .iastore, 1), (14, .aload_n 0, 1), (15, .getfield 38, 3), (18, .iload 4, 2), (20, .lload_n 2, 1), (21, .lastore, 1), (22, .aload_n 0, 1), (23, .getfield 29, 3), (26, .iload 4, 2), (28, .iconst (-1), 1), (29, .iastore, 1), (30, .aload_n 0, 1), (31, .getfield 32, 3), (34, .iload 4, 2), (36, .iconst (-1), 1), (37, .iastore, 1), (38, .aload_n 0, 1), (39, .getfield 35, 3), (42, .iload 4, 2), (44, .iconst 0, 1), (45, .iastore, 1), (46, .aload_n 0, 1), (47, .getfield 47, 3), (50, .iload 4, 2), (52, .iconst (-1), 1), (53, .iastore, 1), (54, .aload_n 0, 1), (55, .getfield 50, 3), (58, .iload 4, 2), (60, .iconst (-1), 1), (61, .iastore, 1), (62, .aload_n 0, 1), (63, .dup, 1), (64, .getfield 169, 3), (67, .iconst 1, 1), (68, .iadd, 1), (69, .putfield 169, 3), (72, .iload 4, 2), (74, .ireturn, 1)])
set_option maxRecDepth 100000 in
theorem deX12_newPart : ∀ q ∈ miX12_newPart.2.2.2, decode miX12_newPart.1.2.2 q.1 = .ok q.2 := by decide +kernel
def miX12_newWeight : MI := ((yX12_newWeight, RX12, cX12_newWeight), (3, (some .int)), (0, 0), [(0, .lload_n 1, 1), (1, .lconst 1, 1), (2, .lcmp, 1), (3, .ifCond .lt 11, 3), (6, .lload_n 1, 1), (7, .ldc2_w 172, 3), (10, .lcmp, 1), (11, .ifCond .le 10, 3), (14, .aload_n 0, 1), (15, .bipush 7, 2), (17, .invokevirtual 174, 3), (20, .ireturn, 1), (21, .aload_n 0, 1), (22, .getfield 169, 3), (25, .bipush 60, 2), (27, .if_icmp .ne 12, 3), (30, .aload_n 0, 1), (31, .bipush 10, 2), (33, .invokevirtual 174, 3), (36, .goto 9, 3), (39, .aload_n 0, 1), (40, .iconst 1, 1), (41, .lload_n 1, 1), (42, .invokevirtual 178, 3), (45, .ireturn, 1)])
set_option maxRecDepth 100000 in
theorem deX12_newWeight : ∀ q ∈ miX12_newWeight.2.2.2, decode miX12_newWeight.1.2.2 q.1 = .ok q.2 := by decide +kernel
def miX12_weight : MI := ((yX12_weight, RX12, cX12_weight), (2, (some .int)), (0, 0), [(0, .aload_n 0, 1), (1, .iconst 0, 1), (2, .putfield 148, 3), (5, .aload_n 0, 1), (6, .iconst 0, 1), (7, .putfield 152, 3), (10, .aload_n 0, 1), (11, .iload_n 1, 1), (12, .i2l, 1), (13, .invokevirtual 182, 3), (16, .ireturn, 1)])
set_option maxRecDepth 100000 in
theorem deX12_weight : ∀ q ∈ miX12_weight.2.2.2, decode miX12_weight.1.2.2 q.1 = .ok q.2 := by decide +kernel
def miX12_load : MI := ((yX12_load, RX12, cX12_load), (3, (some .int)), (0, 0), [(0, .aload_n 0, 1), (1, .iconst 0, 1), (2, .putfield 148, 3), (5, .aload_n 0, 1), (6, .aload_n 0, 1), (7, .iload_n 1, 1), (8, .iload_n 2, 1), (9, .invokevirtual 159, 3), (12, .putfield 152, 3), (15, .aload_n 0, 1), (16, .getfield 152, 3), (19, .ifCond .le 7, 3), (22, .iconst (-1), 1), (23, .goto 18, 3), (26, .aload_n 0, 1), (27, .aload_n 0, 1), (28, .getfield 16, 3), (31, .bipush 16, 2), (33, .iload_n 1, 1), (34, .imul, 1), (35, .iload_n 2, 1), (36, .iadd, 1), (37, .laload, 1), (38, .invokevirtual 182, 3), (41, .ireturn, 1)])
set_option maxRecDepth 100000 in
theorem deX12_load : ∀ q ∈ miX12_load.2.2.2, decode miX12_load.1.2.2 q.1 = .ok q.2 := by decide +kernel
def miX12_rod : MI := ((yX12_rod, RX12, cX12_rod), (5, (some .int)), (0, 0), [(0, .aload_n 0, 1), (1, .iconst 0, 1), (2, .putfield 148, 3), (5, .aload_n 0, 1), (6, .iconst 0, 1), (7, .putfield 152, 3), (10, .iload_n 1, 1), (11, .iconst 2, 1), (12, .if_icmp .lt 21, 3), (15, .iload_n 1, 1), (16, .sipush 1000, 3), (19, .if_icmp .gt 14, 3), (22, .iload_n 2, 1), (23, .ifCond .lt 10, 3), (26, .iload_n 2, 1), (27, .sipush 1000, 3), (30, .if_icmp .le 10, 3), (33, .aload_n 0, 1), (34, .bipush 7, 2), (36, .invokevirtual 174, 3), (39, .ireturn, 1), (40, .aload_n 0, 1), (41, .getfield 169, 3), (44, .bipush 60, 2), (46, .if_icmp .ne 10, 3), (49, .aload_n 0, 1), (50, .bipush 10, 2), (52, .invokevirtual 174, 3), (55, .ireturn, 1), (56, .aload_n 0, 1), (57, .iload_n 3, 1), (58, .ifCond .eq 7, 3), (61, .iconst 3, 1), (62, .goto 4, 3), (65, .iconst 2, 1), (66, .iload_n 1, 1), (67, .i2l, 1), (68, .iload_n 2, 1), (69, .i2l, 1), (70, .lmul, 1), (71, .invokevirtual 178, 3), (74, .istore 4, 2), (76, .aload_n 0, 1), (77, .getfield 26, 3), (80, .iload 4, 2), (82, .iload_n 1, 1), (83, .iastore, 1), (84, .aload_n 0, 1), (85, .getfield 23, 3), (88, .iload 4, 2), (90, .iload_n 2, 1), (91, .iastore, 1), (92, .aload_n 0, 1), (93, .getfield 41, 3), (96, .iload 4, 2), (98, .lconst 1, 1), (99, .lastore, 1), (100, .aload_n 0, 1), (101, .getfield 44, 3), (104, .iload 4, 2), (106, .ldc2_w 186, 3), (109, .lastore, 1), (110, .iload 4, 2), (112, .ireturn, 1)])
set_option maxRecDepth 100000 in
theorem deX12_rod : ∀ q ∈ miX12_rod.2.2.2, decode miX12_rod.1.2.2 q.1 = .ok q.2 := by decide +kernel
def miX12_turn : MI := ((yX12_turn, RX12, cX12_turn), (4, (some .long)), (0, 0), [(0, .aload_n 0, 1), (1, .getfield 88, 3), (4, .iload_n 2, 1), (5, .iaload, 1), (6, .aload_n 0, 1), (7, .getfield 88, 3), (10, .iload_n 1, 1), (11, .iaload, 1), (12, .isub, 1), (13, .i2l, 1), (14, .aload_n 0, 1), (15, .getfield 91, 3), (18, .iload_n 3, 1), (19, .iaload, 1), (20, .aload_n 0, 1), (21, .getfield 91, 3), (24, .iload_n 1, 1), (25, .iaload, 1), (26, .isub, 1), (27, .i2l, 1), (28, .lmul, 1), (29, .aload_n 0, 1), (30, .getfield 91, 3), (33, .iload_n 2, 1), (34, .iaload, 1), (35, .aload_n 0, 1), (36, .getfield 91, 3), (39, .iload_n 1, 1), (40, .iaload, 1), (41, .isub, 1), (42, .i2l, 1), (43, .aload_n 0, 1), (44, .getfield 88, 3), (47, .iload_n 3, 1), (48, .iaload, 1), (49, .aload_n 0, 1), (50, .getfield 88, 3), (53, .iload_n 1, 1), (54, .iaload, 1), (55, .isub, 1), (56, .i2l, 1), (57, .lmul, 1), (58, .lsub, 1), (59, .lreturn, 1)])
set_option maxRecDepth 100000 in
theorem deX12_turn : ∀ q ∈ miX12_turn.2.2.2, decode miX12_turn.1.2.2 q.1 = .ok q.2 := by decide +kernel
def miX12_isOn : MI := ((yX12_isOn, RX12, cX12_isOn), (5, (some .boolean)), (0, 0), [(0, .aload_n 0, 1), (1, .getfield 88, 3), (4, .iload_n 1, 1), (5, .iaload, 1), (6, .aload_n 0, 1), (7, .getfield 88, 3), (10, .iload_n 2, 1), (11, .iaload, 1), (12, .invokestatic 188, 3), (15, .aload_n 0, 1), (16, .getfield 88, 3), (19, .iload_n 3, 1), (20, .iaload, 1), (21, .if_icmp .gt 79, 3), (24, .aload_n 0, 1), (25, .getfield 88, 3), (28, .iload_n 3, 1), (29, .iaload, 1), (30, .aload_n 0, 1), (31, .getfield 88, 3), (34, .iload_n 1, 1), (35, .iaload, 1), (36, .aload_n 0, 1), (37, .getfield 88, 3), (40, .iload_n 2, 1), (41, .iaload, 1), (42, .invokestatic 193, 3), (45, .if_icmp .gt 55, 3), (48, .aload_n 0, 1), (49, .getfield 91, 3), (52, .iload_n 1, 1), (53, .iaload, 1), (54, .aload_n 0, 1), (55, .getfield 91, 3), (58, .iload_n 2, 1), (59, .iaload, 1), (60, .invokestatic 188, 3), (63, .aload_n 0, 1), (64, .getfield 91, 3), (67, .iload_n 3, 1), (68, .iaload, 1), (69, .if_icmp .gt 31, 3), (72, .aload_n 0, 1), (73, .getfield 91, 3), (76, .iload_n 3, 1), (77, .iaload, 1), (78, .aload_n 0, 1), (79, .getfield 91, 3), (82, .iload_n 1, 1), (83, .iaload, 1), (84, .aload_n 0, 1), (85, .getfield 91, 3), (88, .iload_n 2, 1), (89, .iaload, 1), (90, .invokestatic 193, 3), (93, .if_icmp .gt 7, 3), (96, .iconst 1, 1), (97, .goto 4, 3), (100, .iconst 0, 1), (101, .istore 4, 2), (103, .iload 4, 2), (105, .ifCond .eq 19, 3), (108, .aload_n 0, 1), (109, .iload_n 1, 1), (110, .iload_n 2, 1), (111, .iload_n 3, 1), (112, .invokevirtual 196, 3), (115, .lconst 0, 1), (116, .lcmp, 1), (117, .ifCond .ne 7, 3), (120, .iconst 1, 1), (121, .goto 4, 3), (124, .iconst 0, 1), (125, .ireturn, 1)])
set_option maxRecDepth 100000 in
theorem deX12_isOn : ∀ q ∈ miX12_isOn.2.2.2, decode miX12_isOn.1.2.2 q.1 = .ok q.2 := by decide +kernel
def miX12_sign : MI := ((yX12_sign, RX12, cX12_sign), (2, (some .int)), (0, 0), [(0, .lload_n 0, 1), (1, .lconst 0, 1), (2, .lcmp, 1), (3, .ifCond .ge 7, 3), (6, .iconst (-1), 1), (7, .goto 14, 3), (10, .lload_n 0, 1), (11, .lconst 0, 1), (12, .lcmp, 1), (13, .ifCond .le 7, 3), (16, .iconst 1, 1), (17, .goto 4, 3), (20, .iconst 0, 1), (21, .ireturn, 1)])
set_option maxRecDepth 100000 in
theorem deX12_sign : ∀ q ∈ miX12_sign.2.2.2, decode miX12_sign.1.2.2 q.1 = .ok q.2 := by decide +kernel
def miX12_touches : MI := ((yX12_touches, RX12, cX12_touches), (5, (some .boolean)), (0, 0), [(0, .aload_n 0, 1), (1, .iload_n 1, 1), (2, .iload_n 2, 1), (3, .iload_n 3, 1), (4, .invokevirtual 200, 3), (7, .ifCond .ne 36, 3), (10, .aload_n 0, 1), (11, .iload_n 1, 1), (12, .iload_n 2, 1), (13, .iload 4, 2), (15, .invokevirtual 200, 3), (18, .ifCond .ne 25, 3), (21, .aload_n 0, 1), (22, .iload_n 3, 1), (23, .iload 4, 2), (25, .iload_n 1, 1), (26, .invokevirtual 200, 3), (29, .ifCond .ne 14, 3), (32, .aload_n 0, 1), (33, .iload_n 3, 1), (34, .iload 4, 2), (36, .iload_n 2, 1), (37, .invokevirtual 200, 3), (40, .ifCond .eq 5, 3), (43, .iconst 1, 1), (44, .ireturn, 1), (45, .aload_n 0, 1), (46, .iload_n 1, 1), (47, .iload_n 2, 1), (48, .iload_n 3, 1), (49, .invokevirtual 196, 3), (52, .invokestatic 204, 3), (55, .aload_n 0, 1), (56, .iload_n 1, 1), (57, .iload_n 2, 1), (58, .iload 4, 2), (60, .invokevirtual 196, 3), (63, .invokestatic 204, 3), (66, .imul, 1), (67, .ifCond .ge 33, 3), (70, .aload_n 0, 1), (71, .iload_n 3, 1), (72, .iload 4, 2), (74, .iload_n 1, 1), (75, .invokevirtual 196, 3), (78, .invokestatic 204, 3), (81, .aload_n 0, 1), (82, .iload_n 3, 1), (83, .iload 4, 2), (85, .iload_n 2, 1), (86, .invokevirtual 196, 3), (89, .invokestatic 204, 3), (92, .imul, 1), (93, .ifCond .ge 7, 3), (96, .iconst 1, 1), (97, .goto 4, 3), (100, .iconst 0, 1), (101, .ireturn, 1)])
set_option maxRecDepth 100000 in
theorem deX12_touches : ∀ q ∈ miX12_touches.2.2.2, decode miX12_touches.1.2.2 q.1 = .ok q.2 := by decide +kernel
def miX12_isRing : MI := ((yX12_isRing, RX12, cX12_isRing), (7, (some .boolean)), (0, 0), [(0, .iconst 0, 1), (1, .istore_n 2, 1), (2, .iload_n 2, 1), (3, .iload_n 1, 1), (4, .if_icmp .ge 135, 3), (7, .iload_n 2, 1), (8, .iconst 1, 1), (9, .iadd, 1), (10, .istore_n 3, 1), (11, .iload_n 3, 1), (12, .iload_n 1, 1), (13, .if_icmp .ge 120, 3), (16, .iload_n 2, 1), (17, .iconst 1, 1), (18, .iadd, 1), (19, .iload_n 1, 1), (20, .irem, 1), (21, .istore 4, 2), (23, .iload_n 3, 1), (24, .iconst 1, 1), (25, .iadd, 1), (26, .iload_n 1, 1), (27, .irem, 1), (28, .istore 5, 2), (30, .iload 4, 2), (32, .iload_n 3, 1), (33, .if_icmp .ne 36, 3), (36, .aload_n 0, 1), (37, .iload_n 2, 1), (38, .iload 4, 2), (40, .iload 5, 2), (42, .invokevirtual 200, 3), (45, .ifCond .ne 14, 3), (48, .aload_n 0, 1), (49, .iload_n 3, 1), (50, .iload 5, 2), (52, .iload_n 2, 1), (53, .invokevirtual 200, 3), (56, .ifCond .eq 7, 3), (59, .iconst 1, 1), (60, .goto 4, 3), (63, .iconst 0, 1), (64, .istore 6, 2), (66, .goto 54, 3), (69, .iload 5, 2), (71, .iload_n 2, 1), (72, .if_icmp .ne 36, 3), (75, .aload_n 0, 1), (76, .iload_n 3, 1), (77, .iload 5, 2), (79, .iload 4, 2), (81, .invokevirtual 200, 3), (84, .ifCond .ne 14, 3), (87, .aload_n 0, 1), (88, .iload_n 2, 1), (89, .iload 4, 2), (91, .iload_n 3, 1), (92, .invokevirtual 200, 3), (95, .ifCond .eq 7, 3), (98, .iconst 1, 1), (99, .goto 4, 3), (102, .iconst 0, 1), (103, .istore 6, 2), (105, .goto 15, 3), (108, .aload_n 0, 1), (109, .iload_n 2, 1), (110, .iload 4, 2), (112, .iload_n 3, 1), (113, .iload 5, 2), (115, .invokevirtual 207, 3), (118, .istore 6, 2), (120, .iload 6, 2), (122, .ifCond .eq 5, 3), (125, .iconst 0, 1), (126, .ireturn, 1), (127, .iinc 3 1, 3), (130, .goto (-119), 3), (133, .iinc 2 1, 3), (136, .goto (-134), 3), (139, .iconst 1, 1), (140, .ireturn, 1)])
set_option maxRecDepth 100000 in
theorem deX12_isRing : ∀ q ∈ miX12_isRing.2.2.2, decode miX12_isRing.1.2.2 q.1 = .ok q.2 := by decide +kernel
def miX12_plate : MI := ((yX12_plate, RX12, cX12_plate), (7, (some .int)), (0, 0), [(0, .aload_n 0, 1), (1, .iconst 0, 1), (2, .putfield 148, 3), (5, .aload_n 0, 1), (6, .iconst 0, 1), (7, .putfield 152, 3), (10, .iload_n 1, 1), (11, .ifCond .lt 9, 3), (14, .iload_n 1, 1), (15, .bipush 6, 2), (17, .if_icmp .lt 9, 3), (20, .aload_n 0, 1), (21, .iconst 1, 1), (22, .invokevirtual 174, 3), (25, .ireturn, 1), (26, .aload_n 0, 1), (27, .getfield 13, 3), (30, .iload_n 1, 1), (31, .iaload, 1), (32, .ifCond .ge 9, 3), (35, .aload_n 0, 1), (36, .iconst 3, 1), (37, .invokevirtual 174, 3), (40, .ireturn, 1), (41, .iload_n 2, 1), (42, .iconst 3, 1), (43, .if_icmp .lt 9, 3), (46, .iload_n 2, 1), (47, .bipush 8, 2), (49, .if_icmp .le 10, 3), (52, .aload_n 0, 1), (53, .bipush 7, 2), (55, .invokevirtual 174, 3), (58, .ireturn, 1), (59, .iconst 2, 1), (60, .iload_n 2, 1), (61, .imul, 1), (62, .aload_n 0, 1), (63, .getfield 13, 3), (66, .iload_n 1, 1), (67, .iaload, 1), (68, .if_icmp .le 9, 3), (71, .aload_n 0, 1), (72, .iconst 4, 1), (73, .invokevirtual 174, 3), (76, .ireturn, 1), (77, .iconst 0, 1), (78, .istore_n 3, 1), (79, .iload_n 3, 1), (80, .iconst 2, 1), (81, .iload_n 2, 1), (82, .imul, 1), (83, .if_icmp .ge 78, 3), (86, .aload_n 0, 1), (87, .getfield 16, 3), (90, .bipush 16, 2), (92, .iload_n 1, 1), (93, .imul, 1), (94, .iload_n 3, 1), (95, .iadd, 1), (96, .laload, 1), (97, .lstore 4, 2), (99, .lload 4, 2), (101, .ldc2_w 211, 3), (104, .lcmp, 1), (105, .ifCond .lt 12, 3), (108, .lload 4, 2), (110, .ldc2_w 213, 3), (113, .lcmp, 1), (114, .ifCond .le 10, 3), (117, .aload_n 0, 1), (118, .bipush 7, 2), (120, .invokevirtual 174, 3), (123, .ireturn, 1), (124, .iload_n 3, 1), (125, .iconst 2, 1), (126, .irem, 1), (127, .ifCond .ne 17, 3), (130, .aload_n 0, 1), (131, .getfield 88, 3), (134, .iload_n 3, 1), (135, .iconst 2, 1), (136, .idiv, 1), (137, .lload 4, 2), (139, .l2i, 1), (140, .iastore, 1), (141, .goto 14, 3), (144, .aload_n 0, 1), (145, .getfield 91, 3), (148, .iload_n 3, 1), (149, .iconst 2, 1), (150, .idiv, 1), (151, .lload 4, 2), (153, .l2i, 1), (154, .iastore, 1), (155, .iinc 3 1, 3), (158, .goto (-79), 3), (161, .aload_n 0, 1), (162, .iload_n 2, 1), (163, .invokevirtual 215, 3), (166, .ifCond .ne 10, 3), (169, .aload_n 0, 1), (170, .bipush 12, 2), (172, .invokevirtual 174, 3), (175, .ireturn, 1), (176, .aload_n 0, 1), (177, .getfield 169, 3), (180, .bipush 60, 2), (182, .if_icmp .ne 10, 3), (185, .aload_n 0, 1), (186, .bipush 10, 2), (188, .invokevirtual 174, 3), (191, .ireturn, 1), (192, .lconst 0, 1), (193, .lstore_n 3, 1), (194, .iconst 0, 1), (195, .istore 5, 2), (197, .iload 5, 2), (199, .iload_n 2, 1), (200, .if_icmp .ge 55, 3), (203, .lload_n 3, 1), (204, .aload_n 0, 1), (205, .getfield 88, 3), (208, .iload 5, 2), (210, .iaload, 1), (211, .i2l, 1), (212, .aload_n 0, 1), (213, .getfield 91, 3), (216, .iload 5, 2), (218, .iconst 1, 1), (219, .iadd, 1), (220, .iload_n 2, 1), (221, .irem, 1), (222, .iaload, 1), (223, .i2l, 1), (224, .lmul, 1), (225, .aload_n 0, 1), (226, .getfield 88, 3), (229, .iload 5, 2), (231, .iconst 1, 1), (232, .iadd, 1), (233, .iload_n 2, 1), (234, .irem, 1), (235, .iaload, 1), (236, .i2l, 1), (237, .aload_n 0, 1), (238, .getfield 91, 3), (241, .iload 5, 2), (243, .iaload, 1), (244, .i2l, 1), (245, .lmul, 1), (246, .lsub, 1), (247, .ladd, 1), (248, .lstore_n 3, 1), (249, .iinc 5 1, 3), (252, .goto (-55), 3), (255, .aload_n 0, 1), (256, .iconst 4, 1), (257, .lload_n 3, 1), (258, .invokestatic 218, 3), (261, .invokevirtual 178, 3), (264, .istore 5, 2), (266, .aload_n 0, 1), (267, .getfield 53, 3), (270, .iload 5, 2), (272, .iload_n 2, 1), (273, .iastore, 1), (274, .iconst 0, 1), (275, .istore 6, 2), (277, .iload 6, 2), (279, .iload_n 2, 1), (280, .if_icmp .ge 49, 3), (283, .aload_n 0, 1), (284, .getfield 56, 3), (287, .bipush 8, 2), (289, .iload 5, 2), (291, .imul, 1), (292, .iload 6, 2), (294, .iadd, 1), (295, .aload_n 0, 1), (296, .getfield 88, 3), (299, .iload 6, 2), (301, .iaload, 1), (302, .iastore, 1), (303, .aload_n 0, 1), (304, .getfield 59, 3), (307, .bipush 8, 2), (309, .iload 5, 2), (311, .imul, 1), (312, .iload 6, 2), (314, .iadd, 1), (315, .aload_n 0, 1), (316, .getfield 91, 3), (319, .iload 6, 2), (321, .iaload, 1), (322, .iastore, 1), (323, .iinc 6 1, 3), (326, .goto (-49), 3), (329, .iload 5, 2), (331, .ireturn, 1)])
set_option maxRecDepth 100000 in
theorem deX12_plate : ∀ q ∈ miX12_plate.2.2.2, decode miX12_plate.1.2.2 q.1 = .ok q.2 := by decide +kernel
def miX12_common : MI := ((yX12_common, RX12, cX12_common), (10, (some .long)), (0, 0), [(0, .lload_n 0, 1), (1, .invokestatic 218, 3), (4, .lstore 4, 2), (6, .lload_n 2, 1), (7, .invokestatic 218, 3), (10, .lstore 6, 2), (12, .lload 6, 2), (14, .lconst 0, 1), (15, .lcmp, 1), (16, .ifCond .eq 21, 3), (19, .lload 4, 2), (21, .lload 6, 2), (23, .lrem, 1), (24, .lstore 8, 2), (26, .lload 6, 2), (28, .lstore 4, 2), (30, .lload 8, 2), (32, .lstore 6, 2), (34, .goto (-22), 3), (37, .lload 4, 2), (39, .lreturn, 1)])
set_option maxRecDepth 100000 in
theorem deX12_common : ∀ q ∈ miX12_common.2.2.2, decode miX12_common.1.2.2 q.1 = .ok q.2 := by decide +kernel
def miX12_middle : MI := ((yX12_middle, RX12, cX12_middle), (12, (some .long)), (0, 0), [(0, .aload_n 0, 1), (1, .iconst 0, 1), (2, .putfield 148, 3), (5, .aload_n 0, 1), (6, .iconst 0, 1), (7, .putfield 152, 3), (10, .aload_n 0, 1), (11, .iload_n 1, 1), (12, .invokevirtual 222, 3), (15, .ifCond .ne 10, 3), (18, .aload_n 0, 1), (19, .iconst 2, 1), (20, .invokevirtual 174, 3), (23, .i2l, 1), (24, .lreturn, 1), (25, .aload_n 0, 1), (26, .getfield 20, 3), (29, .iload_n 1, 1), (30, .iaload, 1), (31, .iconst 4, 1), (32, .if_icmp .eq 10, 3), (35, .aload_n 0, 1), (36, .iconst 5, 1), (37, .invokevirtual 174, 3), (40, .i2l, 1), (41, .lreturn, 1), (42, .iload_n 2, 1), (43, .ifCond .lt 8, 3), (46, .iload_n 2, 1), (47, .iconst 3, 1), (48, .if_icmp .le 11, 3), (51, .aload_n 0, 1), (52, .bipush 7, 2), (54, .invokevirtual 174, 3), (57, .i2l, 1), (58, .lreturn, 1), (59, .lconst 0, 1), (60, .lstore_n 3, 1), (61, .lconst 0, 1), (62, .lstore 5, 2), (64, .iconst 0, 1), (65, .istore 7, 2), (67, .iload 7, 2), (69, .aload_n 0, 1), (70, .getfield 53, 3), (73, .iload_n 1, 1), (74, .iaload, 1), (75, .if_icmp .ge 125, 3), (78, .bipush 8, 2), (80, .iload_n 1, 1), (81, .imul, 1), (82, .iload 7, 2), (84, .iadd, 1), (85, .istore 8, 2), (87, .bipush 8, 2), (89, .iload_n 1, 1), (90, .imul, 1), (91, .iload 7, 2), (93, .iconst 1, 1), (94, .iadd, 1), (95, .aload_n 0, 1), (96, .getfield 53, 3), (99, .iload_n 1, 1), (100, .iaload, 1), (101, .irem, 1), (102, .iadd, 1), (103, .istore 9, 2), (105, .aload_n 0, 1), (106, .getfield 56, 3), (109, .iload 8, 2), (111, .iaload, 1), (112, .i2l, 1), (113, .aload_n 0, 1), (114, .getfield 59, 3), (117, .iload 9, 2), (119, .iaload, 1), (120, .i2l, 1), (121, .lmul, 1), (122, .aload_n 0, 1), (123, .getfield 56, 3), (126, .iload 9, 2), (128, .iaload, 1), (129, .i2l, 1), (130, .aload_n 0, 1), (131, .getfield 59, 3), (134, .iload 8, 2), (136, .iaload, 1), (137, .i2l, 1), (138, .lmul, 1), (139, .lsub, 1), (140, .lstore 10, 2), (142, .lload_n 3, 1), (143, .lload 10, 2), (145, .ladd, 1), (146, .lstore_n 3, 1), (147, .lload 5, 2), (149, .lload 10, 2), (151, .iload_n 2, 1), (152, .iconst 2, 1), (153, .if_icmp .ge 21, 3), (156, .aload_n 0, 1), (157, .getfield 56, 3), (160, .iload 8, 2), (162, .iaload, 1), (163, .aload_n 0, 1), (164, .getfield 56, 3), (167, .iload 9, 2), (169, .iaload, 1), (170, .iadd, 1), (171, .goto 18, 3), (174, .aload_n 0, 1), (175, .getfield 59, 3), (178, .iload 8, 2), (180, .iaload, 1), (181, .aload_n 0, 1), (182, .getfield 59, 3), (185, .iload 9, 2), (187, .iaload, 1), (188, .iadd, 1), (189, .i2l, 1), (190, .lmul, 1), (191, .ladd, 1), (192, .lstore 5, 2), (194, .iinc 7 1, 3), (197, .goto (-130), 3), (200, .ldc2_w 225, 3), (203, .lload_n 3, 1), (204, .lmul, 1), (205, .lstore 7, 2), (207, .lload 5, 2), (209, .lload 7, 2), (211, .invokestatic 227, 3), (214, .lload 7, 2), (216, .lconst 0, 1), (217, .lcmp, 1), (218, .ifCond .ge 9, 3), (221, .ldc2_w 167, 3), (224, .goto 4, 3), (227, .lconst 1, 1), (228, .lmul, 1), (229, .lstore 9, 2), (231, .iload_n 2, 1), (232, .iconst 2, 1), (233, .irem, 1), (234, .ifCond .ne 11, 3), (237, .lload 5, 2), (239, .lload 9, 2), (241, .ldiv, 1), (242, .goto 8, 3), (245, .lload 7, 2), (247, .lload 9, 2), (249, .ldiv, 1), (250, .lreturn, 1)])
set_option maxRecDepth 100000 in
theorem deX12_middle : ∀ q ∈ miX12_middle.2.2.2, decode miX12_middle.1.2.2 q.1 = .ok q.2 := by decide +kernel
def miX12_isPart : MI := ((yX12_isPart, RX12, cX12_isPart), (2, (some .boolean)), (0, 0), [(0, .iload_n 1, 1), (1, .ifCond .lt 15, 3), (4, .iload_n 1, 1), (5, .aload_n 0, 1), (6, .getfield 169, 3), (9, .if_icmp .ge 7, 3), (12, .iconst 1, 1), (13, .goto 4, 3), (16, .iconst 0, 1), (17, .ireturn, 1)])
set_option maxRecDepth 100000 in
theorem deX12_isPart : ∀ q ∈ miX12_isPart.2.2.2, decode miX12_isPart.1.2.2 q.1 = .ok q.2 := by decide +kernel
def miX12_isRod : MI := ((yX12_isRod, RX12, cX12_isRod), (2, (some .boolean)), (0, 0), [(0, .aload_n 0, 1), (1, .getfield 20, 3), (4, .iload_n 1, 1), (5, .iaload, 1), (6, .iconst 2, 1), (7, .if_icmp .eq 13, 3), (10, .aload_n 0, 1), (11, .getfield 20, 3), (14, .iload_n 1, 1), (15, .iaload, 1), (16, .iconst 3, 1), (17, .if_icmp .ne 7, 3), (20, .iconst 1, 1), (21, .goto 4, 3), (24, .iconst 0, 1), (25, .ireturn, 1)])
set_option maxRecDepth 100000 in
theorem deX12_isRod : ∀ q ∈ miX12_isRod.2.2.2, decode miX12_isRod.1.2.2 q.1 = .ok q.2 := by decide +kernel
def miX12_topOf : MI := ((yX12_topOf, RX12, cX12_topOf), (3, (some .int)), (0, 0), [(0, .iload_n 1, 1), (1, .istore_n 2, 1), (2, .aload_n 0, 1), (3, .getfield 29, 3), (6, .iload_n 2, 1), (7, .iaload, 1), (8, .ifCond .lt 13, 3), (11, .aload_n 0, 1), (12, .getfield 29, 3), (15, .iload_n 2, 1), (16, .iaload, 1), (17, .istore_n 2, 1), (18, .goto (-16), 3), (21, .iload_n 2, 1), (22, .ireturn, 1)])
set_option maxRecDepth 100000 in
theorem deX12_topOf : ∀ q ∈ miX12_topOf.2.2.2, decode miX12_topOf.1.2.2 q.1 = .ok q.2 := by decide +kernel
def miX12_heightOf : MI := ((yX12_heightOf, RX12, cX12_heightOf), (4, (some .int)), (0, 0), [(0, .iconst 0, 1), (1, .istore_n 2, 1), (2, .iload_n 1, 1), (3, .istore_n 3, 1), (4, .aload_n 0, 1), (5, .getfield 29, 3), (8, .iload_n 3, 1), (9, .iaload, 1), (10, .ifCond .lt 22, 3), (13, .iload_n 2, 1), (14, .aload_n 0, 1), (15, .getfield 35, 3), (18, .iload_n 3, 1), (19, .iaload, 1), (20, .iadd, 1), (21, .istore_n 2, 1), (22, .aload_n 0, 1), (23, .getfield 29, 3), (26, .iload_n 3, 1), (27, .iaload, 1), (28, .istore_n 3, 1), (29, .goto (-25), 3), (32, .iload_n 2, 1), (33, .ireturn, 1)])
set_option maxRecDepth 100000 in
theorem deX12_heightOf : ∀ q ∈ miX12_heightOf.2.2.2, decode miX12_heightOf.1.2.2 q.1 = .ok q.2 := by decide +kernel
def miX12_part : MI := ((yX12_part, RX12, cX12_part), (3, (some .int)), (0, 0), [(0, .aload_n 0, 1), (1, .iconst 0, 1), (2, .putfield 148, 3), (5, .aload_n 0, 1), (6, .iconst 0, 1), (7, .putfield 152, 3), (10, .aload_n 0, 1), (11, .iload_n 1, 1), (12, .invokevirtual 222, 3), (15, .ifCond .ne 9, 3), (18, .aload_n 0, 1), (19, .iconst 2, 1), (20, .invokevirtual 174, 3), (23, .ireturn, 1), (24, .iload_n 2, 1), (25, .tableswitch 91 0 6 #[43, 50, 58, 65, 72, 79, 85], 43), (68, .aload_n 0, 1), (69, .getfield 20, 3), (72, .iload_n 1, 1), (73, .iaload, 1), (74, .ireturn, 1), (75, .aload_n 0, 1), (76, .getfield 38, 3), (79, .iload_n 1, 1), (80, .laload, 1), (81, .l2i, 1), (82, .ireturn, 1), (83, .aload_n 0, 1), (84, .getfield 29, 3), (87, .iload_n 1, 1), (88, .iaload, 1), (89, .ireturn, 1), (90, .aload_n 0, 1), (91, .getfield 32, 3), (94, .iload_n 1, 1), (95, .iaload, 1), (96, .ireturn, 1), (97, .aload_n 0, 1), (98, .getfield 35, 3), (101, .iload_n 1, 1), (102, .iaload, 1), (103, .ireturn, 1), (104, .aload_n 0, 1), (105, .iload_n 1, 1), (106, .invokevirtual 231, 3), (109, .ireturn, 1), (110, .aload_n 0, 1), (111, .iload_n 1, 1), (112, .invokevirtual 234, 3), (115, .ireturn, 1), (116, .aload_n 0, 1), (117, .bipush 7, 2), (119, .invokevirtual 174, 3), (122, .ireturn, 1)])
set_option maxRecDepth 100000 in
theorem deX12_part : ∀ q ∈ miX12_part.2.2.2, decode miX12_part.1.2.2 q.1 = .ok q.2 := by decide +kernel
end
section
def miX12_rodded : MI := ((yX12_rodded, RX12, cX12_rodded), (2, (some .int)), (0, 0), [(0, .aload_n 0, 1), (1, .iload_n 1, 1), (2, .invokevirtual 222, 3), (5, .ifCond .ne 7, 3), (8, .iconst 2, 1), (9, .goto 16, 3), (12, .aload_n 0, 1), (13, .iload_n 1, 1), (14, .invokevirtual 237, 3), (17, .ifCond .eq 7, 3), (20, .iconst 0, 1), (21, .goto 4, 3), (24, .iconst 5, 1), (25, .ireturn, 1)])
set_option maxRecDepth 100000 in
theorem deX12_rodded : ∀ q ∈ miX12_rodded.2.2.2, decode miX12_rodded.1.2.2 q.1 = .ok q.2 := by decide +kernel
def miX12_rodAt : MI := ((yX12_rodAt, RX12, cX12_rodAt), (3, (some .long)), (0, 0), [(0, .aload_n 0, 1), (1, .iconst 0, 1), (2, .putfield 148, 3), (5, .aload_n 0, 1), (6, .aload_n 0, 1), (7, .iload_n 1, 1), (8, .invokevirtual 240, 3), (11, .putfield 152, 3), (14, .aload_n 0, 1), (15, .getfield 152, 3), (18, .ifCond .le 7, 3), (21, .ldc2_w 167, 3), (24, .lreturn, 1), (25, .iload_n 2, 1), (26, .tableswitch 84 0 5 #[38, 46, 54, 61, 68, 76], 38), (64, .aload_n 0, 1), (65, .getfield 26, 3), (68, .iload_n 1, 1), (69, .iaload, 1), (70, .i2l, 1), (71, .lreturn, 1), (72, .aload_n 0, 1), (73, .getfield 23, 3), (76, .iload_n 1, 1), (77, .iaload, 1), (78, .i2l, 1), (79, .lreturn, 1), (80, .aload_n 0, 1), (81, .getfield 41, 3), (84, .iload_n 1, 1), (85, .laload, 1), (86, .lreturn, 1), (87, .aload_n 0, 1), (88, .getfield 44, 3), (91, .iload_n 1, 1), (92, .laload, 1), (93, .lreturn, 1), (94, .aload_n 0, 1), (95, .getfield 47, 3), (98, .iload_n 1, 1), (99, .iaload, 1), (100, .i2l, 1), (101, .lreturn, 1), (102, .aload_n 0, 1), (103, .getfield 50, 3), (106, .iload_n 1, 1), (107, .iaload, 1), (108, .i2l, 1), (109, .lreturn, 1), (110, .aload_n 0, 1), (111, .bipush 7, 2), (113, .invokevirtual 174, 3), (116, .i2l, 1), (117, .lreturn, 1)])
set_option maxRecDepth 100000 in
theorem deX12_rodAt : ∀ q ∈ miX12_rodAt.2.2.2, decode miX12_rodAt.1.2.2 q.1 = .ok q.2 := by decide +kernel
def miX12_isAbove : MI := ((yX12_isAbove, RX12, cX12_isAbove), (4, (some .boolean)), (0, 0), [(0, .iload_n 2, 1), (1, .istore_n 3, 1), (2, .iload_n 3, 1), (3, .ifCond .lt 18, 3), (6, .iload_n 3, 1), (7, .iload_n 1, 1), (8, .if_icmp .eq 13, 3), (11, .aload_n 0, 1), (12, .getfield 29, 3), (15, .iload_n 3, 1), (16, .iaload, 1), (17, .istore_n 3, 1), (18, .goto (-16), 3), (21, .iload_n 3, 1), (22, .iload_n 1, 1), (23, .if_icmp .ne 7, 3), (26, .iconst 1, 1), (27, .goto 4, 3), (30, .iconst 0, 1), (31, .ireturn, 1)])
set_option maxRecDepth 100000 in
theorem deX12_isAbove : ∀ q ∈ miX12_isAbove.2.2.2, decode miX12_isAbove.1.2.2 q.1 = .ok q.2 := by decide +kernel
def miX12_hang : MI := ((yX12_hang, RX12, cX12_hang), (5, (some .boolean)), (0, 0), [(0, .aload_n 0, 1), (1, .iconst 0, 1), (2, .putfield 148, 3), (5, .aload_n 0, 1), (6, .iconst 0, 1), (7, .putfield 152, 3), (10, .aload_n 0, 1), (11, .iload_n 1, 1), (12, .invokevirtual 222, 3), (15, .ifCond .eq 11, 3), (18, .aload_n 0, 1), (19, .iload_n 2, 1), (20, .invokevirtual 222, 3), (23, .ifCond .ne 9, 3), (26, .aload_n 0, 1), (27, .iconst 2, 1), (28, .invokevirtual 155, 3), (31, .ireturn, 1), (32, .aload_n 0, 1), (33, .iload_n 2, 1), (34, .invokevirtual 237, 3), (37, .ifCond .eq 21, 3), (40, .aload_n 0, 1), (41, .getfield 20, 3), (44, .iload_n 2, 1), (45, .iaload, 1), (46, .iconst 3, 1), (47, .if_icmp .ne 17, 3), (50, .aload_n 0, 1), (51, .iload_n 1, 1), (52, .invokevirtual 237, 3), (55, .ifCond .eq 9, 3), (58, .aload_n 0, 1), (59, .iconst 5, 1), (60, .invokevirtual 155, 3), (63, .ireturn, 1), (64, .iload_n 3, 1), (65, .ifCond .lt 31, 3), (68, .iload_n 3, 1), (69, .iconst 1, 1), (70, .if_icmp .gt 26, 3), (73, .iload 4, 2), (75, .iconst 1, 1), (76, .if_icmp .lt 20, 3), (79, .iload 4, 2), (81, .sipush 1000, 3), (84, .if_icmp .gt 12, 3), (87, .aload_n 0, 1), (88, .iload_n 1, 1), (89, .iload_n 2, 1), (90, .invokevirtual 243, 3), (93, .ifCond .eq 10, 3), (96, .aload_n 0, 1), (97, .bipush 7, 2), (99, .invokevirtual 155, 3), (102, .ireturn, 1), (103, .aload_n 0, 1), (104, .getfield 29, 3), (107, .iload_n 1, 1), (108, .iaload, 1), (109, .ifCond .ge 25, 3), (112, .iload_n 3, 1), (113, .ifCond .ne 12, 3), (116, .aload_n 0, 1), (117, .getfield 47, 3), (120, .iload_n 2, 1), (121, .iaload, 1), (122, .goto 9, 3), (125, .aload_n 0, 1), (126, .getfield 50, 3), (129, .iload_n 2, 1), (130, .iaload, 1), (131, .ifCond .lt 10, 3), (134, .aload_n 0, 1), (135, .bipush 8, 2), (137, .invokevirtual 155, 3), (140, .ireturn, 1), (141, .aload_n 0, 1), (142, .getfield 29, 3), (145, .iload_n 1, 1), (146, .iload_n 2, 1), (147, .iastore, 1), (148, .aload_n 0, 1), (149, .getfield 32, 3), (152, .iload_n 1, 1), (153, .iload_n 3, 1), (154, .iastore, 1), (155, .aload_n 0, 1), (156, .getfield 35, 3), (159, .iload_n 1, 1), (160, .iload 4, 2), (162, .iastore, 1), (163, .iload_n 3, 1), (164, .ifCond .ne 13, 3), (167, .aload_n 0, 1), (168, .getfield 47, 3), (171, .iload_n 2, 1), (172, .iload_n 1, 1), (173, .iastore, 1), (174, .goto 10, 3), (177, .aload_n 0, 1), (178, .getfield 50, 3), (181, .iload_n 2, 1), (182, .iload_n 1, 1), (183, .iastore, 1), (184, .iconst 1, 1), (185, .ireturn, 1)])
set_option maxRecDepth 100000 in
theorem deX12_hang : ∀ q ∈ miX12_hang.2.2.2, decode miX12_hang.1.2.2 q.1 = .ok q.2 := by decide +kernel
def miX12_takeOff : MI := ((yX12_takeOff, RX12, cX12_takeOff), (2, none), (0, 0), [(0, .aload_n 0, 1), (1, .getfield 32, 3), (4, .iload_n 1, 1), (5, .iaload, 1), (6, .ifCond .ne 18, 3), (9, .aload_n 0, 1), (10, .getfield 47, 3), (13, .aload_n 0, 1), (14, .getfield 29, 3), (17, .iload_n 1, 1), (18, .iaload, 1), (19, .iconst (-1), 1), (20, .iastore, 1), (21, .goto 15, 3), (24, .aload_n 0, 1), (25, .getfield 50, 3), (28, .aload_n 0, 1), (29, .getfield 29, 3), (32, .iload_n 1, 1), (33, .iaload, 1), (34, .iconst (-1), 1), (35, .iastore, 1), (36, .aload_n 0, 1), (37, .getfield 29, 3), (40, .iload_n 1, 1), (41, .iconst (-1), 1), (42, .iastore, 1), (43, .aload_n 0, 1), (44, .getfield 32, 3), (47, .iload_n 1, 1), (48, .iconst (-1), 1), (49, .iastore, 1), (50, .aload_n 0, 1), (51, .getfield 35, 3), (54, .iload_n 1, 1), (55, .iconst 0, 1), (56, .iastore, 1), (57, .return_, 1)])
set_option maxRecDepth 100000 in
theorem deX12_takeOff : ∀ q ∈ miX12_takeOff.2.2.2, decode miX12_takeOff.1.2.2 q.1 = .ok q.2 := by decide +kernel
def miX12_take : MI := ((yX12_take, RX12, cX12_take), (2, (some .boolean)), (0, 0), [(0, .aload_n 0, 1), (1, .iconst 0, 1), (2, .putfield 148, 3), (5, .aload_n 0, 1), (6, .iconst 0, 1), (7, .putfield 152, 3), (10, .aload_n 0, 1), (11, .iload_n 1, 1), (12, .invokevirtual 222, 3), (15, .ifCond .ne 9, 3), (18, .aload_n 0, 1), (19, .iconst 2, 1), (20, .invokevirtual 155, 3), (23, .ireturn, 1), (24, .aload_n 0, 1), (25, .getfield 29, 3), (28, .iload_n 1, 1), (29, .iaload, 1), (30, .ifCond .ge 10, 3), (33, .aload_n 0, 1), (34, .bipush 8, 2), (36, .invokevirtual 155, 3), (39, .ireturn, 1), (40, .aload_n 0, 1), (41, .iload_n 1, 1), (42, .invokevirtual 247, 3), (45, .iconst 1, 1), (46, .ireturn, 1)])
set_option maxRecDepth 100000 in
theorem deX12_take : ∀ q ∈ miX12_take.2.2.2, decode miX12_take.1.2.2 q.1 = .ok q.2 := by decide +kernel
def miX12_thread : MI := ((yX12_thread, RX12, cX12_thread), (3, (some .boolean)), (0, 0), [(0, .aload_n 0, 1), (1, .iconst 0, 1), (2, .putfield 148, 3), (5, .aload_n 0, 1), (6, .iconst 0, 1), (7, .putfield 152, 3), (10, .aload_n 0, 1), (11, .iload_n 1, 1), (12, .invokevirtual 222, 3), (15, .ifCond .ne 9, 3), (18, .aload_n 0, 1), (19, .iconst 2, 1), (20, .invokevirtual 155, 3), (23, .ireturn, 1), (24, .aload_n 0, 1), (25, .getfield 29, 3), (28, .iload_n 1, 1), (29, .iaload, 1), (30, .ifCond .ge 10, 3), (33, .aload_n 0, 1), (34, .bipush 8, 2), (36, .invokevirtual 155, 3), (39, .ireturn, 1), (40, .iload_n 2, 1), (41, .iconst 1, 1), (42, .if_icmp .lt 10, 3), (45, .iload_n 2, 1), (46, .sipush 1000, 3), (49, .if_icmp .le 10, 3), (52, .aload_n 0, 1), (53, .bipush 7, 2), (55, .invokevirtual 155, 3), (58, .ireturn, 1), (59, .aload_n 0, 1), (60, .getfield 35, 3), (63, .iload_n 1, 1), (64, .iload_n 2, 1), (65, .iastore, 1), (66, .iconst 1, 1), (67, .ireturn, 1)])
set_option maxRecDepth 100000 in
theorem deX12_thread : ∀ q ∈ miX12_thread.2.2.2, decode miX12_thread.1.2.2 q.1 = .ok q.2 := by decide +kernel
def miX12_tied : MI := ((yX12_tied, RX12, cX12_tied), (4, (some .boolean)), (0, 0), [(0, .aload_n 0, 1), (1, .iconst 0, 1), (2, .putfield 148, 3), (5, .aload_n 0, 1), (6, .aload_n 0, 1), (7, .iload_n 1, 1), (8, .invokevirtual 240, 3), (11, .putfield 152, 3), (14, .aload_n 0, 1), (15, .getfield 152, 3), (18, .ifCond .le 5, 3), (21, .iconst 0, 1), (22, .ireturn, 1), (23, .iload_n 3, 1), (24, .iconst 2, 1), (25, .if_icmp .lt 19, 3), (28, .iload_n 3, 1), (29, .ldc 251, 2), (31, .if_icmp .gt 13, 3), (34, .iload_n 2, 1), (35, .iconst 1, 1), (36, .if_icmp .lt 8, 3), (39, .iload_n 2, 1), (40, .iload_n 3, 1), (41, .if_icmp .lt 10, 3), (44, .aload_n 0, 1), (45, .bipush 7, 2), (47, .invokevirtual 155, 3), (50, .ireturn, 1), (51, .aload_n 0, 1), (52, .getfield 41, 3), (55, .iload_n 1, 1), (56, .iload_n 2, 1), (57, .i2l, 1), (58, .lastore, 1), (59, .aload_n 0, 1), (60, .getfield 44, 3), (63, .iload_n 1, 1), (64, .iload_n 3, 1), (65, .i2l, 1), (66, .lastore, 1), (67, .iconst 1, 1), (68, .ireturn, 1)])
set_option maxRecDepth 100000 in
theorem deX12_tied : ∀ q ∈ miX12_tied.2.2.2, decode miX12_tied.1.2.2 q.1 = .ok q.2 := by decide +kernel
def miX12_swap : MI := ((yX12_swap, RX12, cX12_swap), (3, (some .boolean)), (0, 0), [(0, .aload_n 0, 1), (1, .iconst 0, 1), (2, .putfield 148, 3), (5, .aload_n 0, 1), (6, .aload_n 0, 1), (7, .iload_n 1, 1), (8, .invokevirtual 240, 3), (11, .putfield 152, 3), (14, .aload_n 0, 1), (15, .getfield 152, 3), (18, .ifCond .le 5, 3), (21, .iconst 0, 1), (22, .ireturn, 1), (23, .aload_n 0, 1), (24, .getfield 47, 3), (27, .iload_n 1, 1), (28, .iaload, 1), (29, .istore_n 2, 1), (30, .aload_n 0, 1), (31, .getfield 47, 3), (34, .iload_n 1, 1), (35, .aload_n 0, 1), (36, .getfield 50, 3), (39, .iload_n 1, 1), (40, .iaload, 1), (41, .iastore, 1), (42, .aload_n 0, 1), (43, .getfield 50, 3), (46, .iload_n 1, 1), (47, .iload_n 2, 1), (48, .iastore, 1), (49, .aload_n 0, 1), (50, .getfield 47, 3), (53, .iload_n 1, 1), (54, .iaload, 1), (55, .ifCond .lt 15, 3), (58, .aload_n 0, 1), (59, .getfield 32, 3), (62, .aload_n 0, 1), (63, .getfield 47, 3), (66, .iload_n 1, 1), (67, .iaload, 1), (68, .iconst 0, 1), (69, .iastore, 1), (70, .aload_n 0, 1), (71, .getfield 50, 3), (74, .iload_n 1, 1), (75, .iaload, 1), (76, .ifCond .lt 15, 3), (79, .aload_n 0, 1), (80, .getfield 32, 3), (83, .aload_n 0, 1), (84, .getfield 50, 3), (87, .iload_n 1, 1), (88, .iaload, 1), (89, .iconst 1, 1), (90, .iastore, 1), (91, .iconst 1, 1), (92, .ireturn, 1)])
set_option maxRecDepth 100000 in
theorem deX12_swap : ∀ q ∈ miX12_swap.2.2.2, decode miX12_swap.1.2.2 q.1 = .ok q.2 := by decide +kernel
def miX12_orders : MI := ((yX12_orders, RX12, cX12_orders), (4, none), (0, 0), [(0, .iconst 0, 1), (1, .istore_n 1, 1), (2, .iload_n 1, 1), (3, .aload_n 0, 1), (4, .getfield 169, 3), (7, .if_icmp .ge 47, 3), (10, .aload_n 0, 1), (11, .getfield 65, 3), (14, .iload_n 1, 1), (15, .iconst 0, 1), (16, .iastore, 1), (17, .iload_n 1, 1), (18, .istore_n 2, 1), (19, .aload_n 0, 1), (20, .getfield 29, 3), (23, .iload_n 2, 1), (24, .iaload, 1), (25, .ifCond .lt 23, 3), (28, .aload_n 0, 1), (29, .getfield 65, 3), (32, .iload_n 1, 1), (33, .dup2, 1), (34, .iaload, 1), (35, .iconst 1, 1), (36, .iadd, 1), (37, .iastore, 1), (38, .aload_n 0, 1), (39, .getfield 29, 3), (42, .iload_n 2, 1), (43, .iaload, 1), (44, .istore_n 2, 1), (45, .goto (-26), 3), (48, .iinc 1 1, 3), (51, .goto (-49), 3), (54, .iconst 0, 1), (55, .istore_n 1, 1), (56, .bipush 60, 2), (58, .istore_n 2, 1), (59, .iload_n 2, 1), (60, .ifCond .lt 48, 3), (63, .iconst 0, 1), (64, .istore_n 3, 1), (65, .iload_n 3, 1), (66, .aload_n 0, 1), (67, .getfield 169, 3), (70, .if_icmp .ge 32, 3), (73, .aload_n 0, 1), (74, .getfield 65, 3), (77, .iload_n 3, 1), (78, .iaload, 1), (79, .iload_n 2, 1), (80, .if_icmp .eq 6, 3), (83, .goto 13, 3), (86, .aload_n 0, 1), (87, .getfield 62, 3), (90, .iload_n 1, 1), (91, .iload_n 3, 1), (92, .iastore, 1), (93, .iinc 1 1, 3), (96, .iinc 3 1, 3), (99, .goto (-34), 3), (102, .iinc 2 (-1), 3), (105, .goto (-46), 3), (108, .return_, 1)])
set_option maxRecDepth 100000 in
theorem deX12_orders : ∀ q ∈ miX12_orders.2.2.2, decode miX12_orders.1.2.2 q.1 = .ok q.2 := by decide +kernel
def miX12_loads : MI := ((yX12_loads, RX12, cX12_loads), (3, none), (0, 0), [(0, .iconst 0, 1), (1, .istore_n 1, 1), (2, .iload_n 1, 1), (3, .aload_n 0, 1), (4, .getfield 169, 3), (7, .if_icmp .ge 99, 3), (10, .aload_n 0, 1), (11, .getfield 62, 3), (14, .iload_n 1, 1), (15, .iaload, 1), (16, .istore_n 2, 1), (17, .aload_n 0, 1), (18, .getfield 71, 3), (21, .iload_n 2, 1), (22, .aload_n 0, 1), (23, .getfield 78, 3), (26, .iload_n 2, 1), (27, .baload, 1), (28, .ifCond .eq 7, 3), (31, .lconst 0, 1), (32, .goto 9, 3), (35, .aload_n 0, 1), (36, .getfield 38, 3), (39, .iload_n 2, 1), (40, .laload, 1), (41, .lastore, 1), (42, .aload_n 0, 1), (43, .getfield 47, 3), (46, .iload_n 2, 1), (47, .iaload, 1), (48, .ifCond .lt 23, 3), (51, .aload_n 0, 1), (52, .getfield 71, 3), (55, .iload_n 2, 1), (56, .dup2, 1), (57, .laload, 1), (58, .aload_n 0, 1), (59, .getfield 71, 3), (62, .aload_n 0, 1), (63, .getfield 47, 3), (66, .iload_n 2, 1), (67, .iaload, 1), (68, .laload, 1), (69, .ladd, 1), (70, .lastore, 1), (71, .aload_n 0, 1), (72, .getfield 50, 3), (75, .iload_n 2, 1), (76, .iaload, 1), (77, .ifCond .lt 23, 3), (80, .aload_n 0, 1), (81, .getfield 71, 3), (84, .iload_n 2, 1), (85, .dup2, 1), (86, .laload, 1), (87, .aload_n 0, 1), (88, .getfield 71, 3), (91, .aload_n 0, 1), (92, .getfield 50, 3), (95, .iload_n 2, 1), (96, .iaload, 1), (97, .laload, 1), (98, .ladd, 1), (99, .lastore, 1), (100, .iinc 1 1, 3), (103, .goto (-101), 3), (106, .return_, 1)])
set_option maxRecDepth 100000 in
theorem deX12_loads : ∀ q ∈ miX12_loads.2.2.2, decode miX12_loads.1.2.2 q.1 = .ok q.2 := by decide +kernel
def miX12_allThere : MI := ((yX12_allThere, RX12, cX12_allThere), (2, none), (0, 0), [(0, .iconst 0, 1), (1, .istore_n 1, 1), (2, .iload_n 1, 1), (3, .aload_n 0, 1), (4, .getfield 169, 3), (7, .if_icmp .ge 16, 3), (10, .aload_n 0, 1), (11, .getfield 78, 3), (14, .iload_n 1, 1), (15, .iconst 0, 1), (16, .bastore, 1), (17, .iinc 1 1, 3), (20, .goto (-18), 3), (23, .aload_n 0, 1), (24, .invokevirtual 252, 3), (27, .aload_n 0, 1), (28, .invokevirtual 255, 3), (31, .return_, 1)])
set_option maxRecDepth 100000 in
theorem deX12_allThere : ∀ q ∈ miX12_allThere.2.2.2, decode miX12_allThere.1.2.2 q.1 = .ok q.2 := by decide +kernel
def miX12_loadAt : MI := ((yX12_loadAt, RX12, cX12_loadAt), (2, (some .long)), (0, 0), [(0, .iload_n 1, 1), (1, .ifCond .ge 7, 3), (4, .lconst 0, 1), (5, .goto 9, 3), (8, .aload_n 0, 1), (9, .getfield 71, 3), (12, .iload_n 1, 1), (13, .laload, 1), (14, .lreturn, 1)])
set_option maxRecDepth 100000 in
theorem deX12_loadAt : ∀ q ∈ miX12_loadAt.2.2.2, decode miX12_loadAt.1.2.2 q.1 = .ok q.2 := by decide +kernel
def miX12_levelP : MI := ((yX12_levelP, RX12, cX12_levelP), (2, (some .long)), (0, 0), [(0, .ldc2_w 186, 3), (3, .aload_n 0, 1), (4, .aload_n 0, 1), (5, .getfield 50, 3), (8, .iload_n 1, 1), (9, .iaload, 1), (10, .invokevirtual 258, 3), (13, .lmul, 1), (14, .aload_n 0, 1), (15, .getfield 38, 3), (18, .iload_n 1, 1), (19, .laload, 1), (20, .ladd, 1), (21, .lreturn, 1)])
set_option maxRecDepth 100000 in
theorem deX12_levelP : ∀ q ∈ miX12_levelP.2.2.2, decode miX12_levelP.1.2.2 q.1 = .ok q.2 := by decide +kernel
def miX12_levelQ : MI := ((yX12_levelQ, RX12, cX12_levelQ), (2, (some .long)), (0, 0), [(0, .ldc2_w 186, 3), (3, .aload_n 0, 1), (4, .aload_n 0, 1), (5, .getfield 47, 3), (8, .iload_n 1, 1), (9, .iaload, 1), (10, .invokevirtual 258, 3), (13, .aload_n 0, 1), (14, .aload_n 0, 1), (15, .getfield 50, 3), (18, .iload_n 1, 1), (19, .iaload, 1), (20, .invokevirtual 258, 3), (23, .ladd, 1), (24, .aload_n 0, 1), (25, .getfield 38, 3), (28, .iload_n 1, 1), (29, .laload, 1), (30, .ladd, 1), (31, .lmul, 1), (32, .lreturn, 1)])
set_option maxRecDepth 100000 in
theorem deX12_levelQ : ∀ q ∈ miX12_levelQ.2.2.2, decode miX12_levelQ.1.2.2 q.1 = .ok q.2 := by decide +kernel
def miX12_tilt : MI := ((yX12_tilt, RX12, cX12_tilt), (8, (some .int)), (0, 0), [(0, .aload_n 0, 1), (1, .iload_n 1, 1), (2, .invokevirtual 262, 3), (5, .lstore_n 2, 1), (6, .aload_n 0, 1), (7, .iload_n 1, 1), (8, .invokevirtual 265, 3), (11, .lstore 4, 2), (13, .lload_n 2, 1), (14, .lload 4, 2), (16, .invokestatic 227, 3), (19, .lstore 6, 2), (21, .lload 6, 2), (23, .lconst 0, 1), (24, .lcmp, 1), (25, .ifCond .ne 5, 3), (28, .iconst 0, 1), (29, .ireturn, 1), (30, .aload_n 0, 1), (31, .getfield 41, 3), (34, .iload_n 1, 1), (35, .laload, 1), (36, .lload 4, 2), (38, .lload 6, 2), (40, .ldiv, 1), (41, .lmul, 1), (42, .aload_n 0, 1), (43, .getfield 44, 3), (46, .iload_n 1, 1), (47, .laload, 1), (48, .lload_n 2, 1), (49, .lload 6, 2), (51, .ldiv, 1), (52, .lmul, 1), (53, .lsub, 1), (54, .invokestatic 204, 3), (57, .ireturn, 1)])
set_option maxRecDepth 100000 in
theorem deX12_tilt : ∀ q ∈ miX12_tilt.2.2.2, decode miX12_tilt.1.2.2 q.1 = .ok q.2 := by decide +kernel
def miX12_bears : MI := ((yX12_bears, RX12, cX12_bears), (2, (some .long)), (0, 0), [(0, .aload_n 0, 1), (1, .iconst 0, 1), (2, .putfield 148, 3), (5, .aload_n 0, 1), (6, .iconst 0, 1), (7, .putfield 152, 3), (10, .aload_n 0, 1), (11, .iload_n 1, 1), (12, .invokevirtual 222, 3), (15, .ifCond .ne 10, 3), (18, .aload_n 0, 1), (19, .iconst 2, 1), (20, .invokevirtual 174, 3), (23, .i2l, 1), (24, .lreturn, 1), (25, .aload_n 0, 1), (26, .invokevirtual 268, 3), (29, .aload_n 0, 1), (30, .getfield 71, 3), (33, .iload_n 1, 1), (34, .laload, 1), (35, .lreturn, 1)])
set_option maxRecDepth 100000 in
theorem deX12_bears : ∀ q ∈ miX12_bears.2.2.2, decode miX12_bears.1.2.2 q.1 = .ok q.2 := by decide +kernel
def miX12_tilts : MI := ((yX12_tilts, RX12, cX12_tilts), (3, (some .int)), (0, 0), [(0, .aload_n 0, 1), (1, .iconst 0, 1), (2, .putfield 148, 3), (5, .aload_n 0, 1), (6, .aload_n 0, 1), (7, .iload_n 1, 1), (8, .invokevirtual 240, 3), (11, .putfield 152, 3), (14, .aload_n 0, 1), (15, .getfield 152, 3), (18, .ifCond .le 5, 3), (21, .iconst (-1), 1), (22, .ireturn, 1), (23, .aload_n 0, 1), (24, .invokevirtual 268, 3), (27, .aload_n 0, 1), (28, .iload_n 1, 1), (29, .invokevirtual 271, 3), (32, .istore_n 2, 1), (33, .iload_n 2, 1), (34, .ifCond .le 7, 3), (37, .iconst 1, 1), (38, .goto 12, 3), (41, .iload_n 2, 1), (42, .ifCond .ge 7, 3), (45, .iconst 2, 1), (46, .goto 4, 3), (49, .iconst 0, 1), (50, .ireturn, 1)])
set_option maxRecDepth 100000 in
theorem deX12_tilts : ∀ q ∈ miX12_tilts.2.2.2, decode miX12_tilts.1.2.2 q.1 = .ok q.2 := by decide +kernel
def miX12_marks : MI := ((yX12_marks, RX12, cX12_marks), (3, none), (0, 0), [(0, .iconst 0, 1), (1, .istore_n 2, 1), (2, .iload_n 2, 1), (3, .aload_n 0, 1), (4, .getfield 169, 3), (7, .if_icmp .ge 21, 3), (10, .aload_n 0, 1), (11, .getfield 74, 3), (14, .iload_n 2, 1), (15, .aload_n 0, 1), (16, .iload_n 1, 1), (17, .iload_n 2, 1), (18, .invokevirtual 243, 3), (21, .bastore, 1), (22, .iinc 2 1, 3), (25, .goto (-23), 3), (28, .return_, 1)])
set_option maxRecDepth 100000 in
theorem deX12_marks : ∀ q ∈ miX12_marks.2.2.2, decode miX12_marks.1.2.2 q.1 = .ok q.2 := by decide +kernel
def miX12_topped : MI := ((yX12_topped, RX12, cX12_topped), (2, (some .int)), (0, 0), [(0, .aload_n 0, 1), (1, .iload_n 1, 1), (2, .invokevirtual 222, 3), (5, .ifCond .ne 7, 3), (8, .iconst 2, 1), (9, .goto 18, 3), (12, .aload_n 0, 1), (13, .getfield 29, 3), (16, .iload_n 1, 1), (17, .iaload, 1), (18, .ifCond .lt 8, 3), (21, .bipush 8, 2), (23, .goto 4, 3), (26, .iconst 0, 1), (27, .ireturn, 1)])
set_option maxRecDepth 100000 in
theorem deX12_topped : ∀ q ∈ miX12_topped.2.2.2, decode miX12_topped.1.2.2 q.1 = .ok q.2 := by decide +kernel
def miX12_wrongRods : MI := ((yX12_wrongRods, RX12, cX12_wrongRods), (3, (some .int)), (0, 0), [(0, .iconst 0, 1), (1, .istore_n 1, 1), (2, .iconst 0, 1), (3, .istore_n 2, 1), (4, .iload_n 2, 1), (5, .aload_n 0, 1), (6, .getfield 169, 3), (9, .if_icmp .ge 42, 3), (12, .iload_n 1, 1), (13, .aload_n 0, 1), (14, .getfield 74, 3), (17, .iload_n 2, 1), (18, .baload, 1), (19, .ifCond .eq 23, 3), (22, .aload_n 0, 1), (23, .iload_n 2, 1), (24, .invokevirtual 237, 3), (27, .ifCond .eq 15, 3), (30, .aload_n 0, 1), (31, .iload_n 2, 1), (32, .invokevirtual 271, 3), (35, .ifCond .eq 7, 3), (38, .iconst 1, 1), (39, .goto 4, 3), (42, .iconst 0, 1), (43, .iadd, 1), (44, .istore_n 1, 1), (45, .iinc 2 1, 3), (48, .goto (-44), 3), (51, .iload_n 1, 1), (52, .ireturn, 1)])
set_option maxRecDepth 100000 in
theorem deX12_wrongRods : ∀ q ∈ miX12_wrongRods.2.2.2, decode miX12_wrongRods.1.2.2 q.1 = .ok q.2 := by decide +kernel
def miX12_wrong : MI := ((yX12_wrong, RX12, cX12_wrong), (2, (some .int)), (0, 0), [(0, .aload_n 0, 1), (1, .iconst 0, 1), (2, .putfield 148, 3), (5, .aload_n 0, 1), (6, .aload_n 0, 1), (7, .iload_n 1, 1), (8, .invokevirtual 274, 3), (11, .putfield 152, 3), (14, .aload_n 0, 1), (15, .getfield 152, 3), (18, .ifCond .le 5, 3), (21, .iconst (-1), 1), (22, .ireturn, 1), (23, .aload_n 0, 1), (24, .invokevirtual 268, 3), (27, .aload_n 0, 1), (28, .iload_n 1, 1), (29, .invokevirtual 277, 3), (32, .aload_n 0, 1), (33, .invokevirtual 280, 3), (36, .ireturn, 1)])
set_option maxRecDepth 100000 in
theorem deX12_wrong : ∀ q ∈ miX12_wrong.2.2.2, decode miX12_wrong.1.2.2 q.1 = .ok q.2 := by decide +kernel
def miX12_canBeLevel : MI := ((yX12_canBeLevel, RX12, cX12_canBeLevel), (2, (some .boolean)), (0, 0), [(0, .aload_n 0, 1), (1, .iload_n 1, 1), (2, .invokevirtual 262, 3), (5, .lconst 0, 1), (6, .lcmp, 1), (7, .ifCond .le 21, 3), (10, .aload_n 0, 1), (11, .iload_n 1, 1), (12, .invokevirtual 262, 3), (15, .aload_n 0, 1), (16, .iload_n 1, 1), (17, .invokevirtual 265, 3), (20, .lcmp, 1), (21, .ifCond .ge 7, 3), (24, .iconst 1, 1), (25, .goto 4, 3), (28, .iconst 0, 1), (29, .ireturn, 1)])
set_option maxRecDepth 100000 in
theorem deX12_canBeLevel : ∀ q ∈ miX12_canBeLevel.2.2.2, decode miX12_canBeLevel.1.2.2 q.1 = .ok q.2 := by decide +kernel
def miX12_tie : MI := ((yX12_tie, RX12, cX12_tie), (5, (some .long)), (0, 0), [(0, .aload_n 0, 1), (1, .iconst 0, 1), (2, .putfield 148, 3), (5, .aload_n 0, 1), (6, .aload_n 0, 1), (7, .iload_n 1, 1), (8, .invokevirtual 240, 3), (11, .putfield 152, 3), (14, .aload_n 0, 1), (15, .getfield 152, 3), (18, .ifCond .le 7, 3), (21, .ldc2_w 167, 3), (24, .lreturn, 1), (25, .iload_n 2, 1), (26, .ifCond .lt 8, 3), (29, .iload_n 2, 1), (30, .iconst 1, 1), (31, .if_icmp .le 11, 3), (34, .aload_n 0, 1), (35, .bipush 7, 2), (37, .invokevirtual 174, 3), (40, .i2l, 1), (41, .lreturn, 1), (42, .aload_n 0, 1), (43, .invokevirtual 268, 3), (46, .aload_n 0, 1), (47, .iload_n 1, 1), (48, .invokevirtual 284, 3), (51, .ifCond .ne 11, 3), (54, .aload_n 0, 1), (55, .bipush 11, 2), (57, .invokevirtual 174, 3), (60, .i2l, 1), (61, .lreturn, 1), (62, .aload_n 0, 1), (63, .iload_n 1, 1), (64, .invokevirtual 262, 3), (67, .aload_n 0, 1), (68, .iload_n 1, 1), (69, .invokevirtual 265, 3), (72, .invokestatic 227, 3), (75, .lstore_n 3, 1), (76, .iload_n 2, 1), (77, .ifCond .ne 11, 3), (80, .aload_n 0, 1), (81, .iload_n 1, 1), (82, .invokevirtual 262, 3), (85, .goto 8, 3), (88, .aload_n 0, 1), (89, .iload_n 1, 1), (90, .invokevirtual 265, 3), (93, .lload_n 3, 1), (94, .ldiv, 1), (95, .lreturn, 1)])
set_option maxRecDepth 100000 in
theorem deX12_tie : ∀ q ∈ miX12_tie.2.2.2, decode miX12_tie.1.2.2 q.1 = .ok q.2 := by decide +kernel
def miX12_all : MI := ((yX12_all, RX12, cX12_all), (10, (some .int)), (0, 0), [(0, .aload_n 0, 1), (1, .iconst 0, 1), (2, .putfield 148, 3), (5, .aload_n 0, 1), (6, .aload_n 0, 1), (7, .iload_n 1, 1), (8, .invokevirtual 274, 3), (11, .putfield 152, 3), (14, .aload_n 0, 1), (15, .getfield 152, 3), (18, .ifCond .le 5, 3), (21, .iconst (-1), 1), (22, .ireturn, 1), (23, .aload_n 0, 1), (24, .invokevirtual 268, 3), (27, .aload_n 0, 1), (28, .iload_n 1, 1), (29, .invokevirtual 277, 3), (32, .iconst 0, 1), (33, .istore_n 2, 1), (34, .iconst 0, 1), (35, .istore_n 3, 1), (36, .iload_n 3, 1), (37, .aload_n 0, 1), (38, .getfield 169, 3), (41, .if_icmp .ge 47, 3), (44, .aload_n 0, 1), (45, .getfield 74, 3), (48, .iload_n 3, 1), (49, .baload, 1), (50, .ifCond .eq 32, 3), (53, .aload_n 0, 1), (54, .iload_n 3, 1), (55, .invokevirtual 237, 3), (58, .ifCond .ne 6, 3), (61, .goto 21, 3), (64, .aload_n 0, 1), (65, .iload_n 3, 1), (66, .invokevirtual 284, 3), (69, .ifCond .ne 10, 3), (72, .aload_n 0, 1), (73, .bipush 11, 2), (75, .invokevirtual 174, 3), (78, .ireturn, 1), (79, .iinc 2 1, 3), (82, .iinc 3 1, 3), (85, .goto (-49), 3), (88, .iconst 0, 1), (89, .istore_n 3, 1), (90, .iload_n 3, 1), (91, .aload_n 0, 1), (92, .getfield 169, 3), (95, .if_icmp .ge 74, 3), (98, .aload_n 0, 1), (99, .getfield 74, 3), (102, .iload_n 3, 1), (103, .baload, 1), (104, .ifCond .eq 59, 3), (107, .aload_n 0, 1), (108, .iload_n 3, 1), (109, .invokevirtual 237, 3), (112, .ifCond .ne 6, 3), (115, .goto 48, 3), (118, .aload_n 0, 1), (119, .iload_n 3, 1), (120, .invokevirtual 262, 3), (123, .lstore 4, 2), (125, .aload_n 0, 1), (126, .iload_n 3, 1), (127, .invokevirtual 265, 3), (130, .lstore 6, 2), (132, .lload 4, 2), (134, .lload 6, 2), (136, .invokestatic 227, 3), (139, .lstore 8, 2), (141, .aload_n 0, 1), (142, .getfield 41, 3), (145, .iload_n 3, 1), (146, .lload 4, 2), (148, .lload 8, 2), (150, .ldiv, 1), (151, .lastore, 1), (152, .aload_n 0, 1), (153, .getfield 44, 3), (156, .iload_n 3, 1), (157, .lload 6, 2), (159, .lload 8, 2), (161, .ldiv, 1), (162, .lastore, 1), (163, .iinc 3 1, 3), (166, .goto (-76), 3), (169, .iload_n 2, 1), (170, .ireturn, 1)])
set_option maxRecDepth 100000 in
theorem deX12_all : ∀ q ∈ miX12_all.2.2.2, decode miX12_all.1.2.2 q.1 = .ok q.2 := by decide +kernel
def miX12_isWhole : MI := ((yX12_isWhole, RX12, cX12_isWhole), (2, (some .boolean)), (0, 0), [(0, .aload_n 0, 1), (1, .getfield 26, 3), (4, .iload_n 1, 1), (5, .iaload, 1), (6, .i2l, 1), (7, .aload_n 0, 1), (8, .getfield 41, 3), (11, .iload_n 1, 1), (12, .laload, 1), (13, .lmul, 1), (14, .aload_n 0, 1), (15, .getfield 44, 3), (18, .iload_n 1, 1), (19, .laload, 1), (20, .lrem, 1), (21, .lconst 0, 1), (22, .lcmp, 1), (23, .ifCond .ne 7, 3), (26, .iconst 1, 1), (27, .goto 4, 3), (30, .iconst 0, 1), (31, .ireturn, 1)])
set_option maxRecDepth 100000 in
theorem deX12_isWhole : ∀ q ∈ miX12_isWhole.2.2.2, decode miX12_isWhole.1.2.2 q.1 = .ok q.2 := by decide +kernel
def miX12_arm : MI := ((yX12_arm, RX12, cX12_arm), (4, (some .int)), (0, 0), [(0, .aload_n 0, 1), (1, .getfield 26, 3), (4, .iload_n 1, 1), (5, .iaload, 1), (6, .i2l, 1), (7, .aload_n 0, 1), (8, .getfield 41, 3), (11, .iload_n 1, 1), (12, .laload, 1), (13, .lmul, 1), (14, .aload_n 0, 1), (15, .getfield 44, 3), (18, .iload_n 1, 1), (19, .laload, 1), (20, .ldiv, 1), (21, .l2i, 1), (22, .istore_n 3, 1), (23, .iload_n 2, 1), (24, .ifCond .ne 7, 3), (27, .iload_n 3, 1), (28, .goto 11, 3), (31, .aload_n 0, 1), (32, .getfield 26, 3), (35, .iload_n 1, 1), (36, .iaload, 1), (37, .iload_n 3, 1), (38, .isub, 1), (39, .ireturn, 1)])
set_option maxRecDepth 100000 in
theorem deX12_arm : ∀ q ∈ miX12_arm.2.2.2, decode miX12_arm.1.2.2 q.1 = .ok q.2 := by decide +kernel
def miX12_arms : MI := ((yX12_arms, RX12, cX12_arms), (7, none), (0, 0), [(0, .aload_n 0, 1), (1, .iconst 1, 1), (2, .putfield 287, 3), (5, .aload_n 0, 1), (6, .iconst 0, 1), (7, .putfield 291, 3), (10, .aload_n 0, 1), (11, .iconst 0, 1), (12, .putfield 294, 3), (15, .iload_n 1, 1), (16, .istore 4, 2), (18, .iload 4, 2), (20, .iload_n 2, 1), (21, .if_icmp .eq 93, 3), (24, .aload_n 0, 1), (25, .getfield 29, 3), (28, .iload 4, 2), (30, .iaload, 1), (31, .istore 5, 2), (33, .iload 5, 2), (35, .iload_n 2, 1), (36, .if_icmp .ne 7, 3), (39, .iload_n 3, 1), (40, .ifCond .eq 67, 3), (43, .aload_n 0, 1), (44, .aload_n 0, 1), (45, .getfield 287, 3), (48, .ifCond .eq 16, 3), (51, .aload_n 0, 1), (52, .iload 5, 2), (54, .invokevirtual 297, 3), (57, .ifCond .eq 7, 3), (60, .iconst 1, 1), (61, .goto 4, 3), (64, .iconst 0, 1), (65, .putfield 287, 3), (68, .aload_n 0, 1), (69, .iload 5, 2), (71, .aload_n 0, 1), (72, .getfield 32, 3), (75, .iload 4, 2), (77, .iaload, 1), (78, .invokevirtual 300, 3), (81, .istore 6, 2), (83, .aload_n 0, 1), (84, .dup, 1), (85, .getfield 291, 3), (88, .iload 6, 2), (90, .iadd, 1), (91, .putfield 291, 3), (94, .aload_n 0, 1), (95, .aload_n 0, 1), (96, .getfield 294, 3), (99, .iload 6, 2), (101, .invokestatic 193, 3), (104, .putfield 294, 3), (107, .iload 5, 2), (109, .istore 4, 2), (111, .goto (-93), 3), (114, .return_, 1)])
set_option maxRecDepth 100000 in
theorem deX12_arms : ∀ q ∈ miX12_arms.2.2.2, decode miX12_arms.1.2.2 q.1 = .ok q.2 := by decide +kernel
def miX12_armsLeast : MI := ((yX12_armsLeast, RX12, cX12_armsLeast), (1, (some .int)), (0, 0), [(0, .iconst 0, 1), (1, .iconst 2, 1), (2, .aload_n 0, 1), (3, .getfield 294, 3), (6, .imul, 1), (7, .aload_n 0, 1), (8, .getfield 291, 3), (11, .isub, 1), (12, .invokestatic 193, 3), (15, .ireturn, 1)])
set_option maxRecDepth 100000 in
theorem deX12_armsLeast : ∀ q ∈ miX12_armsLeast.2.2.2, decode miX12_armsLeast.1.2.2 q.1 = .ok q.2 := by decide +kernel
def miX12_reach : MI := ((yX12_reach, RX12, cX12_reach), (4, (some .int)), (0, 0), [(0, .aload_n 0, 1), (1, .iconst 0, 1), (2, .putfield 148, 3), (5, .aload_n 0, 1), (6, .iconst 0, 1), (7, .putfield 152, 3), (10, .aload_n 0, 1), (11, .iload_n 1, 1), (12, .invokevirtual 222, 3), (15, .ifCond .eq 11, 3), (18, .aload_n 0, 1), (19, .iload_n 2, 1), (20, .invokevirtual 222, 3), (23, .ifCond .ne 9, 3), (26, .aload_n 0, 1), (27, .iconst 2, 1), (28, .invokevirtual 174, 3), (31, .ireturn, 1), (32, .aload_n 0, 1), (33, .iload_n 2, 1), (34, .invokevirtual 237, 3), (37, .ifCond .ne 9, 3), (40, .aload_n 0, 1), (41, .iconst 5, 1), (42, .invokevirtual 174, 3), (45, .ireturn, 1), (46, .iload_n 1, 1), (47, .iload_n 2, 1), (48, .if_icmp .eq 12, 3), (51, .aload_n 0, 1), (52, .iload_n 2, 1), (53, .iload_n 1, 1), (54, .invokevirtual 243, 3), (57, .ifCond .ne 10, 3), (60, .aload_n 0, 1), (61, .bipush 8, 2), (63, .invokevirtual 174, 3), (66, .ireturn, 1), (67, .aload_n 0, 1), (68, .iload_n 1, 1), (69, .iload_n 2, 1), (70, .iconst 1, 1), (71, .invokevirtual 303, 3), (74, .aload_n 0, 1), (75, .getfield 287, 3), (78, .ifCond .ne 10, 3), (81, .aload_n 0, 1), (82, .bipush 9, 2), (84, .invokevirtual 174, 3), (87, .ireturn, 1), (88, .iload_n 3, 1), (89, .ifCond .eq 10, 3), (92, .aload_n 0, 1), (93, .getfield 291, 3), (96, .goto 7, 3), (99, .aload_n 0, 1), (100, .invokevirtual 307, 3), (103, .ireturn, 1)])
set_option maxRecDepth 100000 in
theorem deX12_reach : ∀ q ∈ miX12_reach.2.2.2, decode miX12_reach.1.2.2 q.1 = .ok q.2 := by decide +kernel
def miX12_lowest : MI := ((yX12_lowest, RX12, cX12_lowest), (4, (some .int)), (0, 0), [(0, .aload_n 0, 1), (1, .iconst 0, 1), (2, .putfield 148, 3), (5, .aload_n 0, 1), (6, .aload_n 0, 1), (7, .iload_n 1, 1), (8, .invokevirtual 274, 3), (11, .putfield 152, 3), (14, .aload_n 0, 1), (15, .getfield 152, 3), (18, .ifCond .le 5, 3), (21, .iconst (-1), 1), (22, .ireturn, 1), (23, .aload_n 0, 1), (24, .iload_n 1, 1), (25, .invokevirtual 277, 3), (28, .iconst (-1), 1), (29, .istore_n 2, 1), (30, .iconst 0, 1), (31, .istore_n 3, 1), (32, .iload_n 3, 1), (33, .aload_n 0, 1), (34, .getfield 169, 3), (37, .if_icmp .ge 37, 3), (40, .aload_n 0, 1), (41, .getfield 74, 3), (44, .iload_n 3, 1), (45, .baload, 1), (46, .ifCond .eq 22, 3), (49, .iload_n 2, 1), (50, .ifCond .lt 16, 3), (53, .aload_n 0, 1), (54, .iload_n 3, 1), (55, .invokevirtual 231, 3), (58, .aload_n 0, 1), (59, .iload_n 2, 1), (60, .invokevirtual 231, 3), (63, .if_icmp .le 5, 3), (66, .iload_n 3, 1), (67, .istore_n 2, 1), (68, .iinc 3 1, 3), (71, .goto (-39), 3), (74, .iload_n 2, 1), (75, .ireturn, 1)])
set_option maxRecDepth 100000 in
theorem deX12_lowest : ∀ q ∈ miX12_lowest.2.2.2, decode miX12_lowest.1.2.2 q.1 = .ok q.2 := by decide +kernel
def miX12_lastAbove : MI := ((yX12_lastAbove, RX12, cX12_lastAbove), (4, (some .int)), (0, 0), [(0, .aload_n 0, 1), (1, .getfield 29, 3), (4, .iload_n 1, 1), (5, .iaload, 1), (6, .istore_n 3, 1), (7, .aload_n 0, 1), (8, .iload_n 3, 1), (9, .iload_n 2, 1), (10, .invokevirtual 243, 3), (13, .ifCond .ne 13, 3), (16, .aload_n 0, 1), (17, .getfield 29, 3), (20, .iload_n 3, 1), (21, .iaload, 1), (22, .istore_n 3, 1), (23, .goto (-16), 3), (26, .iload_n 3, 1), (27, .ireturn, 1)])
set_option maxRecDepth 100000 in
theorem deX12_lastAbove : ∀ q ∈ miX12_lastAbove.2.2.2, decode miX12_lastAbove.1.2.2 q.1 = .ok q.2 := by decide +kernel
def miX12_near : MI := ((yX12_near, RX12, cX12_near), (10, (some .int)), (0, 0), [(0, .aload_n 0, 1), (1, .iload_n 1, 1), (2, .iload_n 2, 1), (3, .invokevirtual 310, 3), (6, .istore_n 3, 1), (7, .aload_n 0, 1), (8, .iload_n 1, 1), (9, .iload_n 3, 1), (10, .iconst 0, 1), (11, .invokevirtual 303, 3), (14, .aload_n 0, 1), (15, .getfield 287, 3), (18, .istore 4, 2), (20, .aload_n 0, 1), (21, .invokevirtual 307, 3), (24, .istore 5, 2), (26, .aload_n 0, 1), (27, .getfield 291, 3), (30, .istore 6, 2), (32, .aload_n 0, 1), (33, .iload_n 2, 1), (34, .iload_n 3, 1), (35, .iconst 0, 1), (36, .invokevirtual 303, 3), (39, .iload 4, 2), (41, .ifCond .eq 10, 3), (44, .aload_n 0, 1), (45, .getfield 287, 3), (48, .ifCond .ne 5, 3), (51, .iconst (-1), 1), (52, .ireturn, 1), (53, .aload_n 0, 1), (54, .invokevirtual 307, 3), (57, .istore 7, 2), (59, .aload_n 0, 1), (60, .getfield 291, 3), (63, .istore 8, 2), (65, .aload_n 0, 1), (66, .getfield 26, 3), (69, .iload_n 3, 1), (70, .iaload, 1), (71, .istore 9, 2), (73, .iload 6, 2), (75, .iload 8, 2), (77, .iadd, 1), (78, .iload 9, 2), (80, .if_icmp .lt 27, 3), (83, .iload 5, 2), (85, .iload 8, 2), (87, .isub, 1), (88, .iload 9, 2), (90, .if_icmp .gt 17, 3), (93, .iload 7, 2), (95, .iload 6, 2), (97, .isub, 1), (98, .iload 9, 2), (100, .if_icmp .gt 7, 3), (103, .iconst 1, 1), (104, .goto 4, 3), (107, .iconst 0, 1), (108, .ireturn, 1)])
set_option maxRecDepth 100000 in
theorem deX12_near : ∀ q ∈ miX12_near.2.2.2, decode miX12_near.1.2.2 q.1 = .ok q.2 := by decide +kernel
def miX12_clash : MI := ((yX12_clash, RX12, cX12_clash), (4, (some .int)), (0, 0), [(0, .aload_n 0, 1), (1, .iconst 0, 1), (2, .putfield 148, 3), (5, .aload_n 0, 1), (6, .iconst 0, 1), (7, .putfield 152, 3), (10, .aload_n 0, 1), (11, .iload_n 1, 1), (12, .invokevirtual 222, 3), (15, .ifCond .eq 16, 3), (18, .aload_n 0, 1), (19, .iload_n 2, 1), (20, .invokevirtual 222, 3), (23, .ifCond .eq 8, 3), (26, .iload_n 1, 1), (27, .iload_n 2, 1), (28, .if_icmp .ne 9, 3), (31, .aload_n 0, 1), (32, .iconst 2, 1), (33, .invokevirtual 174, 3), (36, .ireturn, 1), (37, .aload_n 0, 1), (38, .getfield 20, 3), (41, .iload_n 1, 1), (42, .iaload, 1), (43, .iconst 1, 1), (44, .if_icmp .ne 13, 3), (47, .aload_n 0, 1), (48, .getfield 20, 3), (51, .iload_n 2, 1), (52, .iaload, 1), (53, .iconst 1, 1), (54, .if_icmp .eq 9, 3), (57, .aload_n 0, 1), (58, .iconst 5, 1), (59, .invokevirtual 174, 3), (62, .ireturn, 1), (63, .aload_n 0, 1), (64, .iload_n 1, 1), (65, .invokevirtual 234, 3), (68, .aload_n 0, 1), (69, .iload_n 2, 1), (70, .invokevirtual 234, 3), (73, .if_icmp .eq 10, 3), (76, .aload_n 0, 1), (77, .bipush 8, 2), (79, .invokevirtual 174, 3), (82, .ireturn, 1), (83, .aload_n 0, 1), (84, .iload_n 1, 1), (85, .iload_n 2, 1), (86, .invokevirtual 313, 3), (89, .istore_n 3, 1), (90, .iload_n 3, 1), (91, .ifCond .ge 10, 3), (94, .aload_n 0, 1), (95, .bipush 9, 2), (97, .invokevirtual 174, 3), (100, .ireturn, 1), (101, .aload_n 0, 1), (102, .iload_n 1, 1), (103, .invokevirtual 231, 3), (106, .aload_n 0, 1), (107, .iload_n 2, 1), (108, .invokevirtual 231, 3), (111, .if_icmp .ne 7, 3), (114, .iload_n 3, 1), (115, .goto 4, 3), (118, .iconst 0, 1), (119, .ireturn, 1)])
set_option maxRecDepth 100000 in
theorem deX12_clash : ∀ q ∈ miX12_clash.2.2.2, decode miX12_clash.1.2.2 q.1 = .ok q.2 := by decide +kernel
def miX12_wholes : MI := ((yX12_wholes, RX12, cX12_wholes), (4, (some .int)), (0, 0), [(0, .aload_n 0, 1), (1, .iload_n 1, 1), (2, .invokevirtual 274, 3), (5, .istore_n 2, 1), (6, .iload_n 2, 1), (7, .ifCond .le 5, 3), (10, .iload_n 2, 1), (11, .ireturn, 1), (12, .aload_n 0, 1), (13, .iload_n 1, 1), (14, .invokevirtual 277, 3), (17, .iconst 0, 1), (18, .istore_n 3, 1), (19, .iload_n 3, 1), (20, .aload_n 0, 1), (21, .getfield 169, 3), (24, .if_icmp .ge 37, 3), (27, .aload_n 0, 1), (28, .getfield 74, 3), (31, .iload_n 3, 1), (32, .baload, 1), (33, .ifCond .eq 22, 3), (36, .aload_n 0, 1), (37, .iload_n 3, 1), (38, .invokevirtual 237, 3), (41, .ifCond .eq 14, 3), (44, .aload_n 0, 1), (45, .iload_n 3, 1), (46, .invokevirtual 297, 3), (49, .ifCond .ne 6, 3), (52, .bipush 9, 2), (54, .ireturn, 1), (55, .iinc 3 1, 3), (58, .goto (-39), 3), (61, .iconst 0, 1), (62, .ireturn, 1)])
set_option maxRecDepth 100000 in
theorem deX12_wholes : ∀ q ∈ miX12_wholes.2.2.2, decode miX12_wholes.1.2.2 q.1 = .ok q.2 := by decide +kernel
def miX12_findPairs : MI := ((yX12_findPairs, RX12, cX12_findPairs), (3, none), (0, 0), [(0, .aload_n 0, 1), (1, .iconst 0, 1), (2, .putfield 316, 3), (5, .iconst 0, 1), (6, .istore_n 1, 1), (7, .iload_n 1, 1), (8, .aload_n 0, 1), (9, .getfield 169, 3), (12, .if_icmp .ge 111, 3), (15, .aload_n 0, 1), (16, .getfield 74, 3), (19, .iload_n 1, 1), (20, .baload, 1), (21, .ifCond .eq 96, 3), (24, .aload_n 0, 1), (25, .getfield 20, 3), (28, .iload_n 1, 1), (29, .iaload, 1), (30, .iconst 1, 1), (31, .if_icmp .eq 6, 3), (34, .goto 83, 3), (37, .iload_n 1, 1), (38, .iconst 1, 1), (39, .iadd, 1), (40, .istore_n 2, 1), (41, .iload_n 2, 1), (42, .aload_n 0, 1), (43, .getfield 169, 3), (46, .if_icmp .ge 71, 3), (49, .aload_n 0, 1), (50, .getfield 74, 3), (53, .iload_n 2, 1), (54, .baload, 1), (55, .ifCond .eq 56, 3), (58, .aload_n 0, 1), (59, .getfield 20, 3), (62, .iload_n 2, 1), (63, .iaload, 1), (64, .iconst 1, 1), (65, .if_icmp .ne 46, 3), (68, .aload_n 0, 1), (69, .iload_n 1, 1), (70, .iload_n 2, 1), (71, .invokevirtual 313, 3), (74, .iconst 1, 1), (75, .if_icmp .eq 6, 3), (78, .goto 33, 3), (81, .aload_n 0, 1), (82, .getfield 94, 3), (85, .aload_n 0, 1), (86, .getfield 316, 3), (89, .iload_n 1, 1), (90, .iastore, 1), (91, .aload_n 0, 1), (92, .getfield 97, 3), (95, .aload_n 0, 1), (96, .getfield 316, 3), (99, .iload_n 2, 1), (100, .iastore, 1), (101, .aload_n 0, 1), (102, .dup, 1), (103, .getfield 316, 3), (106, .iconst 1, 1), (107, .iadd, 1), (108, .putfield 316, 3), (111, .iinc 2 1, 3), (114, .goto (-73), 3), (117, .iinc 1 1, 3), (120, .goto (-113), 3), (123, .return_, 1)])
set_option maxRecDepth 100000 in
theorem deX12_findPairs : ∀ q ∈ miX12_findPairs.2.2.2, decode miX12_findPairs.1.2.2 q.1 = .ok q.2 := by decide +kernel
def miX12_meets : MI := ((yX12_meets, RX12, cX12_meets), (3, (some .int)), (0, 0), [(0, .aload_n 0, 1), (1, .getfield 169, 3), (4, .iconst 1, 1), (5, .isub, 1), (6, .istore_n 1, 1), (7, .iload_n 1, 1), (8, .ifCond .lt 60, 3), (11, .aload_n 0, 1), (12, .getfield 62, 3), (15, .iload_n 1, 1), (16, .iaload, 1), (17, .istore_n 2, 1), (18, .aload_n 0, 1), (19, .getfield 100, 3), (22, .iload_n 2, 1), (23, .aload_n 0, 1), (24, .getfield 29, 3), (27, .iload_n 2, 1), (28, .iaload, 1), (29, .ifCond .ge 7, 3), (32, .iconst 0, 1), (33, .goto 28, 3), (36, .aload_n 0, 1), (37, .getfield 100, 3), (40, .aload_n 0, 1), (41, .getfield 29, 3), (44, .iload_n 2, 1), (45, .iaload, 1), (46, .iaload, 1), (47, .aload_n 0, 1), (48, .getfield 35, 3), (51, .iload_n 2, 1), (52, .iaload, 1), (53, .iadd, 1), (54, .aload_n 0, 1), (55, .getfield 103, 3), (58, .iload_n 2, 1), (59, .iaload, 1), (60, .iadd, 1), (61, .iastore, 1), (62, .iinc 1 (-1), 3), (65, .goto (-58), 3), (68, .iconst 0, 1), (69, .istore_n 1, 1), (70, .iconst 0, 1), (71, .istore_n 2, 1), (72, .iload_n 2, 1), (73, .aload_n 0, 1), (74, .getfield 316, 3), (77, .if_icmp .ge 42, 3), (80, .iload_n 1, 1), (81, .aload_n 0, 1), (82, .getfield 100, 3), (85, .aload_n 0, 1), (86, .getfield 94, 3), (89, .iload_n 2, 1), (90, .iaload, 1), (91, .iaload, 1), (92, .aload_n 0, 1), (93, .getfield 100, 3), (96, .aload_n 0, 1), (97, .getfield 97, 3), (100, .iload_n 2, 1), (101, .iaload, 1), (102, .iaload, 1), (103, .if_icmp .ne 7, 3), (106, .iconst 1, 1), (107, .goto 4, 3), (110, .iconst 0, 1), (111, .iadd, 1), (112, .istore_n 1, 1), (113, .iinc 2 1, 3), (116, .goto (-44), 3), (119, .iload_n 1, 1), (120, .ireturn, 1)])
set_option maxRecDepth 100000 in
theorem deX12_meets : ∀ q ∈ miX12_meets.2.2.2, decode miX12_meets.1.2.2 q.1 = .ok q.2 := by decide +kernel
def miX12_noMore : MI := ((yX12_noMore, RX12, cX12_noMore), (2, none), (0, 0), [(0, .iconst 0, 1), (1, .istore_n 1, 1), (2, .iload_n 1, 1), (3, .aload_n 0, 1), (4, .getfield 169, 3), (7, .if_icmp .ge 16, 3), (10, .aload_n 0, 1), (11, .getfield 103, 3), (14, .iload_n 1, 1), (15, .iconst 0, 1), (16, .iastore, 1), (17, .iinc 1 1, 3), (20, .goto (-18), 3), (23, .return_, 1)])
set_option maxRecDepth 100000 in
theorem deX12_noMore : ∀ q ∈ miX12_noMore.2.2.2, decode miX12_noMore.1.2.2 q.1 = .ok q.2 := by decide +kernel
def miX12_clashes : MI := ((yX12_clashes, RX12, cX12_clashes), (2, (some .int)), (0, 0), [(0, .aload_n 0, 1), (1, .iconst 0, 1), (2, .putfield 148, 3), (5, .aload_n 0, 1), (6, .aload_n 0, 1), (7, .iload_n 1, 1), (8, .invokevirtual 319, 3), (11, .putfield 152, 3), (14, .aload_n 0, 1), (15, .getfield 152, 3), (18, .ifCond .le 5, 3), (21, .iconst (-1), 1), (22, .ireturn, 1), (23, .aload_n 0, 1), (24, .invokevirtual 252, 3), (27, .aload_n 0, 1), (28, .invokevirtual 322, 3), (31, .aload_n 0, 1), (32, .invokevirtual 325, 3), (35, .aload_n 0, 1), (36, .invokevirtual 328, 3), (39, .ireturn, 1)])
set_option maxRecDepth 100000 in
theorem deX12_clashes : ∀ q ∈ miX12_clashes.2.2.2, decode miX12_clashes.1.2.2 q.1 = .ok q.2 := by decide +kernel
def miX12_clear : MI := ((yX12_clear, RX12, cX12_clear), (6, (some .int)), (0, 0), [(0, .aload_n 0, 1), (1, .iconst 0, 1), (2, .putfield 148, 3), (5, .aload_n 0, 1), (6, .aload_n 0, 1), (7, .iload_n 1, 1), (8, .invokevirtual 319, 3), (11, .putfield 152, 3), (14, .aload_n 0, 1), (15, .getfield 152, 3), (18, .ifCond .le 5, 3), (21, .iconst (-1), 1), (22, .ireturn, 1), (23, .aload_n 0, 1), (24, .invokevirtual 252, 3), (27, .aload_n 0, 1), (28, .invokevirtual 322, 3), (31, .iconst 0, 1), (32, .istore_n 2, 1), (33, .iconst 0, 1), (34, .istore_n 3, 1), (35, .iload_n 3, 1), (36, .aload_n 0, 1), (37, .getfield 169, 3), (40, .if_icmp .ge 52, 3), (43, .aload_n 0, 1), (44, .getfield 74, 3), (47, .iload_n 3, 1), (48, .baload, 1), (49, .ifCond .eq 37, 3), (52, .aload_n 0, 1), (53, .getfield 29, 3), (56, .iload_n 3, 1), (57, .iaload, 1), (58, .ifCond .lt 28, 3), (61, .aload_n 0, 1), (62, .getfield 35, 3), (65, .iload_n 3, 1), (66, .iaload, 1), (67, .sipush 1000, 3), (70, .if_icmp .lt 6, 3), (73, .goto 13, 3), (76, .aload_n 0, 1), (77, .getfield 106, 3), (80, .iload_n 2, 1), (81, .iload_n 3, 1), (82, .iastore, 1), (83, .iinc 2 1, 3), (86, .iinc 3 1, 3), (89, .goto (-54), 3), (92, .iconst 0, 1), (93, .istore_n 3, 1), (94, .iconst 0, 1), (95, .istore 4, 2), (97, .iload 4, 2), (99, .iconst 5, 1), (100, .if_icmp .gt 101, 3), (103, .aload_n 0, 1), (104, .invokevirtual 325, 3), (107, .iload_n 2, 1), (108, .ifCond .gt 8, 3), (111, .iload 4, 2), (113, .ifCond .ne 7, 3), (116, .iconst 1, 1), (117, .goto 4, 3), (120, .iconst 0, 1), (121, .istore 5, 2), (123, .iload_n 2, 1), (124, .ifCond .le 16, 3), (127, .aload_n 0, 1), (128, .getfield 103, 3), (131, .aload_n 0, 1), (132, .getfield 106, 3), (135, .iconst 0, 1), (136, .iaload, 1), (137, .iload 4, 2), (139, .iastore, 1), (140, .iload 5, 2), (142, .ifCond .eq 53, 3), (145, .aload_n 0, 1), (146, .iload_n 2, 1), (147, .invokevirtual 331, 3), (150, .ifCond .eq 35, 3), (153, .iload_n 3, 1), (154, .sipush 20000, 3), (157, .if_icmp .ne 10, 3), (160, .aload_n 0, 1), (161, .bipush 10, 2), (163, .invokevirtual 174, 3), (166, .ireturn, 1), (167, .iinc 3 1, 3), (170, .aload_n 0, 1), (171, .invokevirtual 328, 3), (174, .ifCond .ne 11, 3), (177, .aload_n 0, 1), (178, .iload_n 2, 1), (179, .iload 4, 2), (181, .invokevirtual 334, 3), (184, .ireturn, 1), (185, .aload_n 0, 1), (186, .iload_n 2, 1), (187, .invokevirtual 337, 3), (190, .istore 5, 2), (192, .goto (-52), 3), (195, .iinc 4 1, 3), (198, .goto (-101), 3), (201, .aload_n 0, 1), (202, .bipush 11, 2), (204, .invokevirtual 174, 3), (207, .ireturn, 1)])
set_option maxRecDepth 100000 in
theorem deX12_clear : ∀ q ∈ miX12_clear.2.2.2, decode miX12_clear.1.2.2 q.1 = .ok q.2 := by decide +kernel
def miX12_areThreads : MI := ((yX12_areThreads, RX12, cX12_areThreads), (3, (some .boolean)), (0, 0), [(0, .iconst 0, 1), (1, .istore_n 2, 1), (2, .iload_n 2, 1), (3, .iload_n 1, 1), (4, .if_icmp .ge 40, 3), (7, .aload_n 0, 1), (8, .getfield 35, 3), (11, .aload_n 0, 1), (12, .getfield 106, 3), (15, .iload_n 2, 1), (16, .iaload, 1), (17, .iaload, 1), (18, .aload_n 0, 1), (19, .getfield 103, 3), (22, .aload_n 0, 1), (23, .getfield 106, 3), (26, .iload_n 2, 1), (27, .iaload, 1), (28, .iaload, 1), (29, .iadd, 1), (30, .sipush 1000, 3), (33, .if_icmp .le 5, 3), (36, .iconst 0, 1), (37, .ireturn, 1), (38, .iinc 2 1, 3), (41, .goto (-39), 3), (44, .iconst 1, 1), (45, .ireturn, 1)])
set_option maxRecDepth 100000 in
theorem deX12_areThreads : ∀ q ∈ miX12_areThreads.2.2.2, decode miX12_areThreads.1.2.2 q.1 = .ok q.2 := by decide +kernel
def miX12_lengthen : MI := ((yX12_lengthen, RX12, cX12_lengthen), (4, (some .int)), (0, 0), [(0, .iconst 0, 1), (1, .istore_n 3, 1), (2, .iload_n 3, 1), (3, .iload_n 1, 1), (4, .if_icmp .ge 34, 3), (7, .aload_n 0, 1), (8, .getfield 35, 3), (11, .aload_n 0, 1), (12, .getfield 106, 3), (15, .iload_n 3, 1), (16, .iaload, 1), (17, .dup2, 1), (18, .iaload, 1), (19, .aload_n 0, 1), (20, .getfield 103, 3), (23, .aload_n 0, 1), (24, .getfield 106, 3), (27, .iload_n 3, 1), (28, .iaload, 1), (29, .iaload, 1), (30, .iadd, 1), (31, .iastore, 1), (32, .iinc 3 1, 3), (35, .goto (-33), 3), (38, .iload_n 2, 1), (39, .ireturn, 1)])
set_option maxRecDepth 100000 in
theorem deX12_lengthen : ∀ q ∈ miX12_lengthen.2.2.2, decode miX12_lengthen.1.2.2 q.1 = .ok q.2 := by decide +kernel
def miX12_nextChoice : MI := ((yX12_nextChoice, RX12, cX12_nextChoice), (4, (some .boolean)), (0, 0), [(0, .iload_n 1, 1), (1, .ifCond .le 19, 3), (4, .aload_n 0, 1), (5, .getfield 103, 3), (8, .aload_n 0, 1), (9, .getfield 106, 3), (12, .iload_n 1, 1), (13, .iconst 1, 1), (14, .isub, 1), (15, .iaload, 1), (16, .iaload, 1), (17, .goto 4, 3), (20, .iconst 0, 1), (21, .istore_n 2, 1), (22, .iload_n 1, 1), (23, .iconst 2, 1), (24, .isub, 1), (25, .istore_n 3, 1), (26, .iload_n 3, 1), (27, .ifCond .lt 23, 3), (30, .aload_n 0, 1), (31, .getfield 103, 3), (34, .aload_n 0, 1), (35, .getfield 106, 3), (38, .iload_n 3, 1), (39, .iaload, 1), (40, .iaload, 1), (41, .ifCond .ne 9, 3), (44, .iinc 3 (-1), 3), (47, .goto (-21), 3), (50, .iload_n 3, 1), (51, .ifCond .ge 5, 3), (54, .iconst 0, 1), (55, .ireturn, 1), (56, .aload_n 0, 1), (57, .getfield 103, 3), (60, .aload_n 0, 1), (61, .getfield 106, 3), (64, .iload_n 1, 1), (65, .iconst 1, 1), (66, .isub, 1), (67, .iaload, 1), (68, .iconst 0, 1), (69, .iastore, 1), (70, .aload_n 0, 1), (71, .getfield 103, 3), (74, .aload_n 0, 1), (75, .getfield 106, 3), (78, .iload_n 3, 1), (79, .iaload, 1), (80, .dup2, 1), (81, .iaload, 1), (82, .iconst 1, 1), (83, .isub, 1), (84, .iastore, 1), (85, .aload_n 0, 1), (86, .getfield 103, 3), (89, .aload_n 0, 1), (90, .getfield 106, 3), (93, .iload_n 3, 1), (94, .iconst 1, 1), (95, .iadd, 1), (96, .iaload, 1), (97, .iload_n 2, 1), (98, .iconst 1, 1), (99, .iadd, 1), (100, .iastore, 1), (101, .iconst 1, 1), (102, .ireturn, 1)])
set_option maxRecDepth 100000 in
theorem deX12_nextChoice : ∀ q ∈ miX12_nextChoice.2.2.2, decode miX12_nextChoice.1.2.2 q.1 = .ok q.2 := by decide +kernel
def miX12_shapes : MI := ((yX12_shapes, RX12, cX12_shapes), (8, (some .int)), (0, 0), [(0, .aload_n 0, 1), (1, .iconst 0, 1), (2, .putfield 340, 3), (5, .iconst 1, 1), (6, .istore_n 2, 1), (7, .aload_n 0, 1), (8, .getfield 121, 3), (11, .iconst 0, 1), (12, .iload_n 1, 1), (13, .iastore, 1), (14, .aload_n 0, 1), (15, .getfield 124, 3), (18, .iconst 0, 1), (19, .iconst (-1), 1), (20, .iastore, 1), (21, .aload_n 0, 1), (22, .getfield 109, 3), (25, .iload_n 1, 1), (26, .lconst 1, 1), (27, .lastore, 1), (28, .aload_n 0, 1), (29, .getfield 112, 3), (32, .iload_n 1, 1), (33, .lconst 1, 1), (34, .lastore, 1), (35, .iload_n 2, 1), (36, .ifCond .le 379, 3), (39, .iinc 2 (-1), 3), (42, .aload_n 0, 1), (43, .getfield 121, 3), (46, .iload_n 2, 1), (47, .iaload, 1), (48, .istore_n 3, 1), (49, .aload_n 0, 1), (50, .getfield 124, 3), (53, .iload_n 2, 1), (54, .iaload, 1), (55, .ifCond .lt 132, 3), (58, .aload_n 0, 1), (59, .getfield 340, 3), (62, .bipush 8, 2), (64, .if_icmp .ne 6, 3), (67, .bipush 9, 2), (69, .ireturn, 1), (70, .aload_n 0, 1), (71, .getfield 127, 3), (74, .aload_n 0, 1), (75, .getfield 340, 3), (78, .aload_n 0, 1), (79, .getfield 109, 3), (82, .iload_n 3, 1), (83, .laload, 1), (84, .aload_n 0, 1), (85, .iload_n 3, 1), (86, .iconst 1, 1), (87, .aload_n 0, 1), (88, .getfield 124, 3), (91, .iload_n 2, 1), (92, .iaload, 1), (93, .isub, 1), (94, .invokevirtual 300, 3), (97, .i2l, 1), (98, .lmul, 1), (99, .lastore, 1), (100, .aload_n 0, 1), (101, .getfield 130, 3), (104, .aload_n 0, 1), (105, .getfield 340, 3), (108, .aload_n 0, 1), (109, .getfield 112, 3), (112, .iload_n 3, 1), (113, .laload, 1), (114, .aload_n 0, 1), (115, .getfield 26, 3), (118, .iload_n 3, 1), (119, .iaload, 1), (120, .i2l, 1), (121, .lmul, 1), (122, .lastore, 1), (123, .aload_n 0, 1), (124, .getfield 127, 3), (127, .aload_n 0, 1), (128, .getfield 340, 3), (131, .laload, 1), (132, .aload_n 0, 1), (133, .getfield 130, 3), (136, .aload_n 0, 1), (137, .getfield 340, 3), (140, .laload, 1), (141, .invokestatic 227, 3), (144, .lstore 4, 2), (146, .aload_n 0, 1), (147, .getfield 127, 3), (150, .aload_n 0, 1), (151, .getfield 340, 3), (154, .dup2, 1), (155, .laload, 1), (156, .lload 4, 2), (158, .ldiv, 1), (159, .lastore, 1), (160, .aload_n 0, 1), (161, .getfield 130, 3), (164, .aload_n 0, 1), (165, .getfield 340, 3), (168, .dup2, 1), (169, .laload, 1), (170, .lload 4, 2), (172, .ldiv, 1), (173, .lastore, 1), (174, .aload_n 0, 1), (175, .dup, 1), (176, .getfield 340, 3), (179, .iconst 1, 1), (180, .iadd, 1), (181, .putfield 340, 3), (184, .goto (-149), 3), (187, .aload_n 0, 1), (188, .iload_n 3, 1), (189, .invokevirtual 237, 3), (192, .ifCond .eq 20, 3), (195, .aload_n 0, 1), (196, .getfield 23, 3), (199, .iload_n 3, 1), (200, .iaload, 1), (201, .ifCond .ne 11, 3), (204, .aload_n 0, 1), (205, .iload_n 3, 1), (206, .invokevirtual 297, 3), (209, .ifCond .ne 6, 3), (212, .bipush 9, 2), (214, .ireturn, 1), (215, .iconst 1, 1), (216, .istore 4, 2), (218, .iload 4, 2), (220, .ifCond .lt 192, 3), (223, .iload 4, 2), (225, .ifCond .ne 12, 3), (228, .aload_n 0, 1), (229, .getfield 47, 3), (232, .iload_n 3, 1), (233, .iaload, 1), (234, .goto 9, 3), (237, .aload_n 0, 1), (238, .getfield 50, 3), (241, .iload_n 3, 1), (242, .iaload, 1), (243, .istore 5, 2), (245, .aload_n 0, 1), (246, .getfield 121, 3), (249, .iload_n 2, 1), (250, .iload 5, 2), (252, .ifCond .ge 7, 3), (255, .iload_n 3, 1), (256, .goto 5, 3), (259, .iload 5, 2), (261, .iastore, 1), (262, .aload_n 0, 1), (263, .getfield 124, 3), (266, .iload_n 2, 1), (267, .iload 5, 2), (269, .ifCond .ge 8, 3), (272, .iload 4, 2), (274, .goto 4, 3), (277, .iconst (-1), 1), (278, .iastore, 1), (279, .iinc 2 1, 3), (282, .iload 5, 2), (284, .ifCond .ge 6, 3), (287, .goto 119, 3), (290, .aload_n 0, 1), (291, .getfield 109, 3), (294, .iload 5, 2), (296, .aload_n 0, 1), (297, .getfield 109, 3), (300, .iload_n 3, 1), (301, .laload, 1), (302, .aload_n 0, 1), (303, .iload_n 3, 1), (304, .iconst 1, 1), (305, .iload 4, 2), (307, .isub, 1), (308, .invokevirtual 300, 3), (311, .i2l, 1), (312, .lmul, 1), (313, .lastore, 1), (314, .aload_n 0, 1), (315, .getfield 112, 3), (318, .iload 5, 2), (320, .aload_n 0, 1), (321, .getfield 112, 3), (324, .iload_n 3, 1), (325, .laload, 1), (326, .aload_n 0, 1), (327, .getfield 26, 3), (330, .iload_n 3, 1), (331, .iaload, 1), (332, .i2l, 1), (333, .lmul, 1), (334, .lastore, 1), (335, .aload_n 0, 1), (336, .getfield 109, 3), (339, .iload 5, 2), (341, .laload, 1), (342, .aload_n 0, 1), (343, .getfield 112, 3), (346, .iload 5, 2), (348, .laload, 1), (349, .invokestatic 227, 3), (352, .lstore 6, 2), (354, .aload_n 0, 1), (355, .getfield 109, 3), (358, .iload 5, 2), (360, .dup2, 1), (361, .laload, 1), (362, .lload 6, 2), (364, .ldiv, 1), (365, .lastore, 1), (366, .aload_n 0, 1), (367, .getfield 112, 3), (370, .iload 5, 2), (372, .dup2, 1), (373, .laload, 1), (374, .lload 6, 2), (376, .ldiv, 1), (377, .lastore, 1), (378, .aload_n 0, 1), (379, .getfield 112, 3), (382, .iload 5, 2), (384, .laload, 1), (385, .ldc2_w 343, 3), (388, .aload_n 0, 1), (389, .getfield 109, 3), (392, .iload 5, 2), (394, .laload, 1), (395, .lmul, 1), (396, .lcmp, 1), (397, .ifCond .le 9, 3), (400, .aload_n 0, 1), (401, .iload_n 1, 1), (402, .invokevirtual 345, 3), (405, .ireturn, 1), (406, .iinc 4 (-1), 3), (409, .goto (-191), 3), (412, .goto (-377), 3), (415, .aload_n 0, 1), (416, .getfield 340, 3), (419, .iconst 2, 1), (420, .if_icmp .ge 8, 3), (423, .bipush 9, 2), (425, .goto 4, 3), (428, .iconst 0, 1), (429, .ireturn, 1)])
set_option maxRecDepth 100000 in
theorem deX12_shapes : ∀ q ∈ miX12_shapes.2.2.2, decode miX12_shapes.1.2.2 q.1 = .ok q.2 := by decide +kernel
def miX12_shapesOn : MI := ((yX12_shapesOn, RX12, cX12_shapesOn), (3, (some .int)), (0, 0), [(0, .aload_n 0, 1), (1, .iconst 1, 1), (2, .putfield 348, 3), (5, .aload_n 0, 1), (6, .iconst 0, 1), (7, .putfield 340, 3), (10, .iconst 0, 1), (11, .istore_n 2, 1), (12, .iload_n 2, 1), (13, .aload_n 0, 1), (14, .getfield 169, 3), (17, .if_icmp .ge 95, 3), (20, .aload_n 0, 1), (21, .iload_n 1, 1), (22, .iload_n 2, 1), (23, .invokevirtual 243, 3), (26, .ifCond .ne 6, 3), (29, .goto 77, 3), (32, .aload_n 0, 1), (33, .iload_n 2, 1), (34, .invokevirtual 237, 3), (37, .ifCond .eq 20, 3), (40, .aload_n 0, 1), (41, .getfield 23, 3), (44, .iload_n 2, 1), (45, .iaload, 1), (46, .ifCond .ne 11, 3), (49, .aload_n 0, 1), (50, .iload_n 2, 1), (51, .invokevirtual 297, 3), (54, .ifCond .ne 6, 3), (57, .bipush 9, 2), (59, .ireturn, 1), (60, .aload_n 0, 1), (61, .dup, 1), (62, .getfield 340, 3), (65, .aload_n 0, 1), (66, .getfield 47, 3), (69, .iload_n 2, 1), (70, .iaload, 1), (71, .ifCond .ge 7, 3), (74, .iconst 1, 1), (75, .goto 4, 3), (78, .iconst 0, 1), (79, .iadd, 1), (80, .putfield 340, 3), (83, .aload_n 0, 1), (84, .dup, 1), (85, .getfield 340, 3), (88, .aload_n 0, 1), (89, .getfield 50, 3), (92, .iload_n 2, 1), (93, .iaload, 1), (94, .ifCond .ge 7, 3), (97, .iconst 1, 1), (98, .goto 4, 3), (101, .iconst 0, 1), (102, .iadd, 1), (103, .putfield 340, 3), (106, .iinc 2 1, 3), (109, .goto (-97), 3), (112, .aload_n 0, 1), (113, .getfield 340, 3), (116, .iconst 2, 1), (117, .if_icmp .lt 12, 3), (120, .aload_n 0, 1), (121, .getfield 340, 3), (124, .bipush 8, 2), (126, .if_icmp .le 8, 3), (129, .bipush 9, 2), (131, .goto 4, 3), (134, .iconst 0, 1), (135, .ireturn, 1)])
set_option maxRecDepth 100000 in
theorem deX12_shapesOn : ∀ q ∈ miX12_shapesOn.2.2.2, decode miX12_shapesOn.1.2.2 q.1 = .ok q.2 := by decide +kernel
def miX12_parted : MI := ((yX12_parted, RX12, cX12_parted), (9, (some .int)), (0, 0), [(0, .iload_n 2, 1), (1, .ifCond .lt 9, 3), (4, .iload_n 2, 1), (5, .bipush 6, 2), (7, .if_icmp .lt 5, 3), (10, .iconst 1, 1), (11, .ireturn, 1), (12, .aload_n 0, 1), (13, .iload_n 1, 1), (14, .invokevirtual 222, 3), (17, .ifCond .ne 5, 3), (20, .iconst 2, 1), (21, .ireturn, 1), (22, .aload_n 0, 1), (23, .getfield 13, 3), (26, .iload_n 2, 1), (27, .iaload, 1), (28, .ifCond .ge 5, 3), (31, .iconst 3, 1), (32, .ireturn, 1), (33, .iload 4, 2), (35, .ifCond .eq 19, 3), (38, .iload_n 3, 1), (39, .ifCond .lt 13, 3), (42, .iload_n 3, 1), (43, .aload_n 0, 1), (44, .getfield 13, 3), (47, .iload_n 2, 1), (48, .iaload, 1), (49, .if_icmp .lt 5, 3), (52, .iconst 4, 1), (53, .ireturn, 1), (54, .aload_n 0, 1), (55, .iload_n 1, 1), (56, .invokevirtual 237, 3), (59, .ifCond .ne 5, 3), (62, .iconst 5, 1), (63, .ireturn, 1), (64, .aload_n 0, 1), (65, .aload_n 0, 1), (66, .getfield 13, 3), (69, .iload_n 2, 1), (70, .iaload, 1), (71, .putfield 351, 3), (74, .aload_n 0, 1), (75, .getfield 351, 3), (78, .iconst 2, 1), (79, .if_icmp .lt 12, 3), (82, .aload_n 0, 1), (83, .getfield 351, 3), (86, .bipush 10, 2), (88, .if_icmp .le 6, 3), (91, .bipush 7, 2), (93, .ireturn, 1), (94, .lconst 0, 1), (95, .lstore 5, 2), (97, .iconst 0, 1), (98, .istore 7, 2), (100, .iload 7, 2), (102, .aload_n 0, 1), (103, .getfield 351, 3), (106, .if_icmp .ge 69, 3), (109, .aload_n 0, 1), (110, .getfield 118, 3), (113, .iload 7, 2), (115, .aload_n 0, 1), (116, .getfield 16, 3), (119, .bipush 16, 2), (121, .iload_n 2, 1), (122, .imul, 1), (123, .iload 7, 2), (125, .iadd, 1), (126, .laload, 1), (127, .lastore, 1), (128, .aload_n 0, 1), (129, .getfield 118, 3), (132, .iload 7, 2), (134, .laload, 1), (135, .lconst 1, 1), (136, .lcmp, 1), (137, .ifCond .lt 17, 3), (140, .aload_n 0, 1), (141, .getfield 118, 3), (144, .iload 7, 2), (146, .laload, 1), (147, .ldc2_w 172, 3), (150, .lcmp, 1), (151, .ifCond .le 6, 3), (154, .bipush 7, 2), (156, .ireturn, 1), (157, .lload 5, 2), (159, .aload_n 0, 1), (160, .getfield 118, 3), (163, .iload 7, 2), (165, .laload, 1), (166, .ladd, 1), (167, .lstore 5, 2), (169, .iinc 7 1, 3), (172, .goto (-72), 3), (175, .aload_n 0, 1), (176, .getfield 29, 3), (179, .iload_n 1, 1), (180, .iaload, 1), (181, .ifCond .lt 6, 3), (184, .bipush 8, 2), (186, .ireturn, 1), (187, .aload_n 0, 1), (188, .iconst 0, 1), (189, .putfield 348, 3), (192, .aload_n 0, 1), (193, .iload_n 1, 1), (194, .invokevirtual 354, 3), (197, .istore 7, 2), (199, .iload 7, 2), (201, .ifCond .le 6, 3), (204, .iload 7, 2), (206, .ireturn, 1), (207, .iconst 0, 1), (208, .istore 8, 2), (210, .iload 8, 2), (212, .aload_n 0, 1), (213, .getfield 340, 3), (216, .if_icmp .ge 83, 3), (219, .aload_n 0, 1), (220, .getfield 115, 3), (223, .iload 8, 2), (225, .aload_n 0, 1), (226, .getfield 348, 3), (229, .ifCond .ne 39, 3), (232, .aload_n 0, 1), (233, .getfield 130, 3), (236, .iload 8, 2), (238, .laload, 1), (239, .lload 5, 2), (241, .lcmp, 1), (242, .ifCond .gt 26, 3), (245, .lload 5, 2), (247, .aload_n 0, 1), (248, .getfield 127, 3), (251, .iload 8, 2), (253, .laload, 1), (254, .lmul, 1), (255, .aload_n 0, 1), (256, .getfield 130, 3), (259, .iload 8, 2), (261, .laload, 1), (262, .lrem, 1), (263, .lconst 0, 1), (264, .lcmp, 1), (265, .ifCond .eq 9, 3), (268, .ldc2_w 167, 3), (271, .goto 21, 3), (274, .lload 5, 2), (276, .aload_n 0, 1), (277, .getfield 127, 3), (280, .iload 8, 2), (282, .laload, 1), (283, .lmul, 1), (284, .aload_n 0, 1), (285, .getfield 130, 3), (288, .iload 8, 2), (290, .laload, 1), (291, .ldiv, 1), (292, .lastore, 1), (293, .iinc 8 1, 3), (296, .goto (-86), 3), (299, .iconst 0, 1), (300, .ireturn, 1)])
set_option maxRecDepth 100000 in
theorem deX12_parted : ∀ q ∈ miX12_parted.2.2.2, decode miX12_parted.1.2.2 q.1 = .ok q.2 := by decide +kernel
def miX12_isFirstOf : MI := ((yX12_isFirstOf, RX12, cX12_isFirstOf), (5, (some .boolean)), (0, 0), [(0, .iconst 0, 1), (1, .istore_n 3, 1), (2, .iload_n 3, 1), (3, .aload_n 0, 1), (4, .getfield 351, 3), (7, .if_icmp .ge 73, 3), (10, .iload_n 1, 1), (11, .iload_n 3, 1), (12, .ishr, 1), (13, .iconst 1, 1), (14, .iand, 1), (15, .ifCond .ne 6, 3), (18, .goto 56, 3), (21, .iconst 0, 1), (22, .istore 4, 2), (24, .iload 4, 2), (26, .iload_n 3, 1), (27, .if_icmp .ge 47, 3), (30, .aload_n 0, 1), (31, .getfield 118, 3), (34, .iload 4, 2), (36, .laload, 1), (37, .aload_n 0, 1), (38, .getfield 118, 3), (41, .iload_n 3, 1), (42, .laload, 1), (43, .lcmp, 1), (44, .ifCond .ne 24, 3), (47, .iload_n 2, 1), (48, .iload 4, 2), (50, .ishr, 1), (51, .iconst 1, 1), (52, .iand, 1), (53, .iconst 1, 1), (54, .if_icmp .ne 14, 3), (57, .iload_n 1, 1), (58, .iload 4, 2), (60, .ishr, 1), (61, .iconst 1, 1), (62, .iand, 1), (63, .ifCond .ne 5, 3), (66, .iconst 0, 1), (67, .ireturn, 1), (68, .iinc 4 1, 3), (71, .goto (-47), 3), (74, .iinc 3 1, 3), (77, .goto (-75), 3), (80, .iconst 1, 1), (81, .ireturn, 1)])
set_option maxRecDepth 100000 in
theorem deX12_isFirstOf : ∀ q ∈ miX12_isFirstOf.2.2.2, decode miX12_isFirstOf.1.2.2 q.1 = .ok q.2 := by decide +kernel
def miX12_waysOf : MI := ((yX12_waysOf, RX12, cX12_waysOf), (6, (some .int)), (0, 0), [(0, .iconst 0, 1), (1, .istore_n 2, 1), (2, .iload_n 2, 1), (3, .iconst 1, 1), (4, .aload_n 0, 1), (5, .getfield 351, 3), (8, .ishl, 1), (9, .if_icmp .ge 84, 3), (12, .aload_n 0, 1), (13, .getfield 136, 3), (16, .iload_n 2, 1), (17, .lconst 0, 1), (18, .lastore, 1), (19, .iconst 0, 1), (20, .istore_n 3, 1), (21, .iload_n 3, 1), (22, .aload_n 0, 1), (23, .getfield 351, 3), (26, .if_icmp .ge 37, 3), (29, .aload_n 0, 1), (30, .getfield 136, 3), (33, .iload_n 2, 1), (34, .dup2, 1), (35, .laload, 1), (36, .iload_n 2, 1), (37, .iload_n 3, 1), (38, .ishr, 1), (39, .iconst 1, 1), (40, .iand, 1), (41, .iconst 1, 1), (42, .if_icmp .ne 12, 3), (45, .aload_n 0, 1), (46, .getfield 118, 3), (49, .iload_n 3, 1), (50, .laload, 1), (51, .goto 4, 3), (54, .lconst 0, 1), (55, .ladd, 1), (56, .lastore, 1), (57, .iinc 3 1, 3), (60, .goto (-39), 3), (63, .aload_n 0, 1), (64, .getfield 133, 3), (67, .sipush 1024, 3), (70, .aload_n 0, 1), (71, .getfield 340, 3), (74, .imul, 1), (75, .iload_n 2, 1), (76, .iadd, 1), (77, .iload_n 2, 1), (78, .ifCond .ne 7, 3), (81, .iconst 1, 1), (82, .goto 4, 3), (85, .iconst 0, 1), (86, .iastore, 1), (87, .iinc 2 1, 3), (90, .goto (-88), 3), (93, .aload_n 0, 1), (94, .getfield 340, 3), (97, .iconst 1, 1), (98, .isub, 1), (99, .istore_n 2, 1), (100, .iload_n 2, 1), (101, .ifCond .lt 175, 3), (104, .iconst 0, 1), (105, .istore_n 3, 1), (106, .iload_n 3, 1), (107, .iconst 1, 1), (108, .aload_n 0, 1), (109, .getfield 351, 3), (112, .ishl, 1), (113, .if_icmp .ge 157, 3), (116, .iload_n 3, 1), (117, .iload_n 1, 1), (118, .iand, 1), (119, .iload_n 3, 1), (120, .if_icmp .eq 6, 3), (123, .goto 141, 3), (126, .iconst 0, 1), (127, .istore 4, 2), (129, .iload_n 3, 1), (130, .istore 5, 2), (132, .iload 5, 2), (134, .ifCond .le 86, 3), (137, .aload_n 0, 1), (138, .getfield 136, 3), (141, .iload 5, 2), (143, .laload, 1), (144, .aload_n 0, 1), (145, .getfield 115, 3), (148, .iload_n 2, 1), (149, .laload, 1), (150, .lcmp, 1), (151, .ifCond .ne 58, 3), (154, .aload_n 0, 1), (155, .getfield 133, 3), (158, .sipush 1024, 3), (161, .iload_n 2, 1), (162, .iconst 1, 1), (163, .iadd, 1), (164, .imul, 1), (165, .iload_n 3, 1), (166, .iload 5, 2), (168, .ixor, 1), (169, .iadd, 1), (170, .iaload, 1), (171, .ifCond .eq 38, 3), (174, .aload_n 0, 1), (175, .iload 5, 2), (177, .iload_n 3, 1), (178, .invokevirtual 357, 3), (181, .ifCond .ne 6, 3), (184, .goto 25, 3), (187, .iload 4, 2), (189, .aload_n 0, 1), (190, .getfield 133, 3), (193, .sipush 1024, 3), (196, .iload_n 2, 1), (197, .iconst 1, 1), (198, .iadd, 1), (199, .imul, 1), (200, .iload_n 3, 1), (201, .iload 5, 2), (203, .ixor, 1), (204, .iadd, 1), (205, .iaload, 1), (206, .iadd, 1), (207, .istore 4, 2), (209, .iload 5, 2), (211, .iconst 1, 1), (212, .isub, 1), (213, .iload_n 3, 1), (214, .iand, 1), (215, .istore 5, 2), (217, .goto (-85), 3), (220, .aload_n 0, 1), (221, .getfield 115, 3), (224, .iload_n 2, 1), (225, .laload, 1), (226, .lconst 0, 1), (227, .lcmp, 1), (228, .ifCond .ne 22, 3), (231, .iload 4, 2), (233, .aload_n 0, 1), (234, .getfield 133, 3), (237, .sipush 1024, 3), (240, .iload_n 2, 1), (241, .iconst 1, 1), (242, .iadd, 1), (243, .imul, 1), (244, .iload_n 3, 1), (245, .iadd, 1), (246, .iaload, 1), (247, .iadd, 1), (248, .istore 4, 2), (250, .aload_n 0, 1), (251, .getfield 133, 3), (254, .sipush 1024, 3), (257, .iload_n 2, 1), (258, .imul, 1), (259, .iload_n 3, 1), (260, .iadd, 1), (261, .iload 4, 2), (263, .iastore, 1), (264, .iinc 3 1, 3), (267, .goto (-161), 3), (270, .iinc 2 (-1), 3), (273, .goto (-173), 3), (276, .aload_n 0, 1), (277, .getfield 133, 3), (280, .iload_n 1, 1), (281, .iaload, 1), (282, .ireturn, 1)])
set_option maxRecDepth 100000 in
theorem deX12_waysOf : ∀ q ∈ miX12_waysOf.2.2.2, decode miX12_waysOf.1.2.2 q.1 = .ok q.2 := by decide +kernel
def miX12_ways : MI := ((yX12_ways, RX12, cX12_ways), (3, (some .int)), (0, 0), [(0, .aload_n 0, 1), (1, .iconst 0, 1), (2, .putfield 148, 3), (5, .aload_n 0, 1), (6, .aload_n 0, 1), (7, .iload_n 1, 1), (8, .iload_n 2, 1), (9, .iconst 0, 1), (10, .iconst 0, 1), (11, .invokevirtual 360, 3), (14, .putfield 152, 3), (17, .aload_n 0, 1), (18, .getfield 152, 3), (21, .ifCond .le 7, 3), (24, .iconst (-1), 1), (25, .goto 15, 3), (28, .aload_n 0, 1), (29, .iconst 1, 1), (30, .aload_n 0, 1), (31, .getfield 351, 3), (34, .ishl, 1), (35, .iconst 1, 1), (36, .isub, 1), (37, .invokevirtual 364, 3), (40, .ireturn, 1)])
set_option maxRecDepth 100000 in
theorem deX12_ways : ∀ q ∈ miX12_ways.2.2.2, decode miX12_ways.1.2.2 q.1 = .ok q.2 := by decide +kernel
def miX12_fill : MI := ((yX12_fill, RX12, cX12_fill), (8, (some .int)), (0, 0), [(0, .aload_n 0, 1), (1, .iconst 0, 1), (2, .putfield 148, 3), (5, .aload_n 0, 1), (6, .aload_n 0, 1), (7, .iload_n 1, 1), (8, .iload_n 2, 1), (9, .iload_n 3, 1), (10, .iconst 1, 1), (11, .invokevirtual 360, 3), (14, .putfield 152, 3), (17, .aload_n 0, 1), (18, .getfield 152, 3), (21, .ifCond .le 5, 3), (24, .iconst (-1), 1), (25, .ireturn, 1), (26, .iconst 1, 1), (27, .aload_n 0, 1), (28, .getfield 351, 3), (31, .ishl, 1), (32, .iconst 1, 1), (33, .isub, 1), (34, .istore 4, 2), (36, .aload_n 0, 1), (37, .iload 4, 2), (39, .invokevirtual 364, 3), (42, .ifCond .ne 10, 3), (45, .aload_n 0, 1), (46, .bipush 11, 2), (48, .invokevirtual 174, 3), (51, .ireturn, 1), (52, .iconst (-1), 1), (53, .istore 5, 2), (55, .iconst 0, 1), (56, .istore 6, 2), (58, .iload 6, 2), (60, .iload_n 3, 1), (61, .if_icmp .gt 115, 3), (64, .iload 4, 2), (66, .iconst 1, 1), (67, .iload 6, 2), (69, .ishl, 1), (70, .ixor, 1), (71, .istore 4, 2), (73, .iconst (-1), 1), (74, .istore 5, 2), (76, .iconst 0, 1), (77, .istore 7, 2), (79, .iload 7, 2), (81, .aload_n 0, 1), (82, .getfield 340, 3), (85, .if_icmp .ge 85, 3), (88, .iload 5, 2), (90, .ifCond .ge 80, 3), (93, .aload_n 0, 1), (94, .getfield 115, 3), (97, .iload 7, 2), (99, .laload, 1), (100, .aload_n 0, 1), (101, .getfield 118, 3), (104, .iload 6, 2), (106, .laload, 1), (107, .lcmp, 1), (108, .ifCond .ge 6, 3), (111, .goto 53, 3), (114, .aload_n 0, 1), (115, .getfield 115, 3), (118, .iload 7, 2), (120, .dup2, 1), (121, .laload, 1), (122, .aload_n 0, 1), (123, .getfield 118, 3), (126, .iload 6, 2), (128, .laload, 1), (129, .lsub, 1), (130, .lastore, 1), (131, .aload_n 0, 1), (132, .iload 4, 2), (134, .invokevirtual 364, 3), (137, .ifCond .le 10, 3), (140, .iload 7, 2), (142, .istore 5, 2), (144, .goto 20, 3), (147, .aload_n 0, 1), (148, .getfield 115, 3), (151, .iload 7, 2), (153, .dup2, 1), (154, .laload, 1), (155, .aload_n 0, 1), (156, .getfield 118, 3), (159, .iload 6, 2), (161, .laload, 1), (162, .ladd, 1), (163, .lastore, 1), (164, .iinc 7 1, 3), (167, .goto (-88), 3), (170, .iinc 6 1, 3), (173, .goto (-115), 3), (176, .iload 5, 2), (178, .ireturn, 1)])
set_option maxRecDepth 100000 in
theorem deX12_fill : ∀ q ∈ miX12_fill.2.2.2, decode miX12_fill.1.2.2 q.1 = .ok q.2 := by decide +kernel
def miX12_fewest : MI := ((yX12_fewest, RX12, cX12_fewest), (8, (some .int)), (0, 0), [(0, .aload_n 0, 1), (1, .iconst 0, 1), (2, .putfield 148, 3), (5, .aload_n 0, 1), (6, .iconst 0, 1), (7, .putfield 152, 3), (10, .aload_n 0, 1), (11, .iload_n 1, 1), (12, .invokevirtual 222, 3), (15, .ifCond .ne 9, 3), (18, .aload_n 0, 1), (19, .iconst 2, 1), (20, .invokevirtual 174, 3), (23, .ireturn, 1), (24, .aload_n 0, 1), (25, .iload_n 1, 1), (26, .invokevirtual 237, 3), (29, .ifCond .ne 9, 3), (32, .aload_n 0, 1), (33, .iconst 5, 1), (34, .invokevirtual 174, 3), (37, .ireturn, 1), (38, .iload_n 2, 1), (39, .ifCond .lt 9, 3), (42, .iload_n 2, 1), (43, .bipush 14, 2), (45, .if_icmp .le 10, 3), (48, .aload_n 0, 1), (49, .bipush 7, 2), (51, .invokevirtual 174, 3), (54, .ireturn, 1), (55, .aload_n 0, 1), (56, .getfield 29, 3), (59, .iload_n 1, 1), (60, .iaload, 1), (61, .ifCond .lt 10, 3), (64, .aload_n 0, 1), (65, .bipush 8, 2), (67, .invokevirtual 174, 3), (70, .ireturn, 1), (71, .aload_n 0, 1), (72, .invokevirtual 268, 3), (75, .aload_n 0, 1), (76, .iload_n 1, 1), (77, .invokevirtual 277, 3), (80, .aload_n 0, 1), (81, .invokevirtual 280, 3), (84, .ifCond .le 10, 3), (87, .aload_n 0, 1), (88, .bipush 9, 2), (90, .invokevirtual 174, 3), (93, .ireturn, 1), (94, .iconst 0, 1), (95, .istore_n 3, 1), (96, .iconst 0, 1), (97, .istore 4, 2), (99, .iload 4, 2), (101, .aload_n 0, 1), (102, .getfield 169, 3), (105, .if_icmp .ge 44, 3), (108, .aload_n 0, 1), (109, .getfield 74, 3), (112, .iload 4, 2), (114, .baload, 1), (115, .ifCond .eq 28, 3), (118, .aload_n 0, 1), (119, .getfield 20, 3), (122, .iload 4, 2), (124, .iaload, 1), (125, .iconst 1, 1), (126, .if_icmp .eq 6, 3), (129, .goto 14, 3), (132, .aload_n 0, 1), (133, .getfield 139, 3), (136, .iload_n 3, 1), (137, .iload 4, 2), (139, .iastore, 1), (140, .iinc 3 1, 3), (143, .iinc 4 1, 3), (146, .goto (-47), 3), (149, .iload_n 3, 1), (150, .bipush 14, 2), (152, .if_icmp .le 10, 3), (155, .aload_n 0, 1), (156, .bipush 10, 2), (158, .invokevirtual 174, 3), (161, .ireturn, 1), (162, .iconst (-1), 1), (163, .istore 4, 2), (165, .iconst 1, 1), (166, .iload_n 3, 1), (167, .ishl, 1), (168, .iconst 1, 1), (169, .isub, 1), (170, .istore 5, 2), (172, .iload 5, 2), (174, .ifCond .lt 102, 3), (177, .iload 5, 2), (179, .invokestatic 367, 3), (182, .istore 6, 2), (184, .iload 6, 2), (186, .iload_n 2, 1), (187, .if_icmp .lt 83, 3), (190, .iload 4, 2), (192, .ifCond .lt 16, 3), (195, .iload 6, 2), (197, .iload 4, 2), (199, .invokestatic 367, 3), (202, .if_icmp .lt 6, 3), (205, .goto 65, 3), (208, .iconst 0, 1), (209, .istore 7, 2), (211, .iload 7, 2), (213, .iload_n 3, 1), (214, .if_icmp .ge 41, 3), (217, .aload_n 0, 1), (218, .getfield 78, 3), (221, .aload_n 0, 1), (222, .getfield 139, 3), (225, .iload 7, 2), (227, .iaload, 1), (228, .iload 5, 2), (230, .iload_n 3, 1), (231, .iconst 1, 1), (232, .isub, 1), (233, .iload 7, 2), (235, .isub, 1), (236, .ishr, 1), (237, .iconst 1, 1), (238, .iand, 1), (239, .iconst 1, 1), (240, .if_icmp .ne 7, 3), (243, .iconst 1, 1), (244, .goto 4, 3), (247, .iconst 0, 1), (248, .bastore, 1), (249, .iinc 7 1, 3), (252, .goto (-41), 3), (255, .aload_n 0, 1), (256, .invokevirtual 255, 3), (259, .aload_n 0, 1), (260, .invokevirtual 280, 3), (263, .ifCond .ne 7, 3), (266, .iload 5, 2), (268, .istore 4, 2), (270, .iinc 5 (-1), 3), (273, .goto (-101), 3), (276, .iload 4, 2), (278, .ifCond .ge 10, 3), (281, .aload_n 0, 1), (282, .bipush 11, 2), (284, .invokevirtual 174, 3), (287, .ireturn, 1), (288, .aload_n 0, 1), (289, .iconst 0, 1), (290, .putfield 372, 3), (293, .iconst 0, 1), (294, .istore 5, 2), (296, .iload 5, 2), (298, .iload_n 3, 1), (299, .if_icmp .ge 52, 3), (302, .iload 4, 2), (304, .iload_n 3, 1), (305, .iconst 1, 1), (306, .isub, 1), (307, .iload 5, 2), (309, .isub, 1), (310, .ishr, 1), (311, .iconst 1, 1), (312, .iand, 1), (313, .ifCond .ne 6, 3), (316, .goto 29, 3), (319, .aload_n 0, 1), (320, .getfield 81, 3), (323, .aload_n 0, 1), (324, .getfield 372, 3), (327, .aload_n 0, 1), (328, .getfield 139, 3), (331, .iload 5, 2), (333, .iaload, 1), (334, .iastore, 1), (335, .aload_n 0, 1), (336, .dup, 1), (337, .getfield 372, 3), (340, .iconst 1, 1), (341, .iadd, 1), (342, .putfield 372, 3), (345, .iinc 5 1, 3), (348, .goto (-52), 3), (351, .aload_n 0, 1), (352, .getfield 372, 3), (355, .ireturn, 1)])
set_option maxRecDepth 100000 in
theorem deX12_fewest : ∀ q ∈ miX12_fewest.2.2.2, decode miX12_fewest.1.2.2 q.1 = .ok q.2 := by decide +kernel
def miX12_suspect : MI := ((yX12_suspect, RX12, cX12_suspect), (2, (some .int)), (0, 0), [(0, .aload_n 0, 1), (1, .iconst 0, 1), (2, .putfield 148, 3), (5, .iload_n 1, 1), (6, .ifCond .lt 11, 3), (9, .iload_n 1, 1), (10, .aload_n 0, 1), (11, .getfield 372, 3), (14, .if_icmp .lt 7, 3), (17, .iconst (-1), 1), (18, .goto 9, 3), (21, .aload_n 0, 1), (22, .getfield 81, 3), (25, .iload_n 1, 1), (26, .iaload, 1), (27, .ireturn, 1)])
set_option maxRecDepth 100000 in
theorem deX12_suspect : ∀ q ∈ miX12_suspect.2.2.2, decode miX12_suspect.1.2.2 q.1 = .ok q.2 := by decide +kernel
def miX12_cut_ : MI := ((yX12_cut_, RX12, cX12_cut_), (3, (some .int)), (0, 0), [(0, .aload_n 0, 1), (1, .iconst 0, 1), (2, .putfield 148, 3), (5, .aload_n 0, 1), (6, .iconst 0, 1), (7, .putfield 152, 3), (10, .iconst 0, 1), (11, .istore_n 1, 1), (12, .iconst 0, 1), (13, .istore_n 2, 1), (14, .iload_n 2, 1), (15, .aload_n 0, 1), (16, .getfield 372, 3), (19, .if_icmp .ge 39, 3), (22, .aload_n 0, 1), (23, .getfield 29, 3), (26, .aload_n 0, 1), (27, .getfield 81, 3), (30, .iload_n 2, 1), (31, .iaload, 1), (32, .iaload, 1), (33, .ifCond .ge 6, 3), (36, .goto 16, 3), (39, .aload_n 0, 1), (40, .aload_n 0, 1), (41, .getfield 81, 3), (44, .iload_n 2, 1), (45, .iaload, 1), (46, .invokevirtual 247, 3), (49, .iinc 1 1, 3), (52, .iinc 2 1, 3), (55, .goto (-41), 3), (58, .iload_n 1, 1), (59, .ireturn, 1)])
set_option maxRecDepth 100000 in
theorem deX12_cut_ : ∀ q ∈ miX12_cut_.2.2.2, decode miX12_cut_.1.2.2 q.1 = .ok q.2 := by decide +kernel
def miX12_isSide : MI := ((yX12_isSide, RX12, cX12_isSide), (3, (some .boolean)), (0, 0), [(0, .iload_n 1, 1), (1, .ifCond .lt 7, 3), (4, .iload_n 2, 1), (5, .ifCond .ge 17, 3), (8, .iload_n 1, 1), (9, .ifCond .ge 11, 3), (12, .iload_n 2, 1), (13, .ifCond .ge 7, 3), (16, .iconst 1, 1), (17, .goto 4, 3), (20, .iconst 0, 1), (21, .ireturn, 1), (22, .aload_n 0, 1), (23, .getfield 68, 3), (26, .iload_n 1, 1), (27, .iaload, 1), (28, .aload_n 0, 1), (29, .getfield 68, 3), (32, .iload_n 2, 1), (33, .iaload, 1), (34, .if_icmp .ne 22, 3), (37, .aload_n 0, 1), (38, .getfield 35, 3), (41, .iload_n 1, 1), (42, .iaload, 1), (43, .aload_n 0, 1), (44, .getfield 35, 3), (47, .iload_n 2, 1), (48, .iaload, 1), (49, .if_icmp .ne 7, 3), (52, .iconst 1, 1), (53, .goto 4, 3), (56, .iconst 0, 1), (57, .ireturn, 1)])
set_option maxRecDepth 100000 in
theorem deX12_isSide : ∀ q ∈ miX12_isSide.2.2.2, decode miX12_isSide.1.2.2 q.1 = .ok q.2 := by decide +kernel
def miX12_isLike : MI := ((yX12_isLike, RX12, cX12_isLike), (3, (some .boolean)), (0, 0), [(0, .aload_n 0, 1), (1, .getfield 20, 3), (4, .iload_n 1, 1), (5, .iaload, 1), (6, .aload_n 0, 1), (7, .getfield 20, 3), (10, .iload_n 2, 1), (11, .iaload, 1), (12, .if_icmp .ne 19, 3), (15, .aload_n 0, 1), (16, .getfield 38, 3), (19, .iload_n 1, 1), (20, .laload, 1), (21, .aload_n 0, 1), (22, .getfield 38, 3), (25, .iload_n 2, 1), (26, .laload, 1), (27, .lcmp, 1), (28, .ifCond .eq 5, 3), (31, .iconst 0, 1), (32, .ireturn, 1), (33, .aload_n 0, 1), (34, .iload_n 1, 1), (35, .invokevirtual 237, 3), (38, .ifCond .ne 5, 3), (41, .iconst 1, 1), (42, .ireturn, 1), (43, .aload_n 0, 1), (44, .getfield 26, 3), (47, .iload_n 1, 1), (48, .iaload, 1), (49, .aload_n 0, 1), (50, .getfield 26, 3), (53, .iload_n 2, 1), (54, .iaload, 1), (55, .if_icmp .ne 18, 3), (58, .aload_n 0, 1), (59, .getfield 23, 3), (62, .iload_n 1, 1), (63, .iaload, 1), (64, .aload_n 0, 1), (65, .getfield 23, 3), (68, .iload_n 2, 1), (69, .iaload, 1), (70, .if_icmp .eq 5, 3), (73, .iconst 0, 1), (74, .ireturn, 1), (75, .aload_n 0, 1), (76, .getfield 41, 3), (79, .iload_n 1, 1), (80, .laload, 1), (81, .aload_n 0, 1), (82, .getfield 44, 3), (85, .iload_n 2, 1), (86, .laload, 1), (87, .lmul, 1), (88, .aload_n 0, 1), (89, .getfield 41, 3), (92, .iload_n 2, 1), (93, .laload, 1), (94, .aload_n 0, 1), (95, .getfield 44, 3), (98, .iload_n 1, 1), (99, .laload, 1), (100, .lmul, 1), (101, .lcmp, 1), (102, .ifCond .ne 43, 3), (105, .aload_n 0, 1), (106, .aload_n 0, 1), (107, .getfield 47, 3), (110, .iload_n 1, 1), (111, .iaload, 1), (112, .aload_n 0, 1), (113, .getfield 47, 3), (116, .iload_n 2, 1), (117, .iaload, 1), (118, .invokevirtual 375, 3), (121, .ifCond .eq 24, 3), (124, .aload_n 0, 1), (125, .aload_n 0, 1), (126, .getfield 50, 3), (129, .iload_n 1, 1), (130, .iaload, 1), (131, .aload_n 0, 1), (132, .getfield 50, 3), (135, .iload_n 2, 1), (136, .iaload, 1), (137, .invokevirtual 375, 3), (140, .ifCond .eq 5, 3), (143, .iconst 1, 1), (144, .ireturn, 1), (145, .aload_n 0, 1), (146, .getfield 41, 3), (149, .iload_n 1, 1), (150, .laload, 1), (151, .aload_n 0, 1), (152, .getfield 44, 3), (155, .iload_n 2, 1), (156, .laload, 1), (157, .lmul, 1), (158, .aload_n 0, 1), (159, .getfield 44, 3), (162, .iload_n 2, 1), (163, .laload, 1), (164, .aload_n 0, 1), (165, .getfield 41, 3), (168, .iload_n 2, 1), (169, .laload, 1), (170, .lsub, 1), (171, .aload_n 0, 1), (172, .getfield 44, 3), (175, .iload_n 1, 1), (176, .laload, 1), (177, .lmul, 1), (178, .lcmp, 1), (179, .ifCond .ne 45, 3), (182, .aload_n 0, 1), (183, .aload_n 0, 1), (184, .getfield 47, 3), (187, .iload_n 1, 1), (188, .iaload, 1), (189, .aload_n 0, 1), (190, .getfield 50, 3), (193, .iload_n 2, 1), (194, .iaload, 1), (195, .invokevirtual 375, 3), (198, .ifCond .eq 26, 3), (201, .aload_n 0, 1), (202, .aload_n 0, 1), (203, .getfield 50, 3), (206, .iload_n 1, 1), (207, .iaload, 1), (208, .aload_n 0, 1), (209, .getfield 47, 3), (212, .iload_n 2, 1), (213, .iaload, 1), (214, .invokevirtual 375, 3), (217, .ifCond .eq 7, 3), (220, .iconst 1, 1), (221, .goto 4, 3), (224, .iconst 0, 1), (225, .ireturn, 1)])
set_option maxRecDepth 100000 in
theorem deX12_isLike : ∀ q ∈ miX12_isLike.2.2.2, decode miX12_isLike.1.2.2 q.1 = .ok q.2 := by decide +kernel
end
section
def miX12_same : MI := ((yX12_same, RX12, cX12_same), (6, (some .int)), (0, 0), [(0, .aload_n 0, 1), (1, .iconst 0, 1), (2, .putfield 148, 3), (5, .aload_n 0, 1), (6, .aload_n 0, 1), (7, .iload_n 1, 1), (8, .invokevirtual 274, 3), (11, .iconst 2, 1), (12, .if_icmp .eq 12, 3), (15, .aload_n 0, 1), (16, .iload_n 2, 1), (17, .invokevirtual 274, 3), (20, .iconst 2, 1), (21, .if_icmp .ne 7, 3), (24, .iconst 2, 1), (25, .goto 16, 3), (28, .aload_n 0, 1), (29, .iload_n 1, 1), (30, .invokevirtual 274, 3), (33, .aload_n 0, 1), (34, .iload_n 2, 1), (35, .invokevirtual 274, 3), (38, .invokestatic 193, 3), (41, .putfield 152, 3), (44, .aload_n 0, 1), (45, .getfield 152, 3), (48, .ifCond .le 5, 3), (51, .iconst (-1), 1), (52, .ireturn, 1), (53, .aload_n 0, 1), (54, .invokevirtual 252, 3), (57, .iconst 0, 1), (58, .istore_n 3, 1), (59, .iload_n 3, 1), (60, .aload_n 0, 1), (61, .getfield 169, 3), (64, .if_icmp .ge 78, 3), (67, .aload_n 0, 1), (68, .getfield 62, 3), (71, .iload_n 3, 1), (72, .iaload, 1), (73, .istore 4, 2), (75, .iconst 0, 1), (76, .istore 5, 2), (78, .iload 5, 2), (80, .iload_n 3, 1), (81, .if_icmp .ge 25, 3), (84, .aload_n 0, 1), (85, .aload_n 0, 1), (86, .getfield 62, 3), (89, .iload 5, 2), (91, .iaload, 1), (92, .iload 4, 2), (94, .invokevirtual 378, 3), (97, .ifCond .ne 9, 3), (100, .iinc 5 1, 3), (103, .goto (-25), 3), (106, .aload_n 0, 1), (107, .getfield 68, 3), (110, .iload 4, 2), (112, .iload 5, 2), (114, .iload_n 3, 1), (115, .if_icmp .ge 18, 3), (118, .aload_n 0, 1), (119, .getfield 68, 3), (122, .aload_n 0, 1), (123, .getfield 62, 3), (126, .iload 5, 2), (128, .iaload, 1), (129, .iaload, 1), (130, .goto 5, 3), (133, .iload 4, 2), (135, .iastore, 1), (136, .iinc 3 1, 3), (139, .goto (-80), 3), (142, .aload_n 0, 1), (143, .getfield 68, 3), (146, .iload_n 1, 1), (147, .iaload, 1), (148, .aload_n 0, 1), (149, .getfield 68, 3), (152, .iload_n 2, 1), (153, .iaload, 1), (154, .if_icmp .ne 7, 3), (157, .iconst 1, 1), (158, .goto 4, 3), (161, .iconst 0, 1), (162, .ireturn, 1)])
set_option maxRecDepth 100000 in
theorem deX12_same : ∀ q ∈ miX12_same.2.2.2, decode miX12_same.1.2.2 q.1 = .ok q.2 := by decide +kernel
def miX12_put : MI := ((yX12_put, RX12, cX12_put), (2, none), (0, 0), [(0, .aload_n 0, 1), (1, .getfield 381, 3), (4, .sipush 600, 3), (7, .if_icmp .ge 14, 3), (10, .aload_n 0, 1), (11, .getfield 84, 3), (14, .aload_n 0, 1), (15, .getfield 381, 3), (18, .iload_n 1, 1), (19, .i2b, 1), (20, .bastore, 1), (21, .aload_n 0, 1), (22, .dup, 1), (23, .getfield 381, 3), (26, .iconst 1, 1), (27, .iadd, 1), (28, .putfield 381, 3), (31, .return_, 1)])
set_option maxRecDepth 100000 in
theorem deX12_put : ∀ q ∈ miX12_put.2.2.2, decode miX12_put.1.2.2 q.1 = .ok q.2 := by decide +kernel
def miX12_putNumber : MI := ((yX12_putNumber, RX12, cX12_putNumber), (5, none), (0, 0), [(0, .lconst 1, 1), (1, .lstore_n 3, 1), (2, .lload_n 1, 1), (3, .lload_n 3, 1), (4, .ldiv, 1), (5, .ldc2_w 384, 3), (8, .lcmp, 1), (9, .ifCond .le 12, 3), (12, .lload_n 3, 1), (13, .ldc2_w 386, 3), (16, .lmul, 1), (17, .lstore_n 3, 1), (18, .goto (-16), 3), (21, .lload_n 3, 1), (22, .lconst 0, 1), (23, .lcmp, 1), (24, .ifCond .le 28, 3), (27, .aload_n 0, 1), (28, .ldc2_w 388, 3), (31, .lload_n 1, 1), (32, .lload_n 3, 1), (33, .ldiv, 1), (34, .ldc2_w 386, 3), (37, .lrem, 1), (38, .ladd, 1), (39, .l2i, 1), (40, .invokevirtual 390, 3), (43, .lload_n 3, 1), (44, .ldc2_w 386, 3), (47, .ldiv, 1), (48, .lstore_n 3, 1), (49, .goto (-28), 3), (52, .return_, 1)])
set_option maxRecDepth 100000 in
theorem deX12_putNumber : ∀ q ∈ miX12_putNumber.2.2.2, decode miX12_putNumber.1.2.2 q.1 = .ok q.2 := by decide +kernel
def miX12_later : MI := ((yX12_later, RX12, cX12_later), (3, none), (0, 0), [(0, .aload_n 0, 1), (1, .getfield 142, 3), (4, .aload_n 0, 1), (5, .getfield 393, 3), (8, .iload_n 1, 1), (9, .iastore, 1), (10, .aload_n 0, 1), (11, .getfield 145, 3), (14, .aload_n 0, 1), (15, .getfield 393, 3), (18, .iload_n 2, 1), (19, .iastore, 1), (20, .aload_n 0, 1), (21, .dup, 1), (22, .getfield 393, 3), (25, .iconst 1, 1), (26, .iadd, 1), (27, .putfield 393, 3), (30, .return_, 1)])
set_option maxRecDepth 100000 in
theorem deX12_later : ∀ q ∈ miX12_later.2.2.2, decode miX12_later.1.2.2 q.1 = .ok q.2 := by decide +kernel
def miX12_show : MI := ((yX12_show, RX12, cX12_show), (3, (some .int)), (0, 0), [(0, .aload_n 0, 1), (1, .iconst 0, 1), (2, .putfield 148, 3), (5, .aload_n 0, 1), (6, .aload_n 0, 1), (7, .iload_n 1, 1), (8, .invokevirtual 274, 3), (11, .putfield 152, 3), (14, .aload_n 0, 1), (15, .getfield 152, 3), (18, .ifCond .le 5, 3), (21, .iconst (-1), 1), (22, .ireturn, 1), (23, .aload_n 0, 1), (24, .iconst 0, 1), (25, .putfield 381, 3), (28, .aload_n 0, 1), (29, .iconst 0, 1), (30, .putfield 393, 3), (33, .aload_n 0, 1), (34, .iconst 0, 1), (35, .iload_n 1, 1), (36, .invokevirtual 396, 3), (39, .aload_n 0, 1), (40, .getfield 393, 3), (43, .ifCond .le 153, 3), (46, .aload_n 0, 1), (47, .dup, 1), (48, .getfield 393, 3), (51, .iconst 1, 1), (52, .isub, 1), (53, .putfield 393, 3), (56, .aload_n 0, 1), (57, .getfield 145, 3), (60, .aload_n 0, 1), (61, .getfield 393, 3), (64, .iaload, 1), (65, .istore_n 2, 1), (66, .aload_n 0, 1), (67, .getfield 142, 3), (70, .aload_n 0, 1), (71, .getfield 393, 3), (74, .iaload, 1), (75, .tableswitch 113 0 2 #[25, 33, 72], 25), (100, .aload_n 0, 1), (101, .iload_n 2, 1), (102, .invokevirtual 400, 3), (105, .goto 88, 3), (108, .iload_n 2, 1), (109, .ifCond .ge 12, 3), (112, .aload_n 0, 1), (113, .bipush 45, 2), (115, .invokevirtual 390, 3), (118, .goto 75, 3), (121, .aload_n 0, 1), (122, .aload_n 0, 1), (123, .getfield 35, 3), (126, .iload_n 2, 1), (127, .iaload, 1), (128, .i2l, 1), (129, .invokevirtual 403, 3), (132, .aload_n 0, 1), (133, .bipush 58, 2), (135, .invokevirtual 390, 3), (138, .aload_n 0, 1), (139, .iconst 0, 1), (140, .iload_n 2, 1), (141, .invokevirtual 396, 3), (144, .goto 49, 3), (147, .aload_n 0, 1), (148, .bipush 44, 2), (150, .invokevirtual 390, 3), (153, .aload_n 0, 1), (154, .aload_n 0, 1), (155, .getfield 41, 3), (158, .iload_n 2, 1), (159, .laload, 1), (160, .invokevirtual 403, 3), (163, .aload_n 0, 1), (164, .bipush 47, 2), (166, .invokevirtual 390, 3), (169, .aload_n 0, 1), (170, .aload_n 0, 1), (171, .getfield 44, 3), (174, .iload_n 2, 1), (175, .laload, 1), (176, .invokevirtual 403, 3), (179, .aload_n 0, 1), (180, .bipush 44, 2), (182, .invokevirtual 390, 3), (185, .goto 8, 3), (188, .aload_n 0, 1), (189, .iload_n 2, 1), (190, .invokevirtual 390, 3), (193, .goto (-154), 3), (196, .aload_n 0, 1), (197, .getfield 381, 3), (200, .ireturn, 1)])
set_option maxRecDepth 100000 in
theorem deX12_show : ∀ q ∈ miX12_show.2.2.2, decode miX12_show.1.2.2 q.1 = .ok q.2 := by decide +kernel
def miX12_showPart : MI := ((yX12_showPart, RX12, cX12_showPart), (2, none), (0, 0), [(0, .aload_n 0, 1), (1, .iload_n 1, 1), (2, .invokevirtual 237, 3), (5, .ifCond .ne 30, 3), (8, .aload_n 0, 1), (9, .getfield 20, 3), (12, .iload_n 1, 1), (13, .iaload, 1), (14, .iconst 4, 1), (15, .if_icmp .ne 9, 3), (18, .aload_n 0, 1), (19, .bipush 112, 2), (21, .invokevirtual 390, 3), (24, .aload_n 0, 1), (25, .aload_n 0, 1), (26, .getfield 38, 3), (29, .iload_n 1, 1), (30, .laload, 1), (31, .invokevirtual 403, 3), (34, .return_, 1), (35, .aload_n 0, 1), (36, .bipush 40, 2), (38, .invokevirtual 390, 3), (41, .aload_n 0, 1), (42, .iconst 3, 1), (43, .bipush 41, 2), (45, .invokevirtual 396, 3), (48, .aload_n 0, 1), (49, .iconst 1, 1), (50, .aload_n 0, 1), (51, .getfield 50, 3), (54, .iload_n 1, 1), (55, .iaload, 1), (56, .invokevirtual 396, 3), (59, .aload_n 0, 1), (60, .iconst 2, 1), (61, .iload_n 1, 1), (62, .invokevirtual 396, 3), (65, .aload_n 0, 1), (66, .iconst 1, 1), (67, .aload_n 0, 1), (68, .getfield 47, 3), (71, .iload_n 1, 1), (72, .iaload, 1), (73, .invokevirtual 396, 3), (76, .return_, 1)])
set_option maxRecDepth 100000 in
theorem deX12_showPart : ∀ q ∈ miX12_showPart.2.2.2, decode miX12_showPart.1.2.2 q.1 = .ok q.2 := by decide +kernel
def miX12_out : MI := ((yX12_out, RX12, cX12_out), (2, (some .int)), (0, 0), [(0, .aload_n 0, 1), (1, .iconst 0, 1), (2, .putfield 148, 3), (5, .iload_n 1, 1), (6, .ifCond .lt 17, 3), (9, .iload_n 1, 1), (10, .aload_n 0, 1), (11, .getfield 381, 3), (14, .sipush 600, 3), (17, .invokestatic 188, 3), (20, .if_icmp .lt 10, 3), (23, .aload_n 0, 1), (24, .iconst 1, 1), (25, .putfield 148, 3), (28, .iconst 0, 1), (29, .ireturn, 1), (30, .aload_n 0, 1), (31, .getfield 84, 3), (34, .iload_n 1, 1), (35, .baload, 1), (36, .ireturn, 1)])
set_option maxRecDepth 100000 in
theorem deX12_out : ∀ q ∈ miX12_out.2.2.2, decode miX12_out.1.2.2 q.1 = .ok q.2 := by decide +kernel
def miJ6_compare_7cf53 : MI := ((yJ6_compare_7cf53, RJ6, cJ6_compare_7cf53), (2, (some .int)), (0, 0), [(0, .iload_n 0, 1), (1, .iload_n 1, 1), (2, .if_icmp .ge 7, 3), (5, .iconst (-1), 1), (6, .goto 13, 3), (9, .iload_n 0, 1), (10, .iload_n 1, 1), (11, .if_icmp .ne 7, 3), (14, .iconst 0, 1), (15, .goto 4, 3), (18, .iconst 1, 1), (19, .ireturn, 1)])
set_option maxRecDepth 100000 in
theorem deJ6_compare_7cf53 : ∀ q ∈ miJ6_compare_7cf53.2.2.2, decode miJ6_compare_7cf53.1.2.2 q.1 = .ok q.2 := by decide +kernel
def miJ6_bitCount_0f7a4 : MI := ((yJ6_bitCount_0f7a4, RJ6, cJ6_bitCount_0f7a4), (1, (some .int)), (0, 0), [(0, .iload_n 0, 1), (1, .iload_n 0, 1), (2, .iconst 1, 1), (3, .iushr, 1), (4, .ldc_w 265, 3), (7, .iand, 1), (8, .isub, 1), (9, .istore_n 0, 1), (10, .iload_n 0, 1), (11, .ldc_w 266, 3), (14, .iand, 1), (15, .iload_n 0, 1), (16, .iconst 2, 1), (17, .iushr, 1), (18, .ldc_w 266, 3), (21, .iand, 1), (22, .iadd, 1), (23, .istore_n 0, 1), (24, .iload_n 0, 1), (25, .iload_n 0, 1), (26, .iconst 4, 1), (27, .iushr, 1), (28, .iadd, 1), (29, .ldc_w 267, 3), (32, .iand, 1), (33, .istore_n 0, 1), (34, .iload_n 0, 1), (35, .iload_n 0, 1), (36, .bipush 8, 2), (38, .iushr, 1), (39, .iadd, 1), (40, .istore_n 0, 1), (41, .iload_n 0, 1), (42, .iload_n 0, 1), (43, .bipush 16, 2), (45, .iushr, 1), (46, .iadd, 1), (47, .istore_n 0, 1), (48, .iload_n 0, 1), (49, .bipush 63, 2), (51, .iand, 1), (52, .ireturn, 1)])
set_option maxRecDepth 100000 in
theorem deJ6_bitCount_0f7a4 : ∀ q ∈ miJ6_bitCount_0f7a4.2.2.2, decode miJ6_bitCount_0f7a4.1.2.2 q.1 = .ok q.2 := by decide +kernel
def miJ9_abs_0f7a4 : MI := ((yJ9_abs_0f7a4, RJ9, cJ9_abs_0f7a4), (1, (some .int)), (0, 0), [(0, .iload_n 0, 1), (1, .ifCond .ge 8, 3), (4, .iload_n 0, 1), (5, .ineg, 1), (6, .goto 4, 3), (9, .iload_n 0, 1), (10, .ireturn, 1)])
set_option maxRecDepth 100000 in
theorem deJ9_abs_0f7a4 : ∀ q ∈ miJ9_abs_0f7a4.2.2.2, decode miJ9_abs_0f7a4.1.2.2 q.1 = .ok q.2 := by decide +kernel
def miJ9_abs_067f4 : MI := ((yJ9_abs_067f4, RJ9, cJ9_abs_067f4), (2, (some .long)), (0, 0), [(0, .lload_n 0, 1), (1, .lconst 0, 1), (2, .lcmp, 1), (3, .ifCond .ge 8, 3), (6, .lload_n 0, 1), (7, .lneg, 1), (8, .goto 4, 3), (11, .lload_n 0, 1), (12, .lreturn, 1)])
set_option maxRecDepth 100000 in
theorem deJ9_abs_067f4 : ∀ q ∈ miJ9_abs_067f4.2.2.2, decode miJ9_abs_067f4.1.2.2 q.1 = .ok q.2 := by decide +kernel
def miJ9_max_7cf53 : MI := ((yJ9_max_7cf53, RJ9, cJ9_max_7cf53), (2, (some .int)), (0, 0), [(0, .iload_n 0, 1), (1, .iload_n 1, 1), (2, .if_icmp .lt 7, 3), (5, .iload_n 0, 1), (6, .goto 4, 3), (9, .iload_n 1, 1), (10, .ireturn, 1)])
set_option maxRecDepth 100000 in
theorem deJ9_max_7cf53 : ∀ q ∈ miJ9_max_7cf53.2.2.2, decode miJ9_max_7cf53.1.2.2 q.1 = .ok q.2 := by decide +kernel
def miJ9_min_7cf53 : MI := ((yJ9_min_7cf53, RJ9, cJ9_min_7cf53), (2, (some .int)), (0, 0), [(0, .iload_n 0, 1), (1, .iload_n 1, 1), (2, .if_icmp .gt 7, 3), (5, .iload_n 0, 1), (6, .goto 4, 3), (9, .iload_n 1, 1), (10, .ireturn, 1)])
set_option maxRecDepth 100000 in
theorem deJ9_min_7cf53 : ∀ q ∈ miJ9_min_7cf53.2.2.2, decode miJ9_min_7cf53.1.2.2 q.1 = .ok q.2 := by decide +kernel
def miJ7_fill_d0a16 : MI := ((yJ7_fill_d0a16, RJ7, cJ7_fill_d0a16), (5, none), (0, 0), [(0, .iconst 0, 1), (1, .istore_n 3, 1), (2, .aload_n 0, 1), (3, .arraylength, 1), (4, .istore 4, 2), (6, .iload_n 3, 1), (7, .iload 4, 2), (9, .if_icmp .ge 13, 3), (12, .aload_n 0, 1), (13, .iload_n 3, 1), (14, .lload_n 1, 1), (15, .lastore, 1), (16, .iinc 3 1, 3), (19, .goto (-13), 3), (22, .return_, 1)])
set_option maxRecDepth 100000 in
theorem deJ7_fill_d0a16 : ∀ q ∈ miJ7_fill_d0a16.2.2.2, decode miJ7_fill_d0a16.1.2.2 q.1 = .ok q.2 := by decide +kernel
def miJ7_fill_53178 : MI := ((yJ7_fill_53178, RJ7, cJ7_fill_53178), (4, none), (0, 0), [(0, .iconst 0, 1), (1, .istore_n 2, 1), (2, .aload_n 0, 1), (3, .arraylength, 1), (4, .istore_n 3, 1), (5, .iload_n 2, 1), (6, .iload_n 3, 1), (7, .if_icmp .ge 13, 3), (10, .aload_n 0, 1), (11, .iload_n 2, 1), (12, .iload_n 1, 1), (13, .iastore, 1), (14, .iinc 2 1, 3), (17, .goto (-12), 3), (20, .return_, 1)])
set_option maxRecDepth 100000 in
theorem deJ7_fill_53178 : ∀ q ∈ miJ7_fill_53178.2.2.2, decode miJ7_fill_53178.1.2.2 q.1 = .ok q.2 := by decide +kernel
end
section
/-! FURTHER ROWS: reads with the value named, things of one of the three kinds of part, instanceof, Object's constructor, inherited methods -/
def FR (own : String) (idx ci kf : Nat) : Prop := ∃ (C : String) (T : u_T) (N : Nat) (ref : String), vwCl[ci]? = some (C, T, N) ∧ nf ci = N ∧ kf < N ∧ (∀ w ∈ u_ws C T N, w ∈ tbG) ∧ Cond.fieldLink own idx ref (T kf).2.1 (T kf).2.2.1 ∈ tbG ∧ ((T kf).1 = ref ∨ Cond.sameField ref (T kf).1 (T kf).2.1 (T kf).2.2.1 ∈ tbG)
theorem FL.r {own : String} {idx ci kf : Nat} {fin : Bool} {ty : FieldType} (h : FL own idx ci kf fin ty) : FR own idx ci kf := by
  obtain ⟨C, T, N, ref, h1, h2, h3, h4, h5, h6, -⟩ := h
  exact ⟨C, T, N, ref, h1, h2, h3, h4, h5, h6⟩
abbrev Ob (n : Nat) (S : Nat → Shp) (r ci : Nat) : Prop := (0 < r ∧ r < n) ∧ (S r).1 = ci ∧ ∀ q, (S r).2.2 q = none
abbrev Pt (n : Nat) (S : Nat → Shp) (r : Nat) : Prop := (0 < r ∧ r < n) ∧ ((S r).1 = 3 ∨ (S r).1 = 5 ∨ (S r).1 = 9) ∧ ∀ q, (S r).2.2 q = none
def FP (own : String) (idx kf : Nat) : Prop := FR own idx 3 kf ∧ FR own idx 5 kf ∧ FR own idx 9 kf
def FW (own : String) (idx kf : Nat) (ty : FieldType) : Prop := FL own idx 3 kf false ty ∧ FL own idx 5 kf false ty ∧ FL own idx 9 kf false ty
section VRows5
variable {M : MI} {d pc : Nat} {L L' : List (Nat × Value)} {st : List Value} {n : Nat} {S : Nat → Shp} {g : Hp} {k z : Nat} {P : Pst}
theorem v_gt0 {a ci kf idx : Nat} (j : Nat) (hd : M.2.2.2[j]? = some (pc, .getfield idx, 3)) (hf : FR M.1.2.1 idx ci kf) (ha : 0 < a ∧ a < n) (hs : (S a).1 = ci) (hc : ci < 12) (h : V M d (pc + 3) L (vA (fc ci kf) (gv S g a kf) :: st) n S g k z P) : V M d pc L (.ref a :: st) n S g k z P := by
  intro p l e R s m args below meth c b D dA Q C hq H locs ls hl hP hS
  have w := h p l e R s m args below meth c b D dA Q C hq H locs ls hl hP hS
  obtain ⟨Cn, T, N, ref, h1, h2, h3, h4, h5, h6⟩ := hf
  obtain ⟨cell, q1, q2, q3, q4⟩ := hP.obj ha hs hc
  obtain ⟨hSl, hfc, kC, hkC, hkind⟩ := C.2.2.2.2.2.1.1.1 ci _ h1
  obtain ⟨cf, kf', fi, f, hi, hsl⟩ := hSl kf h3
  have hsame : s.fieldFound? ref (T kf).2.1 (T kf).2.2.1 = some (cf, kf', fi, f) := by
    rcases h6 with e | e
    · rw [← e]; exact hi
    · exact u_same (C.2.2.2.2.1 _ e) _ hi
  obtain ⟨a', rfl⟩ : ∃ a', a = a' + 1 := ⟨a - 1, by omega⟩
  refine W.getf C.1 C.2.1 C.2.2.2.1 (C.2.2.2.2.1 _ h5) hsame (u_facts hfc hkC (u_lays C.2.2.2.2.1 h4 h3) hi).1 q1 (by rw [q3]; exact fun h => by cases h) (v := cv b (vA (fc ci kf) (gv S g (a' + 1) kf))) ?_ rfl rfl (C.dec hd) w
  rw [hsl, q4 kf (by rw [h2]; exact h3)]
theorem v_gI {a ci kf idx : Nat} {x : Int} (j : Nat) (hd : M.2.2.2[j]? = some (pc, .getfield idx, 3)) (hf : FR M.1.2.1 idx ci kf) (ha : 0 < a ∧ a < n) (hs : (S a).1 = ci) (hc : ci < 12) (ht : fc ci kf = 0) (hk : (S a).2.2 kf = none) (he : g a kf = x) (h : V M d (pc + 3) L (I_ x :: st) n S g k z P) : V M d pc L (.ref a :: st) n S g k z P :=
  v_gt0 j hd hf ha hs hc (by unfold gv; rw [ht, hk]; subst he; exact h)
theorem v_gL {a ci kf idx : Nat} {x : Int} (j : Nat) (hd : M.2.2.2[j]? = some (pc, .getfield idx, 3)) (hf : FR M.1.2.1 idx ci kf) (ha : 0 < a ∧ a < n) (hs : (S a).1 = ci) (hc : ci < 12) (ht : fc ci kf = 1) (hk : (S a).2.2 kf = none) (he : g a kf = x) (h : V M d (pc + 3) L (L_ x :: st) n S g k z P) : V M d pc L (.ref a :: st) n S g k z P :=
  v_gt0 j hd hf ha hs hc (by unfold gv; rw [ht, hk]; subst he; exact h)
theorem v_gR {a ci kf idx : Nat} {x : Int} (j : Nat) (hd : M.2.2.2[j]? = some (pc, .getfield idx, 3)) (hf : FR M.1.2.1 idx ci kf) (ha : 0 < a ∧ a < n) (hs : (S a).1 = ci) (hc : ci < 12) (ht : fc ci kf = 2) (hk : (S a).2.2 kf = none) (he : g a kf = x) (h : V M d (pc + 3) L (.ref x.toNat :: st) n S g k z P) : V M d pc L (.ref a :: st) n S g k z P :=
  v_gt0 j hd hf ha hs hc (by unfold gv; rw [ht, hk]; subst he; exact h)
theorem v_gK {a ci kf idx r : Nat} (j : Nat) (hd : M.2.2.2[j]? = some (pc, .getfield idx, 3)) (hf : FR M.1.2.1 idx ci kf) (ha : 0 < a ∧ a < n) (hs : (S a).1 = ci) (hc : ci < 12) (ht : fc ci kf = 2) (hk : (S a).2.2 kf = some (r : Int)) (h : V M d (pc + 3) L (.ref r :: st) n S g k z P) : V M d pc L (.ref a :: st) n S g k z P :=
  v_gt0 j hd hf ha hs hc (by unfold gv; rw [ht, hk]; exact h)
theorem v_pI {a kf idx : Nat} {x : Int} (j : Nat) (hd : M.2.2.2[j]? = some (pc, .getfield idx, 3)) (hf : FP M.1.2.1 idx kf) (ha : Pt n S a) (ht : fc 3 kf = 0 ∧ fc 5 kf = 0 ∧ fc 9 kf = 0) (he : g a kf = x) (h : V M d (pc + 3) L (I_ x :: st) n S g k z P) : V M d pc L (.ref a :: st) n S g k z P := by
  rcases ha.2.1 with q | q | q
  · exact v_gI j hd hf.1 ha.1 q (by decide) ht.1 (ha.2.2 kf) he h
  · exact v_gI j hd hf.2.1 ha.1 q (by decide) ht.2.1 (ha.2.2 kf) he h
  · exact v_gI j hd hf.2.2 ha.1 q (by decide) ht.2.2 (ha.2.2 kf) he h
theorem v_pL {a kf idx : Nat} {x : Int} (j : Nat) (hd : M.2.2.2[j]? = some (pc, .getfield idx, 3)) (hf : FP M.1.2.1 idx kf) (ha : Pt n S a) (ht : fc 3 kf = 1 ∧ fc 5 kf = 1 ∧ fc 9 kf = 1) (he : g a kf = x) (h : V M d (pc + 3) L (L_ x :: st) n S g k z P) : V M d pc L (.ref a :: st) n S g k z P := by
  rcases ha.2.1 with q | q | q
  · exact v_gL j hd hf.1 ha.1 q (by decide) ht.1 (ha.2.2 kf) he h
  · exact v_gL j hd hf.2.1 ha.1 q (by decide) ht.2.1 (ha.2.2 kf) he h
  · exact v_gL j hd hf.2.2 ha.1 q (by decide) ht.2.2 (ha.2.2 kf) he h
theorem v_pR {a kf idx : Nat} {x : Int} (j : Nat) (hd : M.2.2.2[j]? = some (pc, .getfield idx, 3)) (hf : FP M.1.2.1 idx kf) (ha : Pt n S a) (ht : fc 3 kf = 2 ∧ fc 5 kf = 2 ∧ fc 9 kf = 2) (he : g a kf = x) (h : V M d (pc + 3) L (.ref x.toNat :: st) n S g k z P) : V M d pc L (.ref a :: st) n S g k z P := by
  rcases ha.2.1 with q | q | q
  · exact v_gR j hd hf.1 ha.1 q (by decide) ht.1 (ha.2.2 kf) he h
  · exact v_gR j hd hf.2.1 ha.1 q (by decide) ht.2.1 (ha.2.2 kf) he h
  · exact v_gR j hd hf.2.2 ha.1 q (by decide) ht.2.2 (ha.2.2 kf) he h
theorem v_qI {a kf idx : Nat} {x : Int} (j : Nat) (hd : M.2.2.2[j]? = some (pc, .putfield idx, 3)) (hf : FW M.1.2.1 idx kf .int) (ha : Pt n S a) (ht : fc 3 kf = 0 ∧ fc 5 kf = 0 ∧ fc 9 kf = 0) (hx : i3 x) (h : V M d (pc + 3) L st n S (up2 g a kf x) k z P) : V M d pc L (I_ x :: .ref a :: st) n S g k z P := by
  rcases ha.2.1 with q | q | q
  · exact v_putI j hd hf.1 ha.1 q (by decide) ht.1 (ha.2.2 kf) hx h
  · exact v_putI j hd hf.2.1 ha.1 q (by decide) ht.2.1 (ha.2.2 kf) hx h
  · exact v_putI j hd hf.2.2 ha.1 q (by decide) ht.2.2 (ha.2.2 kf) hx h
theorem v_qL {a kf idx : Nat} {x : Int} (j : Nat) (hd : M.2.2.2[j]? = some (pc, .putfield idx, 3)) (hf : FW M.1.2.1 idx kf .long) (ha : Pt n S a) (ht : fc 3 kf = 1 ∧ fc 5 kf = 1 ∧ fc 9 kf = 1) (hx : i6 x) (h : V M d (pc + 3) L st n S (up2 g a kf x) k z P) : V M d pc L (L_ x :: .ref a :: st) n S g k z P := by
  rcases ha.2.1 with q | q | q
  · exact v_putL j hd hf.1 ha.1 q (by decide) ht.1 (ha.2.2 kf) hx h
  · exact v_putL j hd hf.2.1 ha.1 q (by decide) ht.2.1 (ha.2.2 kf) hx h
  · exact v_putL j hd hf.2.2 ha.1 q (by decide) ht.2.2 (ha.2.2 kf) hx h
theorem v_qR {a kf idx r : Nat} {nm : String} (j : Nat) (hd : M.2.2.2[j]? = some (pc, .putfield idx, 3)) (hf : FW M.1.2.1 idx kf (.object nm)) (ha : Pt n S a) (ht : fc 3 kf = 2 ∧ fc 5 kf = 2 ∧ fc 9 kf = 2) (h : V M d (pc + 3) L st n S (up2 g a kf (r : Int)) k z P) : V M d pc L (.ref r :: .ref a :: st) n S g k z P := by
  rcases ha.2.1 with q | q | q
  · exact v_putR j hd hf.1 ha.1 q (by decide) ht.1 (ha.2.2 kf) h
  · exact v_putR j hd hf.2.1 ha.1 q (by decide) ht.2.1 (ha.2.2 kf) h
  · exact v_putR j hd hf.2.2 ha.1 q (by decide) ht.2.2 (ha.2.2 kf) h
theorem v_ia {a N : Nat} {x y : Int} (j : Nat) (hd : M.2.2.2[j]? = some (pc, .iaload, 1)) (ha : 0 < a ∧ a < n) (hs : (S a).1 = 13) (hN : (S a).2.1 = N) (hN2 : N ≤ 100000) (hx : 0 ≤ x ∧ x < (N : Int)) (he : g a x.toNat = y) (h : V M d (pc + 1) L (I_ y :: st) n S g k z P) : V M d pc L (I_ x :: .ref a :: st) n S g k z P := v_iald j hd ha hs hN hN2 hx (by rw [he]; exact h)
theorem v_la {a N : Nat} {x y : Int} (j : Nat) (hd : M.2.2.2[j]? = some (pc, .laload, 1)) (ha : 0 < a ∧ a < n) (hs : (S a).1 = 14) (hN : (S a).2.1 = N) (hN2 : N ≤ 100000) (hx : 0 ≤ x ∧ x < (N : Int)) (he : g a x.toNat = y) (h : V M d (pc + 1) L (L_ y :: st) n S g k z P) : V M d pc L (I_ x :: .ref a :: st) n S g k z P := v_lald j hd ha hs hN hN2 hx (by rw [he]; exact h)
theorem v_ba {a N : Nat} {x y : Int} (j : Nat) (hd : M.2.2.2[j]? = some (pc, .baload, 1)) (ha : 0 < a ∧ a < n) (hs : (S a).1 = 12) (hN : (S a).2.1 = N) (hN2 : N ≤ 100000) (hx : 0 ≤ x ∧ x < (N : Int)) (he : g a x.toNat = y) (h : V M d (pc + 1) L (I_ y :: st) n S g k z P) : V M d pc L (I_ x :: .ref a :: st) n S g k z P := v_bald j hd ha hs hN hN2 hx (by rw [he]; exact h)
theorem v_za {a N : Nat} {x y : Int} (j : Nat) (hd : M.2.2.2[j]? = some (pc, .baload, 1)) (ha : 0 < a ∧ a < n) (hs : (S a).1 = 15) (hN : (S a).2.1 = N) (hN2 : N ≤ 100000) (hx : 0 ≤ x ∧ x < (N : Int)) (he : g a x.toNat = y) (h : V M d (pc + 1) L (I_ y :: st) n S g k z P) : V M d pc L (I_ x :: .ref a :: st) n S g k z P := v_zald j hd ha hs hN hN2 hx (by rw [he]; exact h)
theorem v_pa {a N : Nat} {x y : Int} (j : Nat) (hd : M.2.2.2[j]? = some (pc, .aaload, 1)) (ha : 0 < a ∧ a < n) (hs : (S a).1 = 16) (hN : (S a).2.1 = N) (hN2 : N ≤ 100000) (hx : 0 ≤ x ∧ x < (N : Int)) (he : g a x.toNat = y) (h : V M d (pc + 1) L (.ref y.toNat :: st) n S g k z P) : V M d pc L (I_ x :: .ref a :: st) n S g k z P := v_pald j hd ha hs hN hN2 hx (by rw [he]; exact h)
theorem v_ra {a N : Nat} {x y : Int} (j : Nat) (hd : M.2.2.2[j]? = some (pc, .aaload, 1)) (ha : 0 < a ∧ a < n) (hs : (S a).1 = 17) (hN : (S a).2.1 = N) (hN2 : N ≤ 100000) (hx : 0 ≤ x ∧ x < (N : Int)) (he : g a x.toNat = y) (h : V M d (pc + 1) L (.ref y.toNat :: st) n S g k z P) : V M d pc L (I_ x :: .ref a :: st) n S g k z P := v_rald j hd ha hs hN hN2 hx (by rw [he]; exact h)
theorem v_ta {a N : Nat} {x y : Int} (j : Nat) (hd : M.2.2.2[j]? = some (pc, .aaload, 1)) (ha : 0 < a ∧ a < n) (hs : (S a).1 = 18) (hN : (S a).2.1 = N) (hN2 : N ≤ 100000) (hx : 0 ≤ x ∧ x < (N : Int)) (he : g a x.toNat = y) (h : V M d (pc + 1) L (.ref y.toNat :: st) n S g k z P) : V M d pc L (I_ x :: .ref a :: st) n S g k z P := v_tald j hd ha hs hN hN2 hx (by rw [he]; exact h)
theorem v_aa {a N : Nat} {x y : Int} (j : Nat) (hd : M.2.2.2[j]? = some (pc, .aaload, 1)) (ha : 0 < a ∧ a < n) (hs : (S a).1 = 19) (hN : (S a).2.1 = N) (hN2 : N ≤ 100000) (hx : 0 ≤ x ∧ x < (N : Int)) (he : g a x.toNat = y) (h : V M d (pc + 1) L (.ref y.toNat :: st) n S g k z P) : V M d pc L (I_ x :: .ref a :: st) n S g k z P := v_aald j hd ha hs hN hN2 hx (by rw [he]; exact h)
theorem v_ldc {index : Nat} {v : Int} (j : Nat) (hd : M.2.2.2[j]? = some (pc, .ldc index, 2)) (hc : Cond.constant M.1.2.1 index (Int32.ofInt v) ∈ tbG) (h : V M d (pc + 2) L (I_ v :: st) n S g k z P) : V M d pc L st n S g k z P :=
  v_go h fun p l e R s m args below meth c b D dA Q C H locs ls hls w => W.ldc C.1 C.2.1 C.2.2.2.1 (C.2.2.2.2.1 _ hc) rfl (C.dec hd) w
/-- instanceof: 1 where the cell is of the class ci -/
def isK (S : Nat → Shp) (r ci : Nat) : Int := if r = 0 then 0 else if (S r).1 = ci then 1 else 0
theorem v_instRod {r idx : Nat} (j : Nat) (hd : M.2.2.2[j]? = some (pc, .instanceof idx, 3)) (hl : Cond.classLink M.1.2.1 idx "MobileMaker$Rod" ∈ tbG) (hr : r = 0 ∨ Pt n S r) (h : V M d (pc + 3) L (I_ (isK S r 5) :: st) n S g k z P) : V M d pc L (.ref r :: st) n S g k z P := by
  intro p l e R s m args below meth c b D dA Q C hq H locs ls hls hP hS
  have w := h p l e R s m args below meth c b D dA Q C hq H locs ls hls hP hS
  cases r with
  | zero => exact lv_instN C.1 C.2.1 (C.dec hd) w
  | succ r =>
    rcases hr with hr | hr
    · cases hr
    unfold isK at w
    rw [if_neg (Nat.succ_ne_zero r)] at w
    rcases hr.2.1 with q | q | q
    · rw [q, if_neg (by decide)] at w
      obtain ⟨cell, q1, q2, q3, q4⟩ := hP.obj hr.1 q (by decide)
      exact va_instNo C.1 C.2.1 C.2.2.2.1 (C.2.2.2.2.1 _ hl) C.2.2.2.2.2.1.2.1.2 ⟨cell, q1, by rw [q3]; rfl, by rw [q2]; exact (C.2.2.2.2.2.1.1.1 3 _ rfl).2.1⟩ (C.dec hd) w
    · rw [q, if_pos rfl] at w
      obtain ⟨cell, q1, q2, q3, q4⟩ := hP.obj hr.1 q (by decide)
      exact va_instS C.1 C.2.1 C.2.2.2.1 (C.2.2.2.2.1 _ hl) (C.2.2.2.2.2.1.1.1 5 _ rfl).2 ⟨cell, q1, by rw [q3]; rfl, by rw [q2]; exact (C.2.2.2.2.2.1.1.1 5 _ rfl).2.1⟩ (C.dec hd) w
    · rw [q, if_neg (by decide)] at w
      obtain ⟨cell, q1, q2, q3, q4⟩ := hP.obj hr.1 q (by decide)
      exact va_instNo C.1 C.2.1 C.2.2.2.1 (C.2.2.2.2.1 _ hl) C.2.2.2.2.2.1.2.1.1 ⟨cell, q1, by rw [q3]; rfl, by rw [q2]; exact (C.2.2.2.2.2.1.1.1 9 _ rfl).2.1⟩ (C.dec hd) w
theorem v_instPlate {r idx : Nat} (j : Nat) (hd : M.2.2.2[j]? = some (pc, .instanceof idx, 3)) (hl : Cond.classLink M.1.2.1 idx "MobileMaker$Plate" ∈ tbG) (hr : r = 0 ∨ Pt n S r) (h : V M d (pc + 3) L (I_ (isK S r 3) :: st) n S g k z P) : V M d pc L (.ref r :: st) n S g k z P := by
  intro p l e R s m args below meth c b D dA Q C hq H locs ls hls hP hS
  have w := h p l e R s m args below meth c b D dA Q C hq H locs ls hls hP hS
  cases r with
  | zero => exact lv_instN C.1 C.2.1 (C.dec hd) w
  | succ r =>
    rcases hr with hr | hr
    · cases hr
    unfold isK at w
    rw [if_neg (Nat.succ_ne_zero r)] at w
    rcases hr.2.1 with q | q | q
    · rw [q, if_pos rfl] at w
      obtain ⟨cell, q1, q2, q3, q4⟩ := hP.obj hr.1 q (by decide)
      exact va_instS C.1 C.2.1 C.2.2.2.1 (C.2.2.2.2.1 _ hl) (C.2.2.2.2.2.1.1.1 3 _ rfl).2 ⟨cell, q1, by rw [q3]; rfl, by rw [q2]; exact (C.2.2.2.2.2.1.1.1 3 _ rfl).2.1⟩ (C.dec hd) w
    · rw [q, if_neg (by decide)] at w
      obtain ⟨cell, q1, q2, q3, q4⟩ := hP.obj hr.1 q (by decide)
      exact va_instNo C.1 C.2.1 C.2.2.2.1 (C.2.2.2.2.1 _ hl) C.2.2.2.2.2.1.2.2.2 ⟨cell, q1, by rw [q3]; rfl, by rw [q2]; exact (C.2.2.2.2.2.1.1.1 5 _ rfl).2.1⟩ (C.dec hd) w
    · rw [q, if_neg (by decide)] at w
      obtain ⟨cell, q1, q2, q3, q4⟩ := hP.obj hr.1 q (by decide)
      exact va_instNo C.1 C.2.1 C.2.2.2.1 (C.2.2.2.2.1 _ hl) C.2.2.2.2.2.1.2.2.1 ⟨cell, q1, by rw [q3]; rfl, by rw [q2]; exact (C.2.2.2.2.2.1.1.1 9 _ rfl).2.1⟩ (C.dec hd) w
theorem v_cast {r idx ci : Nat} {nm : String} {T : u_T} {N : Nat} (j : Nat) (hd : M.2.2.2[j]? = some (pc, .checkcast idx, 3)) (hl : Cond.classLink M.1.2.1 idx nm ∈ tbG) (hc : vwCl[ci]? = some (nm, T, N)) (hci : ci < 12) (hr : Ob n S r ci) (h : V M d (pc + 3) L (.ref r :: st) n S g k z P) : V M d pc L (.ref r :: st) n S g k z P := by
  intro p l e R s m args below meth c b D dA Q C hq H locs ls hls hP hS
  have w := h p l e R s m args below meth c b D dA Q C hq H locs ls hls hP hS
  obtain ⟨r', rfl⟩ : ∃ r', r = r' + 1 := ⟨r - 1, by have := hr.1.1; omega⟩
  obtain ⟨cell, q1, q2, q3, q4⟩ := hP.obj hr.1 hr.2.1 hci
  exact va_castS C.1 C.2.1 C.2.2.2.1 (C.2.2.2.2.1 _ hl) (C.2.2.2.2.2.1.1.1 ci _ hc).2 ⟨cell, q1, by rw [q3]; rfl, by rw [q2]; exact (C.2.2.2.2.2.1.1.1 ci _ hc).2.1⟩ (C.dec hd) w
theorem v_objInit {r idx : Nat} (j : Nat) (hd : M.2.2.2[j]? = some (pc, .invokespecial idx, 3)) (h1 : Cond.methodLink M.1.2.1 idx objectInit ∈ tbG) (h2 : Cond.instanceMethod objectInit ∈ tbG) (h3 : Cond.code objectInit ⟨#[0xb1]⟩ 1 none ∈ tbG) (hr : 0 < r) (hw : wds st = true) (h : V M (d + 1) (pc + 3) L st n S g k z P) : V M (d + 1) pc L (.ref r :: st) n S g k z P := by
  obtain ⟨r', rfl⟩ : ∃ r', r = r' + 1 := ⟨r - 1, by omega⟩
  refine v_go h fun p l e R s m args below meth c b D dA Q C H locs ls hls w => ?_
  refine W.objInit C.1 C.2.1 C.2.2.2.1 (C.2.2.2.2.1 _ h1) (C.2.2.2.2.1 _ h2) (C.2.2.2.2.1 _ h3) rfl (by rw [C.2.2.1]; exact hls.1) rfl (C.dec hd) (by have := C.2.2.2.2.2.2.2.2.1.1; omega) ?_ w
  have h8 := wds_le (b := b) hw
  have h9 := C.2.2.2.2.2.2.2.2.1.2.1
  show 2 * 0 + _ + 12 ≤ R.locals
  omega
end VRows5
end
