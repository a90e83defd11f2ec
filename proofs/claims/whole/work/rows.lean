section
-- ===== PART A: goes FIRST, ahead of the names: the tables' words, and 'selects' of the private methods out of them =====
/-- a private method of a class that the tables say can be made, by its rows of tables_1 -/
def lw_okq (q : MethodName × Nat) : Prop := (q.1.cls ≠ "java/lang/invoke/MethodHandle" ∧ q.1.cls ≠ "java/lang/invoke/VarHandle") ∧ Cond.instantiable q.1.cls q.2 ∈ tables_1 ∧ Cond.privateMethod q.1 ∈ tables_1 ∧ Cond.instanceMethod q.1 ∈ tables_1
theorem lw_p0 : lw_okq (⟨"SureNoes", "isLaw", "(I)Z"⟩, 6) := ⟨⟨by decide +kernel, by decide +kernel⟩, List.mem_of_getElem? (i := 17) (by decide +kernel), List.mem_of_getElem? (i := 71) (by decide +kernel), List.mem_of_getElem? (i := 72) (by decide +kernel)⟩
theorem lw_p1 : lw_okq (⟨"SureNoes", "areLawsFor", "(II)Z"⟩, 6) := ⟨⟨by decide +kernel, by decide +kernel⟩, List.mem_of_getElem? (i := 17) (by decide +kernel), List.mem_of_getElem? (i := 126) (by decide +kernel), List.mem_of_getElem? (i := 127) (by decide +kernel)⟩
theorem lw_p2 : lw_okq (⟨"SureNoes", "lawsOf", "(I)[LSureNoes$Law;"⟩, 6) := ⟨⟨by decide +kernel, by decide +kernel⟩, List.mem_of_getElem? (i := 17) (by decide +kernel), List.mem_of_getElem? (i := 136) (by decide +kernel), List.mem_of_getElem? (i := 137) (by decide +kernel)⟩
theorem lw_p3 : lw_okq (⟨"SureNoes", "keep", "(LSureNoes$Book;)I"⟩, 6) := ⟨⟨by decide +kernel, by decide +kernel⟩, List.mem_of_getElem? (i := 17) (by decide +kernel), List.mem_of_getElem? (i := 303) (by decide +kernel), List.mem_of_getElem? (i := 304) (by decide +kernel)⟩
theorem lw_p4 : lw_okq (⟨"SureNoes", "find", "(I)LSureNoes$Book;"⟩, 6) := ⟨⟨by decide +kernel, by decide +kernel⟩, List.mem_of_getElem? (i := 17) (by decide +kernel), List.mem_of_getElem? (i := 311) (by decide +kernel), List.mem_of_getElem? (i := 312) (by decide +kernel)⟩
theorem lw_p5 : lw_okq (⟨"SureNoes$Pushed", "firstPlace", "(I)I"⟩, 10) := ⟨⟨by decide +kernel, by decide +kernel⟩, List.mem_of_getElem? (i := 234) (by decide +kernel), List.mem_of_getElem? (i := 409) (by decide +kernel), List.mem_of_getElem? (i := 410) (by decide +kernel)⟩
theorem lw_p6 : lw_okq (⟨"SureNoes$Pushed", "markOf", "(I)I"⟩, 10) := ⟨⟨by decide +kernel, by decide +kernel⟩, List.mem_of_getElem? (i := 234) (by decide +kernel), List.mem_of_getElem? (i := 414) (by decide +kernel), List.mem_of_getElem? (i := 415) (by decide +kernel)⟩
theorem lw_p7 : lw_okq (⟨"SureNoes$Pushed", "otherPlace", "(II)I"⟩, 10) := ⟨⟨by decide +kernel, by decide +kernel⟩, List.mem_of_getElem? (i := 234) (by decide +kernel), List.mem_of_getElem? (i := 422) (by decide +kernel), List.mem_of_getElem? (i := 423) (by decide +kernel)⟩
theorem lw_p8 : lw_okq (⟨"SureNoes$Folded", "together", "(J)I"⟩, 9) := ⟨⟨by decide +kernel, by decide +kernel⟩, List.mem_of_getElem? (i := 259) (by decide +kernel), List.mem_of_getElem? (i := 471) (by decide +kernel), List.mem_of_getElem? (i := 472) (by decide +kernel)⟩
theorem lw_p9 : lw_okq (⟨"SureNoes$Folded", "markOf", "(I)I"⟩, 9) := ⟨⟨by decide +kernel, by decide +kernel⟩, List.mem_of_getElem? (i := 259) (by decide +kernel), List.mem_of_getElem? (i := 476) (by decide +kernel), List.mem_of_getElem? (i := 477) (by decide +kernel)⟩
theorem lw_p10 : lw_okq (⟨"SureNoes$Layered", "placeInRow", "(II)I"⟩, 9) := ⟨⟨by decide +kernel, by decide +kernel⟩, List.mem_of_getElem? (i := 281) (by decide +kernel), List.mem_of_getElem? (i := 484) (by decide +kernel), List.mem_of_getElem? (i := 485) (by decide +kernel)⟩
theorem lw_p11 : lw_okq (⟨"SureNoes$Pushed", "pushInto", "([II)Z"⟩, 10) := ⟨⟨by decide +kernel, by decide +kernel⟩, List.mem_of_getElem? (i := 234) (by decide +kernel), List.mem_of_getElem? (i := 520) (by decide +kernel), List.mem_of_getElem? (i := 521) (by decide +kernel)⟩
theorem lw_p12 : lw_okq (⟨"SureNoes$Folded", "peel", "(J)Z"⟩, 9) := ⟨⟨by decide +kernel, by decide +kernel⟩, List.mem_of_getElem? (i := 259) (by decide +kernel), List.mem_of_getElem? (i := 567) (by decide +kernel), List.mem_of_getElem? (i := 568) (by decide +kernel)⟩
theorem lw_p13 : lw_okq (⟨"SureNoes$Folded", "placesOfOneKey", "(J)J"⟩, 9) := ⟨⟨by decide +kernel, by decide +kernel⟩, List.mem_of_getElem? (i := 259) (by decide +kernel), List.mem_of_getElem? (i := 571) (by decide +kernel), List.mem_of_getElem? (i := 572) (by decide +kernel)⟩
theorem lw_p14 : lw_okq (⟨"SureNoes$Folded", "keyAt", "(JI)I"⟩, 9) := ⟨⟨by decide +kernel, by decide +kernel⟩, List.mem_of_getElem? (i := 259) (by decide +kernel), List.mem_of_getElem? (i := 583) (by decide +kernel), List.mem_of_getElem? (i := 584) (by decide +kernel)⟩
theorem lw_p15 : lw_okq (⟨"SureNoes$Layered", "placesInRow", "(IJ)J"⟩, 9) := ⟨⟨by decide +kernel, by decide +kernel⟩, List.mem_of_getElem? (i := 281) (by decide +kernel), List.mem_of_getElem? (i := 591) (by decide +kernel), List.mem_of_getElem? (i := 592) (by decide +kernel)⟩
def lw_privs_1 : List (MethodName × Nat) := [(⟨"SureNoes", "isLaw", "(I)Z"⟩, 6), (⟨"SureNoes", "areLawsFor", "(II)Z"⟩, 6), (⟨"SureNoes", "lawsOf", "(I)[LSureNoes$Law;"⟩, 6), (⟨"SureNoes", "keep", "(LSureNoes$Book;)I"⟩, 6), (⟨"SureNoes", "find", "(I)LSureNoes$Book;"⟩, 6), (⟨"SureNoes$Pushed", "firstPlace", "(I)I"⟩, 10), (⟨"SureNoes$Pushed", "markOf", "(I)I"⟩, 10), (⟨"SureNoes$Pushed", "otherPlace", "(II)I"⟩, 10), (⟨"SureNoes$Folded", "together", "(J)I"⟩, 9), (⟨"SureNoes$Folded", "markOf", "(I)I"⟩, 9), (⟨"SureNoes$Layered", "placeInRow", "(II)I"⟩, 9), (⟨"SureNoes$Pushed", "pushInto", "([II)Z"⟩, 10), (⟨"SureNoes$Folded", "peel", "(J)Z"⟩, 9), (⟨"SureNoes$Folded", "placesOfOneKey", "(J)J"⟩, 9), (⟨"SureNoes$Folded", "keyAt", "(JI)I"⟩, 9), (⟨"SureNoes$Layered", "placesInRow", "(IJ)J"⟩, 9)]
theorem lw_r1 : ∀ q ∈ lw_privs_1, lw_okq q := List.forall_mem_cons.mpr ⟨lw_p0, List.forall_mem_cons.mpr ⟨lw_p1, List.forall_mem_cons.mpr ⟨lw_p2, List.forall_mem_cons.mpr ⟨lw_p3, List.forall_mem_cons.mpr ⟨lw_p4, List.forall_mem_cons.mpr ⟨lw_p5, List.forall_mem_cons.mpr ⟨lw_p6, List.forall_mem_cons.mpr ⟨lw_p7, List.forall_mem_cons.mpr ⟨lw_p8, List.forall_mem_cons.mpr ⟨lw_p9, List.forall_mem_cons.mpr ⟨lw_p10, List.forall_mem_cons.mpr ⟨lw_p11, List.forall_mem_cons.mpr ⟨lw_p12, List.forall_mem_cons.mpr ⟨lw_p13, List.forall_mem_cons.mpr ⟨lw_p14, List.forall_mem_cons.mpr ⟨lw_p15, fun _ h => absurd h List.not_mem_nil⟩⟩⟩⟩⟩⟩⟩⟩⟩⟩⟩⟩⟩⟩⟩⟩
theorem lw_p16 : lw_okq (⟨"SureNoes$Layered", "thoseInRow", "(IJ)J"⟩, 9) := ⟨⟨by decide +kernel, by decide +kernel⟩, List.mem_of_getElem? (i := 281) (by decide +kernel), List.mem_of_getElem? (i := 595) (by decide +kernel), List.mem_of_getElem? (i := 596) (by decide +kernel)⟩
theorem lw_p17 : lw_okq (⟨"SureNoes", "noteSpots", "(LSureNoes$Book;)V"⟩, 6) := ⟨⟨by decide +kernel, by decide +kernel⟩, List.mem_of_getElem? (i := 17) (by decide +kernel), List.mem_of_getElem? (i := 649) (by decide +kernel), List.mem_of_getElem? (i := 650) (by decide +kernel)⟩
theorem lw_p18 : lw_okq (⟨"SureNoes", "sureMakers", "(J)J"⟩, 6) := ⟨⟨by decide +kernel, by decide +kernel⟩, List.mem_of_getElem? (i := 17) (by decide +kernel), List.mem_of_getElem? (i := 660) (by decide +kernel), List.mem_of_getElem? (i := 661) (by decide +kernel)⟩
theorem lw_p19 : lw_okq (⟨"SureNoes", "makers", "(J)J"⟩, 6) := ⟨⟨by decide +kernel, by decide +kernel⟩, List.mem_of_getElem? (i := 17) (by decide +kernel), List.mem_of_getElem? (i := 664) (by decide +kernel), List.mem_of_getElem? (i := 665) (by decide +kernel)⟩
theorem lw_p20 : lw_okq (⟨"SureNoes$Cover", "letKeyHelp", "(III)V"⟩, 1) := ⟨⟨by decide +kernel, by decide +kernel⟩, List.mem_of_getElem? (i := 669) (by decide +kernel), List.mem_of_getElem? (i := 690) (by decide +kernel), List.mem_of_getElem? (i := 691) (by decide +kernel)⟩
theorem lw_p21 : lw_okq (⟨"SureNoes$Pushed", "allFindPlaces", "(I)Z"⟩, 10) := ⟨⟨by decide +kernel, by decide +kernel⟩, List.mem_of_getElem? (i := 234) (by decide +kernel), List.mem_of_getElem? (i := 709) (by decide +kernel), List.mem_of_getElem? (i := 710) (by decide +kernel)⟩
theorem lw_p22 : lw_okq (⟨"SureNoes$Pushed", "nextLine", "(I)Z"⟩, 10) := ⟨⟨by decide +kernel, by decide +kernel⟩, List.mem_of_getElem? (i := 234) (by decide +kernel), List.mem_of_getElem? (i := 713) (by decide +kernel), List.mem_of_getElem? (i := 714) (by decide +kernel)⟩
theorem lw_p23 : lw_okq (⟨"SureNoes$Pushed", "swapInLine", "(II)V"⟩, 10) := ⟨⟨by decide +kernel, by decide +kernel⟩, List.mem_of_getElem? (i := 234) (by decide +kernel), List.mem_of_getElem? (i := 717) (by decide +kernel), List.mem_of_getElem? (i := 718) (by decide +kernel)⟩
theorem lw_p24 : lw_okq (⟨"SureNoes$Pushed", "tieGroups", "(J)V"⟩, 10) := ⟨⟨by decide +kernel, by decide +kernel⟩, List.mem_of_getElem? (i := 234) (by decide +kernel), List.mem_of_getElem? (i := 729) (by decide +kernel), List.mem_of_getElem? (i := 730) (by decide +kernel)⟩
theorem lw_p25 : lw_okq (⟨"SureNoes$Pushed", "renameGroup", "(II)V"⟩, 10) := ⟨⟨by decide +kernel, by decide +kernel⟩, List.mem_of_getElem? (i := 234) (by decide +kernel), List.mem_of_getElem? (i := 733) (by decide +kernel), List.mem_of_getElem? (i := 734) (by decide +kernel)⟩
theorem lw_p26 : lw_okq (⟨"SureNoes", "keysReallySomewhere", "()J"⟩, 6) := ⟨⟨by decide +kernel, by decide +kernel⟩, List.mem_of_getElem? (i := 17) (by decide +kernel), List.mem_of_getElem? (i := 742) (by decide +kernel), List.mem_of_getElem? (i := 743) (by decide +kernel)⟩
theorem lw_p27 : lw_okq (⟨"SureNoes", "keysHeldEverywhere", "()J"⟩, 6) := ⟨⟨by decide +kernel, by decide +kernel⟩, List.mem_of_getElem? (i := 17) (by decide +kernel), List.mem_of_getElem? (i := 746) (by decide +kernel), List.mem_of_getElem? (i := 747) (by decide +kernel)⟩
theorem lw_p28 : lw_okq (⟨"SureNoes", "digestOfBook", "(JI)J"⟩, 6) := ⟨⟨by decide +kernel, by decide +kernel⟩, List.mem_of_getElem? (i := 17) (by decide +kernel), List.mem_of_getElem? (i := 757) (by decide +kernel), List.mem_of_getElem? (i := 758) (by decide +kernel)⟩
theorem lw_p29 : lw_okq (⟨"SureNoesModel", "isLaw", "(I)Z"⟩, 25) := ⟨⟨by decide +kernel, by decide +kernel⟩, List.mem_of_getElem? (i := 766) (by decide +kernel), List.mem_of_getElem? (i := 861) (by decide +kernel), List.mem_of_getElem? (i := 862) (by decide +kernel)⟩
theorem lw_p30 : lw_okq (⟨"SureNoesModel", "valueOf", "(II)I"⟩, 25) := ⟨⟨by decide +kernel, by decide +kernel⟩, List.mem_of_getElem? (i := 766) (by decide +kernel), List.mem_of_getElem? (i := 869) (by decide +kernel), List.mem_of_getElem? (i := 870) (by decide +kernel)⟩
theorem lw_p31 : lw_okq (⟨"SureNoesModel", "isBook", "(I)Z"⟩, 25) := ⟨⟨by decide +kernel, by decide +kernel⟩, List.mem_of_getElem? (i := 766) (by decide +kernel), List.mem_of_getElem? (i := 913) (by decide +kernel), List.mem_of_getElem? (i := 914) (by decide +kernel)⟩
def lw_privs_2 : List (MethodName × Nat) := [(⟨"SureNoes$Layered", "thoseInRow", "(IJ)J"⟩, 9), (⟨"SureNoes", "noteSpots", "(LSureNoes$Book;)V"⟩, 6), (⟨"SureNoes", "sureMakers", "(J)J"⟩, 6), (⟨"SureNoes", "makers", "(J)J"⟩, 6), (⟨"SureNoes$Cover", "letKeyHelp", "(III)V"⟩, 1), (⟨"SureNoes$Pushed", "allFindPlaces", "(I)Z"⟩, 10), (⟨"SureNoes$Pushed", "nextLine", "(I)Z"⟩, 10), (⟨"SureNoes$Pushed", "swapInLine", "(II)V"⟩, 10), (⟨"SureNoes$Pushed", "tieGroups", "(J)V"⟩, 10), (⟨"SureNoes$Pushed", "renameGroup", "(II)V"⟩, 10), (⟨"SureNoes", "keysReallySomewhere", "()J"⟩, 6), (⟨"SureNoes", "keysHeldEverywhere", "()J"⟩, 6), (⟨"SureNoes", "digestOfBook", "(JI)J"⟩, 6), (⟨"SureNoesModel", "isLaw", "(I)Z"⟩, 25), (⟨"SureNoesModel", "valueOf", "(II)I"⟩, 25), (⟨"SureNoesModel", "isBook", "(I)Z"⟩, 25)]
theorem lw_r2 : ∀ q ∈ lw_privs_2, lw_okq q := List.forall_mem_cons.mpr ⟨lw_p16, List.forall_mem_cons.mpr ⟨lw_p17, List.forall_mem_cons.mpr ⟨lw_p18, List.forall_mem_cons.mpr ⟨lw_p19, List.forall_mem_cons.mpr ⟨lw_p20, List.forall_mem_cons.mpr ⟨lw_p21, List.forall_mem_cons.mpr ⟨lw_p22, List.forall_mem_cons.mpr ⟨lw_p23, List.forall_mem_cons.mpr ⟨lw_p24, List.forall_mem_cons.mpr ⟨lw_p25, List.forall_mem_cons.mpr ⟨lw_p26, List.forall_mem_cons.mpr ⟨lw_p27, List.forall_mem_cons.mpr ⟨lw_p28, List.forall_mem_cons.mpr ⟨lw_p29, List.forall_mem_cons.mpr ⟨lw_p30, List.forall_mem_cons.mpr ⟨lw_p31, fun _ h => absurd h List.not_mem_nil⟩⟩⟩⟩⟩⟩⟩⟩⟩⟩⟩⟩⟩⟩⟩⟩
theorem lw_p32 : lw_okq (⟨"SureNoesModel", "aboutOf", "(II)I"⟩, 25) := ⟨⟨by decide +kernel, by decide +kernel⟩, List.mem_of_getElem? (i := 766) (by decide +kernel), List.mem_of_getElem? (i := 921) (by decide +kernel), List.mem_of_getElem? (i := 922) (by decide +kernel)⟩
theorem lw_p33 : lw_okq (⟨"SureNoesModel", "numbersAbove", "(I)I"⟩, 25) := ⟨⟨by decide +kernel, by decide +kernel⟩, List.mem_of_getElem? (i := 766) (by decide +kernel), List.mem_of_getElem? (i := 925) (by decide +kernel), List.mem_of_getElem? (i := 926) (by decide +kernel)⟩
theorem lw_p34 : lw_okq (⟨"SureNoesModel", "reallyIn", "(I)J"⟩, 25) := ⟨⟨by decide +kernel, by decide +kernel⟩, List.mem_of_getElem? (i := 766) (by decide +kernel), List.mem_of_getElem? (i := 929) (by decide +kernel), List.mem_of_getElem? (i := 930) (by decide +kernel)⟩
theorem lw_p35 : lw_okq (⟨"SureNoesModel", "placesOf", "(II)J"⟩, 25) := ⟨⟨by decide +kernel, by decide +kernel⟩, List.mem_of_getElem? (i := 766) (by decide +kernel), List.mem_of_getElem? (i := 946) (by decide +kernel), List.mem_of_getElem? (i := 947) (by decide +kernel)⟩
theorem lw_p36 : lw_okq (⟨"SureNoesModel", "firstPlace", "(II)I"⟩, 25) := ⟨⟨by decide +kernel, by decide +kernel⟩, List.mem_of_getElem? (i := 766) (by decide +kernel), List.mem_of_getElem? (i := 950) (by decide +kernel), List.mem_of_getElem? (i := 951) (by decide +kernel)⟩
theorem lw_p37 : lw_okq (⟨"SureNoesModel", "lawAt", "(II)I"⟩, 25) := ⟨⟨by decide +kernel, by decide +kernel⟩, List.mem_of_getElem? (i := 766) (by decide +kernel), List.mem_of_getElem? (i := 954) (by decide +kernel), List.mem_of_getElem? (i := 955) (by decide +kernel)⟩
theorem lw_p38 : lw_okq (⟨"SureNoesModel", "pushedMark", "(II)I"⟩, 25) := ⟨⟨by decide +kernel, by decide +kernel⟩, List.mem_of_getElem? (i := 766) (by decide +kernel), List.mem_of_getElem? (i := 958) (by decide +kernel), List.mem_of_getElem? (i := 959) (by decide +kernel)⟩
theorem lw_p39 : lw_okq (⟨"SureNoesModel", "otherPlace", "(III)I"⟩, 25) := ⟨⟨by decide +kernel, by decide +kernel⟩, List.mem_of_getElem? (i := 766) (by decide +kernel), List.mem_of_getElem? (i := 965) (by decide +kernel), List.mem_of_getElem? (i := 966) (by decide +kernel)⟩
theorem lw_p40 : lw_okq (⟨"SureNoesModel", "placeBy", "(III)I"⟩, 25) := ⟨⟨by decide +kernel, by decide +kernel⟩, List.mem_of_getElem? (i := 766) (by decide +kernel), List.mem_of_getElem? (i := 969) (by decide +kernel), List.mem_of_getElem? (i := 970) (by decide +kernel)⟩
theorem lw_p41 : lw_okq (⟨"SureNoesModel", "isIn", "(II)Z"⟩, 25) := ⟨⟨by decide +kernel, by decide +kernel⟩, List.mem_of_getElem? (i := 766) (by decide +kernel), List.mem_of_getElem? (i := 977) (by decide +kernel), List.mem_of_getElem? (i := 978) (by decide +kernel)⟩
theorem lw_p42 : lw_okq (⟨"SureNoesModel", "together", "(II)I"⟩, 25) := ⟨⟨by decide +kernel, by decide +kernel⟩, List.mem_of_getElem? (i := 766) (by decide +kernel), List.mem_of_getElem? (i := 981) (by decide +kernel), List.mem_of_getElem? (i := 982) (by decide +kernel)⟩
theorem lw_p43 : lw_okq (⟨"SureNoesModel", "layerPlace", "(III)I"⟩, 25) := ⟨⟨by decide +kernel, by decide +kernel⟩, List.mem_of_getElem? (i := 766) (by decide +kernel), List.mem_of_getElem? (i := 985) (by decide +kernel), List.mem_of_getElem? (i := 986) (by decide +kernel)⟩
theorem lw_p44 : lw_okq (⟨"SureNoesModel", "filled", "(I)J"⟩, 25) := ⟨⟨by decide +kernel, by decide +kernel⟩, List.mem_of_getElem? (i := 766) (by decide +kernel), List.mem_of_getElem? (i := 989) (by decide +kernel), List.mem_of_getElem? (i := 990) (by decide +kernel)⟩
theorem lw_p45 : lw_okq (⟨"SureNoesModel", "push", "(II)Z"⟩, 25) := ⟨⟨by decide +kernel, by decide +kernel⟩, List.mem_of_getElem? (i := 766) (by decide +kernel), List.mem_of_getElem? (i := 994) (by decide +kernel), List.mem_of_getElem? (i := 995) (by decide +kernel)⟩
theorem lw_p46 : lw_okq (⟨"SureNoesModel", "fold", "(IJ)Z"⟩, 25) := ⟨⟨by decide +kernel, by decide +kernel⟩, List.mem_of_getElem? (i := 766) (by decide +kernel), List.mem_of_getElem? (i := 1006) (by decide +kernel), List.mem_of_getElem? (i := 1007) (by decide +kernel)⟩
theorem lw_p47 : lw_okq (⟨"SureNoesModel", "lonePlace", "(IJ)I"⟩, 25) := ⟨⟨by decide +kernel, by decide +kernel⟩, List.mem_of_getElem? (i := 766) (by decide +kernel), List.mem_of_getElem? (i := 1010) (by decide +kernel), List.mem_of_getElem? (i := 1011) (by decide +kernel)⟩
def lw_privs_3 : List (MethodName × Nat) := [(⟨"SureNoesModel", "aboutOf", "(II)I"⟩, 25), (⟨"SureNoesModel", "numbersAbove", "(I)I"⟩, 25), (⟨"SureNoesModel", "reallyIn", "(I)J"⟩, 25), (⟨"SureNoesModel", "placesOf", "(II)J"⟩, 25), (⟨"SureNoesModel", "firstPlace", "(II)I"⟩, 25), (⟨"SureNoesModel", "lawAt", "(II)I"⟩, 25), (⟨"SureNoesModel", "pushedMark", "(II)I"⟩, 25), (⟨"SureNoesModel", "otherPlace", "(III)I"⟩, 25), (⟨"SureNoesModel", "placeBy", "(III)I"⟩, 25), (⟨"SureNoesModel", "isIn", "(II)Z"⟩, 25), (⟨"SureNoesModel", "together", "(II)I"⟩, 25), (⟨"SureNoesModel", "layerPlace", "(III)I"⟩, 25), (⟨"SureNoesModel", "filled", "(I)J"⟩, 25), (⟨"SureNoesModel", "push", "(II)Z"⟩, 25), (⟨"SureNoesModel", "fold", "(IJ)Z"⟩, 25), (⟨"SureNoesModel", "lonePlace", "(IJ)I"⟩, 25)]
theorem lw_r3 : ∀ q ∈ lw_privs_3, lw_okq q := List.forall_mem_cons.mpr ⟨lw_p32, List.forall_mem_cons.mpr ⟨lw_p33, List.forall_mem_cons.mpr ⟨lw_p34, List.forall_mem_cons.mpr ⟨lw_p35, List.forall_mem_cons.mpr ⟨lw_p36, List.forall_mem_cons.mpr ⟨lw_p37, List.forall_mem_cons.mpr ⟨lw_p38, List.forall_mem_cons.mpr ⟨lw_p39, List.forall_mem_cons.mpr ⟨lw_p40, List.forall_mem_cons.mpr ⟨lw_p41, List.forall_mem_cons.mpr ⟨lw_p42, List.forall_mem_cons.mpr ⟨lw_p43, List.forall_mem_cons.mpr ⟨lw_p44, List.forall_mem_cons.mpr ⟨lw_p45, List.forall_mem_cons.mpr ⟨lw_p46, List.forall_mem_cons.mpr ⟨lw_p47, fun _ h => absurd h List.not_mem_nil⟩⟩⟩⟩⟩⟩⟩⟩⟩⟩⟩⟩⟩⟩⟩⟩
theorem lw_p48 : lw_okq (⟨"SureNoesModel", "layer", "(IJJ)Z"⟩, 25) := ⟨⟨by decide +kernel, by decide +kernel⟩, List.mem_of_getElem? (i := 766) (by decide +kernel), List.mem_of_getElem? (i := 1014) (by decide +kernel), List.mem_of_getElem? (i := 1015) (by decide +kernel)⟩
theorem lw_p49 : lw_okq (⟨"SureNoesModel", "thoseIn", "(IIJ)J"⟩, 25) := ⟨⟨by decide +kernel, by decide +kernel⟩, List.mem_of_getElem? (i := 766) (by decide +kernel), List.mem_of_getElem? (i := 1018) (by decide +kernel), List.mem_of_getElem? (i := 1019) (by decide +kernel)⟩
theorem lw_p50 : lw_okq (⟨"SureNoesModel", "keysOf", "(II)J"⟩, 25) := ⟨⟨by decide +kernel, by decide +kernel⟩, List.mem_of_getElem? (i := 766) (by decide +kernel), List.mem_of_getElem? (i := 1030) (by decide +kernel), List.mem_of_getElem? (i := 1031) (by decide +kernel)⟩
theorem lw_p51 : lw_okq (⟨"SureNoesModel", "allIn", "(I)J"⟩, 25) := ⟨⟨by decide +kernel, by decide +kernel⟩, List.mem_of_getElem? (i := 766) (by decide +kernel), List.mem_of_getElem? (i := 1034) (by decide +kernel), List.mem_of_getElem? (i := 1035) (by decide +kernel)⟩
theorem lw_p52 : lw_okq (⟨"SureNoesModel", "layPlaces", "(I)V"⟩, 25) := ⟨⟨by decide +kernel, by decide +kernel⟩, List.mem_of_getElem? (i := 766) (by decide +kernel), List.mem_of_getElem? (i := 1055) (by decide +kernel), List.mem_of_getElem? (i := 1056) (by decide +kernel)⟩
theorem lw_p53 : lw_okq (⟨"SureNoesModel", "spoilBy", "(IJI)J"⟩, 25) := ⟨⟨by decide +kernel, by decide +kernel⟩, List.mem_of_getElem? (i := 766) (by decide +kernel), List.mem_of_getElem? (i := 1059) (by decide +kernel), List.mem_of_getElem? (i := 1060) (by decide +kernel)⟩
theorem lw_p54 : lw_okq (⟨"SureNoesModel", "unionOf", "(JI)J"⟩, 25) := ⟨⟨by decide +kernel, by decide +kernel⟩, List.mem_of_getElem? (i := 766) (by decide +kernel), List.mem_of_getElem? (i := 1067) (by decide +kernel), List.mem_of_getElem? (i := 1068) (by decide +kernel)⟩
theorem lw_p55 : lw_okq (⟨"SureNoesModel", "cover", "(JJ)V"⟩, 25) := ⟨⟨by decide +kernel, by decide +kernel⟩, List.mem_of_getElem? (i := 766) (by decide +kernel), List.mem_of_getElem? (i := 1072) (by decide +kernel), List.mem_of_getElem? (i := 1073) (by decide +kernel)⟩
theorem lw_p56 : lw_okq (⟨"SureNoesModel", "layOrder", "(II)V"⟩, 25) := ⟨⟨by decide +kernel, by decide +kernel⟩, List.mem_of_getElem? (i := 766) (by decide +kernel), List.mem_of_getElem? (i := 1083) (by decide +kernel), List.mem_of_getElem? (i := 1084) (by decide +kernel)⟩
theorem lw_p57 : lw_okq (⟨"SureNoesModel", "goes", "(II)Z"⟩, 25) := ⟨⟨by decide +kernel, by decide +kernel⟩, List.mem_of_getElem? (i := 766) (by decide +kernel), List.mem_of_getElem? (i := 1087) (by decide +kernel), List.mem_of_getElem? (i := 1088) (by decide +kernel)⟩
theorem lw_p58 : lw_okq (⟨"SureNoesModel", "head", "(I)I"⟩, 25) := ⟨⟨by decide +kernel, by decide +kernel⟩, List.mem_of_getElem? (i := 766) (by decide +kernel), List.mem_of_getElem? (i := 1095) (by decide +kernel), List.mem_of_getElem? (i := 1096) (by decide +kernel)⟩
theorem lw_p59 : lw_okq (⟨"SureNoesModel", "howMany", "(I)I"⟩, 25) := ⟨⟨by decide +kernel, by decide +kernel⟩, List.mem_of_getElem? (i := 766) (by decide +kernel), List.mem_of_getElem? (i := 1103) (by decide +kernel), List.mem_of_getElem? (i := 1104) (by decide +kernel)⟩
theorem lw_p60 : lw_okq (⟨"SureNoesModel", "mix", "(J)V"⟩, 25) := ⟨⟨by decide +kernel, by decide +kernel⟩, List.mem_of_getElem? (i := 766) (by decide +kernel), List.mem_of_getElem? (i := 1112) (by decide +kernel), List.mem_of_getElem? (i := 1113) (by decide +kernel)⟩
def lw_privs_4 : List (MethodName × Nat) := [(⟨"SureNoesModel", "layer", "(IJJ)Z"⟩, 25), (⟨"SureNoesModel", "thoseIn", "(IIJ)J"⟩, 25), (⟨"SureNoesModel", "keysOf", "(II)J"⟩, 25), (⟨"SureNoesModel", "allIn", "(I)J"⟩, 25), (⟨"SureNoesModel", "layPlaces", "(I)V"⟩, 25), (⟨"SureNoesModel", "spoilBy", "(IJI)J"⟩, 25), (⟨"SureNoesModel", "unionOf", "(JI)J"⟩, 25), (⟨"SureNoesModel", "cover", "(JJ)V"⟩, 25), (⟨"SureNoesModel", "layOrder", "(II)V"⟩, 25), (⟨"SureNoesModel", "goes", "(II)Z"⟩, 25), (⟨"SureNoesModel", "head", "(I)I"⟩, 25), (⟨"SureNoesModel", "howMany", "(I)I"⟩, 25), (⟨"SureNoesModel", "mix", "(J)V"⟩, 25)]
theorem lw_r4 : ∀ q ∈ lw_privs_4, lw_okq q := List.forall_mem_cons.mpr ⟨lw_p48, List.forall_mem_cons.mpr ⟨lw_p49, List.forall_mem_cons.mpr ⟨lw_p50, List.forall_mem_cons.mpr ⟨lw_p51, List.forall_mem_cons.mpr ⟨lw_p52, List.forall_mem_cons.mpr ⟨lw_p53, List.forall_mem_cons.mpr ⟨lw_p54, List.forall_mem_cons.mpr ⟨lw_p55, List.forall_mem_cons.mpr ⟨lw_p56, List.forall_mem_cons.mpr ⟨lw_p57, List.forall_mem_cons.mpr ⟨lw_p58, List.forall_mem_cons.mpr ⟨lw_p59, List.forall_mem_cons.mpr ⟨lw_p60, fun _ h => absurd h List.not_mem_nil⟩⟩⟩⟩⟩⟩⟩⟩⟩⟩⟩⟩⟩
def lw_privs : List (MethodName × Nat) := lw_privs_1 ++ (lw_privs_2 ++ (lw_privs_3 ++ (lw_privs_4)))
def lw_tbl : List Cond := k2_sels lw_privs ++ tables_1
theorem lw_privs_ok : ∀ q ∈ lw_privs, lw_okq q := by
  show ∀ q ∈ lw_privs_1 ++ (lw_privs_2 ++ (lw_privs_3 ++ (lw_privs_4))), lw_okq q
  exact List.forall_mem_append.mpr ⟨lw_r1, List.forall_mem_append.mpr ⟨lw_r2, List.forall_mem_append.mpr ⟨lw_r3, lw_r4⟩⟩⟩
-- the words that every contract takes: those of the tables that keep
def sn_gw : List Cond := lw_tbl.filter goodWord
theorem sn_in (i : Nat) {w : Cond} (h : tables_1[i]? = some w) (g : goodWord w = true) : w ∈ sn_gw := List.mem_filter.mpr ⟨List.mem_append_right _ (List.mem_of_getElem? h), g⟩
theorem sn_inP (i : Nat) {w : Cond} (h : (k2_sels lw_privs)[i]? = some w) (g : goodWord w = true) : w ∈ sn_gw := List.mem_filter.mpr ⟨List.mem_append_left _ (List.mem_of_getElem? h), g⟩
theorem sn_inN (i : Nat) {w : Cond} (h : tables_1[i]? = some w) : w ∈ lw_tbl := List.mem_append_right _ (List.mem_of_getElem? h)
theorem sn_gw_good : ∀ w ∈ sn_gw, w ∈ lw_tbl ∧ goodWord w = true := fun _ h => List.mem_filter.mp h
theorem tw_0 : (Jvm.Cond.initialized "SureNoesLaw") ∈ sn_gw := sn_in 0 (by decide +kernel) (by decide +kernel)
theorem tw_1 : (Jvm.Cond.initialized "SureNoes") ∈ sn_gw := sn_in 1 (by decide +kernel) (by decide +kernel)
theorem tw_2 : (Jvm.Cond.initialized "SureNoesModel") ∈ sn_gw := sn_in 2 (by decide +kernel) (by decide +kernel)
theorem tw_3 : (Jvm.Cond.initialized "SureNoes$Law") ∈ sn_gw := sn_in 3 (by decide +kernel) (by decide +kernel)
theorem tw_4 : (Jvm.Cond.initialized "java/lang/Integer") ∈ sn_gw := sn_in 4 (by decide +kernel) (by decide +kernel)
theorem tw_5 : (Jvm.Cond.initialized "SureNoes$Book") ∈ sn_gw := sn_in 5 (by decide +kernel) (by decide +kernel)
theorem tw_6 : (Jvm.Cond.initialized "SureNoes$Plain") ∈ sn_gw := sn_in 6 (by decide +kernel) (by decide +kernel)
theorem tw_7 : (Jvm.Cond.initialized "SureNoes$Counted") ∈ sn_gw := sn_in 7 (by decide +kernel) (by decide +kernel)
theorem tw_8 : (Jvm.Cond.initialized "SureNoes$Parted") ∈ sn_gw := sn_in 8 (by decide +kernel) (by decide +kernel)
theorem tw_9 : (Jvm.Cond.initialized "SureNoes$Pushed") ∈ sn_gw := sn_in 9 (by decide +kernel) (by decide +kernel)
theorem tw_10 : (Jvm.Cond.initialized "SureNoes$Folded") ∈ sn_gw := sn_in 10 (by decide +kernel) (by decide +kernel)
theorem tw_11 : (Jvm.Cond.initialized "SureNoes$Layered") ∈ sn_gw := sn_in 11 (by decide +kernel) (by decide +kernel)
theorem tw_12 : (Jvm.Cond.initialized "java/lang/Long") ∈ sn_gw := sn_in 12 (by decide +kernel) (by decide +kernel)
theorem tw_13 : (Jvm.Cond.initialized "java/lang/Math") ∈ sn_gw := sn_in 13 (by decide +kernel) (by decide +kernel)
theorem tw_14 : (Jvm.Cond.initialized "java/lang/System") ∈ sn_gw := sn_in 14 (by decide +kernel) (by decide +kernel)
theorem tw_15 : (Jvm.Cond.initialized "SureNoes$Cover") ∈ sn_gw := sn_in 15 (by decide +kernel) (by decide +kernel)
theorem tw_16 : (Jvm.Cond.classLink "SureNoesLaw" (7 : Nat) "SureNoes") ∈ sn_gw := sn_in 16 (by decide +kernel) (by decide +kernel)
theorem tw_17 : (Jvm.Cond.instantiable "SureNoes" (6 : Nat)) ∈ sn_gw := sn_in 17 (by decide +kernel) (by decide +kernel)
theorem tw_18 : (Jvm.Cond.methodLink "SureNoesLaw" (9 : Nat) ({ cls := "SureNoes", name := "<init>", desc := "()V" } : Jvm.MethodName)) ∈ sn_gw := sn_in 18 (by decide +kernel) (by decide +kernel)
theorem tw_19 : (Jvm.Cond.instanceMethod ({ cls := "SureNoes", name := "<init>", desc := "()V" } : Jvm.MethodName)) ∈ sn_gw := sn_in 19 (by decide +kernel) (by decide +kernel)
theorem tw_20 : (Jvm.Cond.code ({ cls := "SureNoes", name := "<init>", desc := "()V" } : Jvm.MethodName) prog_1_method_1_code (1 : Nat) (Option.none : Option Jvm.ClassFile.FieldType)) ∈ sn_gw := sn_in 20 (by decide +kernel) (by decide +kernel)
theorem tw_21 : (Jvm.Cond.methodLink "SureNoes" (1 : Nat) ({ cls := "java/lang/Object", name := "<init>", desc := "()V" } : Jvm.MethodName)) ∈ sn_gw := sn_in 21 (by decide +kernel) (by decide +kernel)
theorem tw_22 : (Jvm.Cond.instanceMethod ({ cls := "java/lang/Object", name := "<init>", desc := "()V" } : Jvm.MethodName)) ∈ sn_gw := sn_in 22 (by decide +kernel) (by decide +kernel)
theorem tw_23 : (Jvm.Cond.code ({ cls := "java/lang/Object", name := "<init>", desc := "()V" } : Jvm.MethodName) object_method_1_code (1 : Nat) (Option.none : Option Jvm.ClassFile.FieldType)) ∈ sn_gw := sn_in 23 (by decide +kernel) (by decide +kernel)
theorem tw_24 : (Jvm.Cond.classLink "SureNoes" (9 : Nat) "SureNoes$Law") ∈ sn_gw := sn_in 24 (by decide +kernel) (by decide +kernel)
theorem tn_25 : (Jvm.Cond.arrayOver (Jvm.ClassFile.FieldType.object "SureNoes$Law")) ∈ lw_tbl := sn_inN 25 (by decide +kernel)
theorem tw_26 : (Jvm.Cond.classLink "SureNoes" (19 : Nat) "SureNoes$Book") ∈ sn_gw := sn_in 26 (by decide +kernel) (by decide +kernel)
theorem tn_27 : (Jvm.Cond.arrayOver (Jvm.ClassFile.FieldType.object "SureNoes$Book")) ∈ lw_tbl := sn_inN 27 (by decide +kernel)
theorem tw_28 : (Jvm.Cond.fieldLink "SureNoes" (11 : Nat) "SureNoes" "toldLaws" "[LSureNoes$Law;") ∈ sn_gw := sn_in 28 (by decide +kernel) (by decide +kernel)
theorem tw_29 : (Jvm.Cond.fieldLink "SureNoes" (15 : Nat) "SureNoes" "lawCount" "I") ∈ sn_gw := sn_in 29 (by decide +kernel) (by decide +kernel)
theorem tw_30 : (Jvm.Cond.fieldLink "SureNoes" (21 : Nat) "SureNoes" "toldBooks" "[LSureNoes$Book;") ∈ sn_gw := sn_in 30 (by decide +kernel) (by decide +kernel)
theorem tw_31 : (Jvm.Cond.fieldLink "SureNoes" (25 : Nat) "SureNoes" "bookCount" "I") ∈ sn_gw := sn_in 31 (by decide +kernel) (by decide +kernel)
theorem tw_32 : (Jvm.Cond.fieldLink "SureNoes" (28 : Nat) "SureNoes" "spots" "[J") ∈ sn_gw := sn_in 32 (by decide +kernel) (by decide +kernel)
theorem tw_33 : (Jvm.Cond.fieldLink "SureNoes" (32 : Nat) "SureNoes" "cover" "LSureNoes$Cover;") ∈ sn_gw := sn_in 33 (by decide +kernel) (by decide +kernel)
theorem tw_34 : (Jvm.Cond.laysFinal "SureNoes" "SureNoes" "toldLaws" "[LSureNoes$Law;") ∈ sn_gw := sn_in 34 (by decide +kernel) (by decide +kernel)
theorem tw_36 : (Jvm.Cond.lays "SureNoes" "SureNoes" "lawCount" "I") ∈ sn_gw := sn_in 36 (by decide +kernel) (by decide +kernel)
theorem tw_38 : (Jvm.Cond.laysFinal "SureNoes" "SureNoes" "toldBooks" "[LSureNoes$Book;") ∈ sn_gw := sn_in 38 (by decide +kernel) (by decide +kernel)
theorem tw_40 : (Jvm.Cond.lays "SureNoes" "SureNoes" "bookCount" "I") ∈ sn_gw := sn_in 40 (by decide +kernel) (by decide +kernel)
theorem tw_42 : (Jvm.Cond.laysFinal "SureNoes" "SureNoes" "spots" "[J") ∈ sn_gw := sn_in 42 (by decide +kernel) (by decide +kernel)
theorem tw_44 : (Jvm.Cond.lays "SureNoes" "SureNoes" "cover" "LSureNoes$Cover;") ∈ sn_gw := sn_in 44 (by decide +kernel) (by decide +kernel)
theorem tw_47 : (Jvm.Cond.arrayClass Jvm.ClassFile.FieldType.long) ∈ sn_gw := sn_in 47 (by decide +kernel) (by decide +kernel)
theorem tw_48 : (Jvm.Cond.methodLink "SureNoesLaw" (13 : Nat) ({ cls := "SureNoes", name := "law", desc := "(II)I" } : Jvm.MethodName)) ∈ sn_gw := sn_in 48 (by decide +kernel) (by decide +kernel)
theorem tw_49 : (Jvm.Cond.instanceMethod ({ cls := "SureNoes", name := "law", desc := "(II)I" } : Jvm.MethodName)) ∈ sn_gw := sn_in 49 (by decide +kernel) (by decide +kernel)
theorem tw_50 : (Jvm.Cond.selects "SureNoes" ({ cls := "SureNoes", name := "law", desc := "(II)I" } : Jvm.MethodName) ({ cls := "SureNoes", name := "law", desc := "(II)I" } : Jvm.MethodName)) ∈ sn_gw := sn_in 50 (by decide +kernel) (by decide +kernel)
theorem tw_51 : (Jvm.Cond.code ({ cls := "SureNoes", name := "law", desc := "(II)I" } : Jvm.MethodName) prog_1_method_2_code (3 : Nat) (Option.some Jvm.ClassFile.FieldType.int)) ∈ sn_gw := sn_in 51 (by decide +kernel) (by decide +kernel)
theorem tw_52 : (Jvm.Cond.instantiable "SureNoes$Law" (2 : Nat)) ∈ sn_gw := sn_in 52 (by decide +kernel) (by decide +kernel)
theorem tw_53 : (Jvm.Cond.methodLink "SureNoes" (36 : Nat) ({ cls := "SureNoes$Law", name := "<init>", desc := "(II)V" } : Jvm.MethodName)) ∈ sn_gw := sn_in 53 (by decide +kernel) (by decide +kernel)
theorem tw_54 : (Jvm.Cond.instanceMethod ({ cls := "SureNoes$Law", name := "<init>", desc := "(II)V" } : Jvm.MethodName)) ∈ sn_gw := sn_in 54 (by decide +kernel) (by decide +kernel)
theorem tw_55 : (Jvm.Cond.code ({ cls := "SureNoes$Law", name := "<init>", desc := "(II)V" } : Jvm.MethodName) prog_6_method_1_code (3 : Nat) (Option.none : Option Jvm.ClassFile.FieldType)) ∈ sn_gw := sn_in 55 (by decide +kernel) (by decide +kernel)
theorem tw_56 : (Jvm.Cond.methodLink "SureNoes$Law" (3 : Nat) ({ cls := "java/lang/Object", name := "<init>", desc := "()V" } : Jvm.MethodName)) ∈ sn_gw := sn_in 56 (by decide +kernel) (by decide +kernel)
theorem tw_57 : (Jvm.Cond.fieldLink "SureNoes$Law" (9 : Nat) "SureNoes$Law" "a" "I") ∈ sn_gw := sn_in 57 (by decide +kernel) (by decide +kernel)
theorem tw_58 : (Jvm.Cond.fieldLink "SureNoes" (77 : Nat) "SureNoes$Law" "a" "I") ∈ sn_gw := sn_in 58 (by decide +kernel) (by decide +kernel)
theorem tw_59 : (Jvm.Cond.fieldLink "SureNoes$Law" (15 : Nat) "SureNoes$Law" "b" "I") ∈ sn_gw := sn_in 59 (by decide +kernel) (by decide +kernel)
theorem tw_60 : (Jvm.Cond.fieldLink "SureNoes" (80 : Nat) "SureNoes$Law" "b" "I") ∈ sn_gw := sn_in 60 (by decide +kernel) (by decide +kernel)
theorem tw_61 : (Jvm.Cond.laysFinal "SureNoes$Law" "SureNoes$Law" "a" "I") ∈ sn_gw := sn_in 61 (by decide +kernel) (by decide +kernel)
theorem tw_63 : (Jvm.Cond.laysFinal "SureNoes$Law" "SureNoes$Law" "b" "I") ∈ sn_gw := sn_in 63 (by decide +kernel) (by decide +kernel)
theorem tw_66 : (Jvm.Cond.methodLink "SureNoesLaw" (18 : Nat) ({ cls := "SureNoes", name := "value", desc := "(II)I" } : Jvm.MethodName)) ∈ sn_gw := sn_in 66 (by decide +kernel) (by decide +kernel)
theorem tw_67 : (Jvm.Cond.instanceMethod ({ cls := "SureNoes", name := "value", desc := "(II)I" } : Jvm.MethodName)) ∈ sn_gw := sn_in 67 (by decide +kernel) (by decide +kernel)
theorem tw_68 : (Jvm.Cond.selects "SureNoes" ({ cls := "SureNoes", name := "value", desc := "(II)I" } : Jvm.MethodName) ({ cls := "SureNoes", name := "value", desc := "(II)I" } : Jvm.MethodName)) ∈ sn_gw := sn_in 68 (by decide +kernel) (by decide +kernel)
theorem tw_69 : (Jvm.Cond.code ({ cls := "SureNoes", name := "value", desc := "(II)I" } : Jvm.MethodName) prog_1_method_3_code (3 : Nat) (Option.some Jvm.ClassFile.FieldType.int)) ∈ sn_gw := sn_in 69 (by decide +kernel) (by decide +kernel)
theorem tw_70 : (Jvm.Cond.methodLink "SureNoes" (39 : Nat) ({ cls := "SureNoes", name := "isLaw", desc := "(I)Z" } : Jvm.MethodName)) ∈ sn_gw := sn_in 70 (by decide +kernel) (by decide +kernel)
theorem tw_72 : (Jvm.Cond.instanceMethod ({ cls := "SureNoes", name := "isLaw", desc := "(I)Z" } : Jvm.MethodName)) ∈ sn_gw := sn_in 72 (by decide +kernel) (by decide +kernel)
theorem tw_73 : (Jvm.Cond.code ({ cls := "SureNoes", name := "isLaw", desc := "(I)Z" } : Jvm.MethodName) prog_1_method_30_code (2 : Nat) (Option.some Jvm.ClassFile.FieldType.boolean)) ∈ sn_gw := sn_in 73 (by decide +kernel) (by decide +kernel)
theorem tw_74 : (Jvm.Cond.methodLink "SureNoes" (43 : Nat) ({ cls := "SureNoes", name := "isKey", desc := "(I)Z" } : Jvm.MethodName)) ∈ sn_gw := sn_in 74 (by decide +kernel) (by decide +kernel)
theorem tw_75 : (Jvm.Cond.static ({ cls := "SureNoes", name := "isKey", desc := "(I)Z" } : Jvm.MethodName)) ∈ sn_gw := sn_in 75 (by decide +kernel) (by decide +kernel)
theorem tw_76 : (Jvm.Cond.code ({ cls := "SureNoes", name := "isKey", desc := "(I)Z" } : Jvm.MethodName) prog_1_method_26_code (1 : Nat) (Option.some Jvm.ClassFile.FieldType.boolean)) ∈ sn_gw := sn_in 76 (by decide +kernel) (by decide +kernel)
theorem tw_77 : (Jvm.Cond.methodLink "SureNoes" (46 : Nat) ({ cls := "SureNoes$Law", name := "valueFor", desc := "(I)I" } : Jvm.MethodName)) ∈ sn_gw := sn_in 77 (by decide +kernel) (by decide +kernel)
theorem tw_78 : (Jvm.Cond.instanceMethod ({ cls := "SureNoes$Law", name := "valueFor", desc := "(I)I" } : Jvm.MethodName)) ∈ sn_gw := sn_in 78 (by decide +kernel) (by decide +kernel)
theorem tw_79 : (Jvm.Cond.selects "SureNoes$Law" ({ cls := "SureNoes$Law", name := "valueFor", desc := "(I)I" } : Jvm.MethodName) ({ cls := "SureNoes$Law", name := "valueFor", desc := "(I)I" } : Jvm.MethodName)) ∈ sn_gw := sn_in 79 (by decide +kernel) (by decide +kernel)
theorem tw_80 : (Jvm.Cond.code ({ cls := "SureNoes$Law", name := "valueFor", desc := "(I)I" } : Jvm.MethodName) prog_6_method_2_code (2 : Nat) (Option.some Jvm.ClassFile.FieldType.int)) ∈ sn_gw := sn_in 80 (by decide +kernel) (by decide +kernel)
theorem tw_81 : (Jvm.Cond.methodLink "SureNoesLaw" (24 : Nat) ({ cls := "SureNoes", name := "odds", desc := "(JIII)I" } : Jvm.MethodName)) ∈ sn_gw := sn_in 81 (by decide +kernel) (by decide +kernel)
theorem tw_82 : (Jvm.Cond.instanceMethod ({ cls := "SureNoes", name := "odds", desc := "(JIII)I" } : Jvm.MethodName)) ∈ sn_gw := sn_in 82 (by decide +kernel) (by decide +kernel)
theorem tw_83 : (Jvm.Cond.selects "SureNoes" ({ cls := "SureNoes", name := "odds", desc := "(JIII)I" } : Jvm.MethodName) ({ cls := "SureNoes", name := "odds", desc := "(JIII)I" } : Jvm.MethodName)) ∈ sn_gw := sn_in 83 (by decide +kernel) (by decide +kernel)
theorem tw_84 : (Jvm.Cond.code ({ cls := "SureNoes", name := "odds", desc := "(JIII)I" } : Jvm.MethodName) prog_1_method_4_code (10 : Nat) (Option.some Jvm.ClassFile.FieldType.int)) ∈ sn_gw := sn_in 84 (by decide +kernel) (by decide +kernel)
theorem tw_85 : (Jvm.Cond.methodLink "SureNoes" (50 : Nat) ({ cls := "SureNoes", name := "isSet", desc := "(J)Z" } : Jvm.MethodName)) ∈ sn_gw := sn_in 85 (by decide +kernel) (by decide +kernel)
theorem tw_86 : (Jvm.Cond.static ({ cls := "SureNoes", name := "isSet", desc := "(J)Z" } : Jvm.MethodName)) ∈ sn_gw := sn_in 86 (by decide +kernel) (by decide +kernel)
theorem tw_87 : (Jvm.Cond.code ({ cls := "SureNoes", name := "isSet", desc := "(J)Z" } : Jvm.MethodName) prog_1_method_27_code (2 : Nat) (Option.some Jvm.ClassFile.FieldType.boolean)) ∈ sn_gw := sn_in 87 (by decide +kernel) (by decide +kernel)
theorem tw_88 : (Jvm.Cond.constantLong "SureNoes" (232 : Nat) (4294967295 : Int64)) ∈ sn_gw := sn_in 88 (by decide +kernel) (by decide +kernel)
theorem tw_89 : (Jvm.Cond.methodLink "SureNoes" (54 : Nat) ({ cls := "SureNoes", name := "isSize", desc := "(I)Z" } : Jvm.MethodName)) ∈ sn_gw := sn_in 89 (by decide +kernel) (by decide +kernel)
theorem tw_90 : (Jvm.Cond.static ({ cls := "SureNoes", name := "isSize", desc := "(I)Z" } : Jvm.MethodName)) ∈ sn_gw := sn_in 90 (by decide +kernel) (by decide +kernel)
theorem tw_91 : (Jvm.Cond.code ({ cls := "SureNoes", name := "isSize", desc := "(I)Z" } : Jvm.MethodName) prog_1_method_28_code (1 : Nat) (Option.some Jvm.ClassFile.FieldType.boolean)) ∈ sn_gw := sn_in 91 (by decide +kernel) (by decide +kernel)
theorem tw_92 : (Jvm.Cond.methodLink "SureNoes" (57 : Nat) ({ cls := "SureNoes", name := "has", desc := "(JI)Z" } : Jvm.MethodName)) ∈ sn_gw := sn_in 92 (by decide +kernel) (by decide +kernel)
theorem tw_93 : (Jvm.Cond.static ({ cls := "SureNoes", name := "has", desc := "(JI)Z" } : Jvm.MethodName)) ∈ sn_gw := sn_in 93 (by decide +kernel) (by decide +kernel)
theorem tw_94 : (Jvm.Cond.code ({ cls := "SureNoes", name := "has", desc := "(JI)Z" } : Jvm.MethodName) prog_1_method_35_code (3 : Nat) (Option.some Jvm.ClassFile.FieldType.boolean)) ∈ sn_gw := sn_in 94 (by decide +kernel) (by decide +kernel)
theorem tw_95 : (Jvm.Cond.methodLink "SureNoes" (61 : Nat) ({ cls := "SureNoes", name := "placesOfSet", desc := "(JIII)J" } : Jvm.MethodName)) ∈ sn_gw := sn_in 95 (by decide +kernel) (by decide +kernel)
theorem tw_96 : (Jvm.Cond.static ({ cls := "SureNoes", name := "placesOfSet", desc := "(JIII)J" } : Jvm.MethodName)) ∈ sn_gw := sn_in 96 (by decide +kernel) (by decide +kernel)
theorem tw_97 : (Jvm.Cond.code ({ cls := "SureNoes", name := "placesOfSet", desc := "(JIII)J" } : Jvm.MethodName) prog_1_method_40_code (8 : Nat) (Option.some Jvm.ClassFile.FieldType.long)) ∈ sn_gw := sn_in 97 (by decide +kernel) (by decide +kernel)
theorem tw_98 : (Jvm.Cond.methodLink "SureNoes" (65 : Nat) ({ cls := "SureNoes", name := "placeBy", desc := "(IIII)I" } : Jvm.MethodName)) ∈ sn_gw := sn_in 98 (by decide +kernel) (by decide +kernel)
theorem tw_99 : (Jvm.Cond.static ({ cls := "SureNoes", name := "placeBy", desc := "(IIII)I" } : Jvm.MethodName)) ∈ sn_gw := sn_in 99 (by decide +kernel) (by decide +kernel)
theorem tw_100 : (Jvm.Cond.code ({ cls := "SureNoes", name := "placeBy", desc := "(IIII)I" } : Jvm.MethodName) prog_1_method_39_code (4 : Nat) (Option.some Jvm.ClassFile.FieldType.int)) ∈ sn_gw := sn_in 100 (by decide +kernel) (by decide +kernel)
theorem tw_101 : (Jvm.Cond.methodLink "SureNoes" (69 : Nat) ({ cls := "SureNoes", name := "commonDivisor", desc := "(II)I" } : Jvm.MethodName)) ∈ sn_gw := sn_in 101 (by decide +kernel) (by decide +kernel)
theorem tw_102 : (Jvm.Cond.static ({ cls := "SureNoes", name := "commonDivisor", desc := "(II)I" } : Jvm.MethodName)) ∈ sn_gw := sn_in 102 (by decide +kernel) (by decide +kernel)
theorem tw_103 : (Jvm.Cond.code ({ cls := "SureNoes", name := "commonDivisor", desc := "(II)I" } : Jvm.MethodName) prog_1_method_38_code (6 : Nat) (Option.some Jvm.ClassFile.FieldType.int)) ∈ sn_gw := sn_in 103 (by decide +kernel) (by decide +kernel)
theorem tw_104 : (Jvm.Cond.methodLink "SureNoes" (280 : Nat) ({ cls := "SureNoes", name := "rest", desc := "(II)I" } : Jvm.MethodName)) ∈ sn_gw := sn_in 104 (by decide +kernel) (by decide +kernel)
theorem tw_105 : (Jvm.Cond.static ({ cls := "SureNoes", name := "rest", desc := "(II)I" } : Jvm.MethodName)) ∈ sn_gw := sn_in 105 (by decide +kernel) (by decide +kernel)
theorem tw_106 : (Jvm.Cond.code ({ cls := "SureNoes", name := "rest", desc := "(II)I" } : Jvm.MethodName) prog_1_method_36_code (3 : Nat) (Option.some Jvm.ClassFile.FieldType.int)) ∈ sn_gw := sn_in 106 (by decide +kernel) (by decide +kernel)
theorem tw_107 : (Jvm.Cond.methodLink "SureNoesLaw" (29 : Nat) ({ cls := "SureNoes", name := "best", desc := "(JII)I" } : Jvm.MethodName)) ∈ sn_gw := sn_in 107 (by decide +kernel) (by decide +kernel)
theorem tw_108 : (Jvm.Cond.instanceMethod ({ cls := "SureNoes", name := "best", desc := "(JII)I" } : Jvm.MethodName)) ∈ sn_gw := sn_in 108 (by decide +kernel) (by decide +kernel)
theorem tw_109 : (Jvm.Cond.selects "SureNoes" ({ cls := "SureNoes", name := "best", desc := "(JII)I" } : Jvm.MethodName) ({ cls := "SureNoes", name := "best", desc := "(JII)I" } : Jvm.MethodName)) ∈ sn_gw := sn_in 109 (by decide +kernel) (by decide +kernel)
theorem tw_110 : (Jvm.Cond.code ({ cls := "SureNoes", name := "best", desc := "(JII)I" } : Jvm.MethodName) prog_1_method_5_code (11 : Nat) (Option.some Jvm.ClassFile.FieldType.int)) ∈ sn_gw := sn_in 110 (by decide +kernel) (by decide +kernel)
theorem tw_111 : (Jvm.Cond.methodLink "SureNoes" (73 : Nat) ({ cls := "SureNoes", name := "strangersMet", desc := "(JIII)I" } : Jvm.MethodName)) ∈ sn_gw := sn_in 111 (by decide +kernel) (by decide +kernel)
theorem tw_112 : (Jvm.Cond.static ({ cls := "SureNoes", name := "strangersMet", desc := "(JIII)I" } : Jvm.MethodName)) ∈ sn_gw := sn_in 112 (by decide +kernel) (by decide +kernel)
theorem tw_113 : (Jvm.Cond.code ({ cls := "SureNoes", name := "strangersMet", desc := "(JIII)I" } : Jvm.MethodName) prog_1_method_41_code (9 : Nat) (Option.some Jvm.ClassFile.FieldType.int)) ∈ sn_gw := sn_in 113 (by decide +kernel) (by decide +kernel)
theorem tw_114 : (Jvm.Cond.methodLink "SureNoesLaw" (34 : Nat) ({ cls := "SureNoes", name := "fewest", desc := "(JII)I" } : Jvm.MethodName)) ∈ sn_gw := sn_in 114 (by decide +kernel) (by decide +kernel)
theorem tw_115 : (Jvm.Cond.instanceMethod ({ cls := "SureNoes", name := "fewest", desc := "(JII)I" } : Jvm.MethodName)) ∈ sn_gw := sn_in 115 (by decide +kernel) (by decide +kernel)
theorem tw_116 : (Jvm.Cond.selects "SureNoes" ({ cls := "SureNoes", name := "fewest", desc := "(JII)I" } : Jvm.MethodName) ({ cls := "SureNoes", name := "fewest", desc := "(JII)I" } : Jvm.MethodName)) ∈ sn_gw := sn_in 116 (by decide +kernel) (by decide +kernel)
theorem tw_117 : (Jvm.Cond.code ({ cls := "SureNoes", name := "fewest", desc := "(JII)I" } : Jvm.MethodName) prog_1_method_6_code (7 : Nat) (Option.some Jvm.ClassFile.FieldType.int)) ∈ sn_gw := sn_in 117 (by decide +kernel) (by decide +kernel)
theorem tw_118 : (Jvm.Cond.methodLink "SureNoesLaw" (38 : Nat) ({ cls := "SureNoes", name := "book", desc := "(III)I" } : Jvm.MethodName)) ∈ sn_gw := sn_in 118 (by decide +kernel) (by decide +kernel)
theorem tw_119 : (Jvm.Cond.instanceMethod ({ cls := "SureNoes", name := "book", desc := "(III)I" } : Jvm.MethodName)) ∈ sn_gw := sn_in 119 (by decide +kernel) (by decide +kernel)
theorem tw_120 : (Jvm.Cond.selects "SureNoes" ({ cls := "SureNoes", name := "book", desc := "(III)I" } : Jvm.MethodName) ({ cls := "SureNoes", name := "book", desc := "(III)I" } : Jvm.MethodName)) ∈ sn_gw := sn_in 120 (by decide +kernel) (by decide +kernel)
theorem tw_121 : (Jvm.Cond.code ({ cls := "SureNoes", name := "book", desc := "(III)I" } : Jvm.MethodName) prog_1_method_7_code (4 : Nat) (Option.some Jvm.ClassFile.FieldType.int)) ∈ sn_gw := sn_in 121 (by decide +kernel) (by decide +kernel)
theorem tw_122 : (Jvm.Cond.methodLink "SureNoes" (83 : Nat) ({ cls := "SureNoes", name := "isKind", desc := "(I)Z" } : Jvm.MethodName)) ∈ sn_gw := sn_in 122 (by decide +kernel) (by decide +kernel)
theorem tw_123 : (Jvm.Cond.static ({ cls := "SureNoes", name := "isKind", desc := "(I)Z" } : Jvm.MethodName)) ∈ sn_gw := sn_in 123 (by decide +kernel) (by decide +kernel)
theorem tw_124 : (Jvm.Cond.code ({ cls := "SureNoes", name := "isKind", desc := "(I)Z" } : Jvm.MethodName) prog_1_method_29_code (1 : Nat) (Option.some Jvm.ClassFile.FieldType.boolean)) ∈ sn_gw := sn_in 124 (by decide +kernel) (by decide +kernel)
theorem tw_125 : (Jvm.Cond.methodLink "SureNoes" (86 : Nat) ({ cls := "SureNoes", name := "areLawsFor", desc := "(II)Z" } : Jvm.MethodName)) ∈ sn_gw := sn_in 125 (by decide +kernel) (by decide +kernel)
theorem tw_127 : (Jvm.Cond.instanceMethod ({ cls := "SureNoes", name := "areLawsFor", desc := "(II)Z" } : Jvm.MethodName)) ∈ sn_gw := sn_in 127 (by decide +kernel) (by decide +kernel)
theorem tw_128 : (Jvm.Cond.code ({ cls := "SureNoes", name := "areLawsFor", desc := "(II)Z" } : Jvm.MethodName) prog_1_method_31_code (4 : Nat) (Option.some Jvm.ClassFile.FieldType.boolean)) ∈ sn_gw := sn_in 128 (by decide +kernel) (by decide +kernel)
theorem tw_129 : (Jvm.Cond.methodLink "SureNoes" (263 : Nat) ({ cls := "java/lang/Integer", name := "bitCount", desc := "(I)I" } : Jvm.MethodName)) ∈ sn_gw := sn_in 129 (by decide +kernel) (by decide +kernel)
theorem tw_130 : (Jvm.Cond.static ({ cls := "java/lang/Integer", name := "bitCount", desc := "(I)I" } : Jvm.MethodName)) ∈ sn_gw := sn_in 130 (by decide +kernel) (by decide +kernel)
theorem tw_131 : (Jvm.Cond.code ({ cls := "java/lang/Integer", name := "bitCount", desc := "(I)I" } : Jvm.MethodName) prog_13_method_49_code (1 : Nat) (Option.some Jvm.ClassFile.FieldType.int)) ∈ sn_gw := sn_in 131 (by decide +kernel) (by decide +kernel)
theorem tw_132 : (Jvm.Cond.constant "java/lang/Integer" (265 : Nat) (1431655765 : Int32)) ∈ sn_gw := sn_in 132 (by decide +kernel) (by decide +kernel)
theorem tw_133 : (Jvm.Cond.constant "java/lang/Integer" (266 : Nat) (858993459 : Int32)) ∈ sn_gw := sn_in 133 (by decide +kernel) (by decide +kernel)
theorem tw_134 : (Jvm.Cond.constant "java/lang/Integer" (267 : Nat) (252645135 : Int32)) ∈ sn_gw := sn_in 134 (by decide +kernel) (by decide +kernel)
theorem tw_135 : (Jvm.Cond.methodLink "SureNoes" (90 : Nat) ({ cls := "SureNoes", name := "lawsOf", desc := "(I)[LSureNoes$Law;" } : Jvm.MethodName)) ∈ sn_gw := sn_in 135 (by decide +kernel) (by decide +kernel)
theorem tw_137 : (Jvm.Cond.instanceMethod ({ cls := "SureNoes", name := "lawsOf", desc := "(I)[LSureNoes$Law;" } : Jvm.MethodName)) ∈ sn_gw := sn_in 137 (by decide +kernel) (by decide +kernel)
theorem tw_138 : (Jvm.Cond.code ({ cls := "SureNoes", name := "lawsOf", desc := "(I)[LSureNoes$Law;" } : Jvm.MethodName) prog_1_method_42_code (5 : Nat) (Option.some (Jvm.ClassFile.FieldType.array (Jvm.ClassFile.FieldType.object "SureNoes$Law")))) ∈ sn_gw := sn_in 138 (by decide +kernel) (by decide +kernel)
theorem tw_139 : (Jvm.Cond.methodLink "SureNoes" (94 : Nat) ({ cls := "SureNoes", name := "newBook", desc := "(III[LSureNoes$Law;)LSureNoes$Book;" } : Jvm.MethodName)) ∈ sn_gw := sn_in 139 (by decide +kernel) (by decide +kernel)
theorem tw_140 : (Jvm.Cond.static ({ cls := "SureNoes", name := "newBook", desc := "(III[LSureNoes$Law;)LSureNoes$Book;" } : Jvm.MethodName)) ∈ sn_gw := sn_in 140 (by decide +kernel) (by decide +kernel)
theorem tw_141 : (Jvm.Cond.code ({ cls := "SureNoes", name := "newBook", desc := "(III[LSureNoes$Law;)LSureNoes$Book;" } : Jvm.MethodName) prog_1_method_43_code (4 : Nat) (Option.some (Jvm.ClassFile.FieldType.object "SureNoes$Book"))) ∈ sn_gw := sn_in 141 (by decide +kernel) (by decide +kernel)
theorem tw_142 : (Jvm.Cond.classLink "SureNoes" (267 : Nat) "SureNoes$Plain") ∈ sn_gw := sn_in 142 (by decide +kernel) (by decide +kernel)
theorem tw_143 : (Jvm.Cond.instantiable "SureNoes$Plain" (6 : Nat)) ∈ sn_gw := sn_in 143 (by decide +kernel) (by decide +kernel)
theorem tw_144 : (Jvm.Cond.methodLink "SureNoes" (283 : Nat) ({ cls := "SureNoes$Plain", name := "<init>", desc := "(III[LSureNoes$Law;)V" } : Jvm.MethodName)) ∈ sn_gw := sn_in 144 (by decide +kernel) (by decide +kernel)
theorem tw_145 : (Jvm.Cond.instanceMethod ({ cls := "SureNoes$Plain", name := "<init>", desc := "(III[LSureNoes$Law;)V" } : Jvm.MethodName)) ∈ sn_gw := sn_in 145 (by decide +kernel) (by decide +kernel)
theorem tw_146 : (Jvm.Cond.code ({ cls := "SureNoes$Plain", name := "<init>", desc := "(III[LSureNoes$Law;)V" } : Jvm.MethodName) prog_9_method_1_code (5 : Nat) (Option.none : Option Jvm.ClassFile.FieldType)) ∈ sn_gw := sn_in 146 (by decide +kernel) (by decide +kernel)
theorem tw_147 : (Jvm.Cond.methodLink "SureNoes$Plain" (1 : Nat) ({ cls := "SureNoes$Book", name := "<init>", desc := "(III[LSureNoes$Law;)V" } : Jvm.MethodName)) ∈ sn_gw := sn_in 147 (by decide +kernel) (by decide +kernel)
theorem tw_148 : (Jvm.Cond.instanceMethod ({ cls := "SureNoes$Book", name := "<init>", desc := "(III[LSureNoes$Law;)V" } : Jvm.MethodName)) ∈ sn_gw := sn_in 148 (by decide +kernel) (by decide +kernel)
theorem tw_149 : (Jvm.Cond.code ({ cls := "SureNoes$Book", name := "<init>", desc := "(III[LSureNoes$Law;)V" } : Jvm.MethodName) prog_2_method_1_code (5 : Nat) (Option.none : Option Jvm.ClassFile.FieldType)) ∈ sn_gw := sn_in 149 (by decide +kernel) (by decide +kernel)
theorem tw_150 : (Jvm.Cond.methodLink "SureNoes$Book" (3 : Nat) ({ cls := "java/lang/Object", name := "<init>", desc := "()V" } : Jvm.MethodName)) ∈ sn_gw := sn_in 150 (by decide +kernel) (by decide +kernel)
theorem tw_151 : (Jvm.Cond.fieldLink "SureNoes$Book" (9 : Nat) "SureNoes$Book" "kind" "I") ∈ sn_gw := sn_in 151 (by decide +kernel) (by decide +kernel)
theorem tw_152 : (Jvm.Cond.fieldLink "SureNoes" (110 : Nat) "SureNoes$Book" "kind" "I") ∈ sn_gw := sn_in 152 (by decide +kernel) (by decide +kernel)
theorem tw_153 : (Jvm.Cond.fieldLink "SureNoes$Book" (15 : Nat) "SureNoes$Book" "size" "I") ∈ sn_gw := sn_in 153 (by decide +kernel) (by decide +kernel)
theorem tw_154 : (Jvm.Cond.fieldLink "SureNoes$Parted" (13 : Nat) "SureNoes$Parted" "size" "I") ∈ sn_gw := sn_in 154 (by decide +kernel) (by decide +kernel)
theorem tw_155 : (Jvm.Cond.sameField "SureNoes$Parted" "SureNoes$Book" "size" "I") ∈ sn_gw := sn_in 155 (by decide +kernel) (by decide +kernel)
theorem tw_156 : (Jvm.Cond.fieldLink "SureNoes$Counted" (15 : Nat) "SureNoes$Counted" "size" "I") ∈ sn_gw := sn_in 156 (by decide +kernel) (by decide +kernel)
theorem tw_157 : (Jvm.Cond.sameField "SureNoes$Counted" "SureNoes$Book" "size" "I") ∈ sn_gw := sn_in 157 (by decide +kernel) (by decide +kernel)
theorem tw_158 : (Jvm.Cond.fieldLink "SureNoes$Pushed" (28 : Nat) "SureNoes$Pushed" "size" "I") ∈ sn_gw := sn_in 158 (by decide +kernel) (by decide +kernel)
theorem tw_159 : (Jvm.Cond.sameField "SureNoes$Pushed" "SureNoes$Book" "size" "I") ∈ sn_gw := sn_in 159 (by decide +kernel) (by decide +kernel)
theorem tw_160 : (Jvm.Cond.fieldLink "SureNoes$Plain" (13 : Nat) "SureNoes$Plain" "size" "I") ∈ sn_gw := sn_in 160 (by decide +kernel) (by decide +kernel)
theorem tw_161 : (Jvm.Cond.sameField "SureNoes$Plain" "SureNoes$Book" "size" "I") ∈ sn_gw := sn_in 161 (by decide +kernel) (by decide +kernel)
theorem tw_162 : (Jvm.Cond.fieldLink "SureNoes$Layered" (30 : Nat) "SureNoes$Layered" "size" "I") ∈ sn_gw := sn_in 162 (by decide +kernel) (by decide +kernel)
theorem tw_163 : (Jvm.Cond.sameField "SureNoes$Layered" "SureNoes$Book" "size" "I") ∈ sn_gw := sn_in 163 (by decide +kernel) (by decide +kernel)
theorem tw_164 : (Jvm.Cond.fieldLink "SureNoes$Folded" (32 : Nat) "SureNoes$Folded" "size" "I") ∈ sn_gw := sn_in 164 (by decide +kernel) (by decide +kernel)
theorem tw_165 : (Jvm.Cond.sameField "SureNoes$Folded" "SureNoes$Book" "size" "I") ∈ sn_gw := sn_in 165 (by decide +kernel) (by decide +kernel)
theorem tw_166 : (Jvm.Cond.fieldLink "SureNoes" (113 : Nat) "SureNoes$Book" "size" "I") ∈ sn_gw := sn_in 166 (by decide +kernel) (by decide +kernel)
theorem tw_167 : (Jvm.Cond.fieldLink "SureNoes$Book" (18 : Nat) "SureNoes$Book" "lawBits" "I") ∈ sn_gw := sn_in 167 (by decide +kernel) (by decide +kernel)
theorem tw_168 : (Jvm.Cond.fieldLink "SureNoes" (116 : Nat) "SureNoes$Book" "lawBits" "I") ∈ sn_gw := sn_in 168 (by decide +kernel) (by decide +kernel)
theorem tw_169 : (Jvm.Cond.fieldLink "SureNoes$Book" (21 : Nat) "SureNoes$Book" "ruling" "[LSureNoes$Law;") ∈ sn_gw := sn_in 169 (by decide +kernel) (by decide +kernel)
theorem tw_170 : (Jvm.Cond.fieldLink "SureNoes$Parted" (7 : Nat) "SureNoes$Parted" "ruling" "[LSureNoes$Law;") ∈ sn_gw := sn_in 170 (by decide +kernel) (by decide +kernel)
theorem tw_171 : (Jvm.Cond.sameField "SureNoes$Parted" "SureNoes$Book" "ruling" "[LSureNoes$Law;") ∈ sn_gw := sn_in 171 (by decide +kernel) (by decide +kernel)
theorem tw_172 : (Jvm.Cond.fieldLink "SureNoes$Pushed" (24 : Nat) "SureNoes$Pushed" "ruling" "[LSureNoes$Law;") ∈ sn_gw := sn_in 172 (by decide +kernel) (by decide +kernel)
theorem tw_173 : (Jvm.Cond.sameField "SureNoes$Pushed" "SureNoes$Book" "ruling" "[LSureNoes$Law;") ∈ sn_gw := sn_in 173 (by decide +kernel) (by decide +kernel)
theorem tw_174 : (Jvm.Cond.fieldLink "SureNoes$Folded" (22 : Nat) "SureNoes$Folded" "ruling" "[LSureNoes$Law;") ∈ sn_gw := sn_in 174 (by decide +kernel) (by decide +kernel)
theorem tw_175 : (Jvm.Cond.sameField "SureNoes$Folded" "SureNoes$Book" "ruling" "[LSureNoes$Law;") ∈ sn_gw := sn_in 175 (by decide +kernel) (by decide +kernel)
theorem tw_176 : (Jvm.Cond.fieldLink "SureNoes$Layered" (22 : Nat) "SureNoes$Layered" "ruling" "[LSureNoes$Law;") ∈ sn_gw := sn_in 176 (by decide +kernel) (by decide +kernel)
theorem tw_177 : (Jvm.Cond.sameField "SureNoes$Layered" "SureNoes$Book" "ruling" "[LSureNoes$Law;") ∈ sn_gw := sn_in 177 (by decide +kernel) (by decide +kernel)
theorem tw_178 : (Jvm.Cond.fieldLink "SureNoes$Plain" (7 : Nat) "SureNoes$Plain" "ruling" "[LSureNoes$Law;") ∈ sn_gw := sn_in 178 (by decide +kernel) (by decide +kernel)
theorem tw_179 : (Jvm.Cond.sameField "SureNoes$Plain" "SureNoes$Book" "ruling" "[LSureNoes$Law;") ∈ sn_gw := sn_in 179 (by decide +kernel) (by decide +kernel)
theorem tw_180 : (Jvm.Cond.fieldLink "SureNoes" (184 : Nat) "SureNoes$Book" "ruling" "[LSureNoes$Law;") ∈ sn_gw := sn_in 180 (by decide +kernel) (by decide +kernel)
theorem tw_181 : (Jvm.Cond.fieldLink "SureNoes$Book" (25 : Nat) "SureNoes$Book" "numbers" "[I") ∈ sn_gw := sn_in 181 (by decide +kernel) (by decide +kernel)
theorem tw_182 : (Jvm.Cond.fieldLink "SureNoes$Counted" (23 : Nat) "SureNoes$Counted" "numbers" "[I") ∈ sn_gw := sn_in 182 (by decide +kernel) (by decide +kernel)
theorem tw_183 : (Jvm.Cond.sameField "SureNoes$Counted" "SureNoes$Book" "numbers" "[I") ∈ sn_gw := sn_in 183 (by decide +kernel) (by decide +kernel)
theorem tw_184 : (Jvm.Cond.fieldLink "SureNoes$Folded" (40 : Nat) "SureNoes$Folded" "numbers" "[I") ∈ sn_gw := sn_in 184 (by decide +kernel) (by decide +kernel)
theorem tw_185 : (Jvm.Cond.sameField "SureNoes$Folded" "SureNoes$Book" "numbers" "[I") ∈ sn_gw := sn_in 185 (by decide +kernel) (by decide +kernel)
theorem tw_186 : (Jvm.Cond.fieldLink "SureNoes$Plain" (39 : Nat) "SureNoes$Plain" "numbers" "[I") ∈ sn_gw := sn_in 186 (by decide +kernel) (by decide +kernel)
theorem tw_187 : (Jvm.Cond.sameField "SureNoes$Plain" "SureNoes$Book" "numbers" "[I") ∈ sn_gw := sn_in 187 (by decide +kernel) (by decide +kernel)
theorem tw_188 : (Jvm.Cond.fieldLink "SureNoes$Pushed" (54 : Nat) "SureNoes$Pushed" "numbers" "[I") ∈ sn_gw := sn_in 188 (by decide +kernel) (by decide +kernel)
theorem tw_189 : (Jvm.Cond.sameField "SureNoes$Pushed" "SureNoes$Book" "numbers" "[I") ∈ sn_gw := sn_in 189 (by decide +kernel) (by decide +kernel)
theorem tw_190 : (Jvm.Cond.fieldLink "SureNoes" (136 : Nat) "SureNoes$Book" "numbers" "[I") ∈ sn_gw := sn_in 190 (by decide +kernel) (by decide +kernel)
theorem tw_191 : (Jvm.Cond.fieldLink "SureNoes$Book" (29 : Nat) "SureNoes$Book" "times" "[I") ∈ sn_gw := sn_in 191 (by decide +kernel) (by decide +kernel)
theorem tw_192 : (Jvm.Cond.fieldLink "SureNoes" (153 : Nat) "SureNoes$Book" "times" "[I") ∈ sn_gw := sn_in 192 (by decide +kernel) (by decide +kernel)
theorem tw_193 : (Jvm.Cond.laysFinal "SureNoes$Plain" "SureNoes$Book" "kind" "I") ∈ sn_gw := sn_in 193 (by decide +kernel) (by decide +kernel)
theorem tw_195 : (Jvm.Cond.laysFinal "SureNoes$Plain" "SureNoes$Book" "size" "I") ∈ sn_gw := sn_in 195 (by decide +kernel) (by decide +kernel)
theorem tw_197 : (Jvm.Cond.laysFinal "SureNoes$Plain" "SureNoes$Book" "lawBits" "I") ∈ sn_gw := sn_in 197 (by decide +kernel) (by decide +kernel)
theorem tw_199 : (Jvm.Cond.laysFinal "SureNoes$Plain" "SureNoes$Book" "ruling" "[LSureNoes$Law;") ∈ sn_gw := sn_in 199 (by decide +kernel) (by decide +kernel)
theorem tw_201 : (Jvm.Cond.laysFinal "SureNoes$Plain" "SureNoes$Book" "numbers" "[I") ∈ sn_gw := sn_in 201 (by decide +kernel) (by decide +kernel)
theorem tw_203 : (Jvm.Cond.laysFinal "SureNoes$Plain" "SureNoes$Book" "times" "[I") ∈ sn_gw := sn_in 203 (by decide +kernel) (by decide +kernel)
theorem tw_206 : (Jvm.Cond.arrayClass Jvm.ClassFile.FieldType.int) ∈ sn_gw := sn_in 206 (by decide +kernel) (by decide +kernel)
theorem tw_207 : (Jvm.Cond.classLink "SureNoes" (269 : Nat) "SureNoes$Counted") ∈ sn_gw := sn_in 207 (by decide +kernel) (by decide +kernel)
theorem tw_208 : (Jvm.Cond.instantiable "SureNoes$Counted" (6 : Nat)) ∈ sn_gw := sn_in 208 (by decide +kernel) (by decide +kernel)
theorem tw_209 : (Jvm.Cond.methodLink "SureNoes" (286 : Nat) ({ cls := "SureNoes$Counted", name := "<init>", desc := "(II[LSureNoes$Law;)V" } : Jvm.MethodName)) ∈ sn_gw := sn_in 209 (by decide +kernel) (by decide +kernel)
theorem tw_210 : (Jvm.Cond.instanceMethod ({ cls := "SureNoes$Counted", name := "<init>", desc := "(II[LSureNoes$Law;)V" } : Jvm.MethodName)) ∈ sn_gw := sn_in 210 (by decide +kernel) (by decide +kernel)
theorem tw_211 : (Jvm.Cond.code ({ cls := "SureNoes$Counted", name := "<init>", desc := "(II[LSureNoes$Law;)V" } : Jvm.MethodName) prog_3_method_1_code (4 : Nat) (Option.none : Option Jvm.ClassFile.FieldType)) ∈ sn_gw := sn_in 211 (by decide +kernel) (by decide +kernel)
theorem tw_212 : (Jvm.Cond.methodLink "SureNoes$Counted" (3 : Nat) ({ cls := "SureNoes$Plain", name := "<init>", desc := "(III[LSureNoes$Law;)V" } : Jvm.MethodName)) ∈ sn_gw := sn_in 212 (by decide +kernel) (by decide +kernel)
theorem tw_213 : (Jvm.Cond.laysFinal "SureNoes$Counted" "SureNoes$Book" "kind" "I") ∈ sn_gw := sn_in 213 (by decide +kernel) (by decide +kernel)
theorem tw_214 : (Jvm.Cond.laysFinal "SureNoes$Counted" "SureNoes$Book" "size" "I") ∈ sn_gw := sn_in 214 (by decide +kernel) (by decide +kernel)
theorem tw_215 : (Jvm.Cond.laysFinal "SureNoes$Counted" "SureNoes$Book" "lawBits" "I") ∈ sn_gw := sn_in 215 (by decide +kernel) (by decide +kernel)
theorem tw_216 : (Jvm.Cond.laysFinal "SureNoes$Counted" "SureNoes$Book" "ruling" "[LSureNoes$Law;") ∈ sn_gw := sn_in 216 (by decide +kernel) (by decide +kernel)
theorem tw_217 : (Jvm.Cond.laysFinal "SureNoes$Counted" "SureNoes$Book" "numbers" "[I") ∈ sn_gw := sn_in 217 (by decide +kernel) (by decide +kernel)
theorem tw_218 : (Jvm.Cond.laysFinal "SureNoes$Counted" "SureNoes$Book" "times" "[I") ∈ sn_gw := sn_in 218 (by decide +kernel) (by decide +kernel)
theorem tw_220 : (Jvm.Cond.classLink "SureNoes" (271 : Nat) "SureNoes$Parted") ∈ sn_gw := sn_in 220 (by decide +kernel) (by decide +kernel)
theorem tw_221 : (Jvm.Cond.instantiable "SureNoes$Parted" (6 : Nat)) ∈ sn_gw := sn_in 221 (by decide +kernel) (by decide +kernel)
theorem tw_222 : (Jvm.Cond.methodLink "SureNoes" (289 : Nat) ({ cls := "SureNoes$Parted", name := "<init>", desc := "(III[LSureNoes$Law;)V" } : Jvm.MethodName)) ∈ sn_gw := sn_in 222 (by decide +kernel) (by decide +kernel)
theorem tw_223 : (Jvm.Cond.instanceMethod ({ cls := "SureNoes$Parted", name := "<init>", desc := "(III[LSureNoes$Law;)V" } : Jvm.MethodName)) ∈ sn_gw := sn_in 223 (by decide +kernel) (by decide +kernel)
theorem tw_224 : (Jvm.Cond.code ({ cls := "SureNoes$Parted", name := "<init>", desc := "(III[LSureNoes$Law;)V" } : Jvm.MethodName) prog_8_method_1_code (5 : Nat) (Option.none : Option Jvm.ClassFile.FieldType)) ∈ sn_gw := sn_in 224 (by decide +kernel) (by decide +kernel)
theorem tw_225 : (Jvm.Cond.methodLink "SureNoes$Parted" (1 : Nat) ({ cls := "SureNoes$Plain", name := "<init>", desc := "(III[LSureNoes$Law;)V" } : Jvm.MethodName)) ∈ sn_gw := sn_in 225 (by decide +kernel) (by decide +kernel)
theorem tw_226 : (Jvm.Cond.laysFinal "SureNoes$Parted" "SureNoes$Book" "kind" "I") ∈ sn_gw := sn_in 226 (by decide +kernel) (by decide +kernel)
theorem tw_227 : (Jvm.Cond.laysFinal "SureNoes$Parted" "SureNoes$Book" "size" "I") ∈ sn_gw := sn_in 227 (by decide +kernel) (by decide +kernel)
theorem tw_228 : (Jvm.Cond.laysFinal "SureNoes$Parted" "SureNoes$Book" "lawBits" "I") ∈ sn_gw := sn_in 228 (by decide +kernel) (by decide +kernel)
theorem tw_229 : (Jvm.Cond.laysFinal "SureNoes$Parted" "SureNoes$Book" "ruling" "[LSureNoes$Law;") ∈ sn_gw := sn_in 229 (by decide +kernel) (by decide +kernel)
theorem tw_230 : (Jvm.Cond.laysFinal "SureNoes$Parted" "SureNoes$Book" "numbers" "[I") ∈ sn_gw := sn_in 230 (by decide +kernel) (by decide +kernel)
theorem tw_231 : (Jvm.Cond.laysFinal "SureNoes$Parted" "SureNoes$Book" "times" "[I") ∈ sn_gw := sn_in 231 (by decide +kernel) (by decide +kernel)
theorem tw_233 : (Jvm.Cond.classLink "SureNoes" (234 : Nat) "SureNoes$Pushed") ∈ sn_gw := sn_in 233 (by decide +kernel) (by decide +kernel)
theorem tw_234 : (Jvm.Cond.instantiable "SureNoes$Pushed" (10 : Nat)) ∈ sn_gw := sn_in 234 (by decide +kernel) (by decide +kernel)
theorem tw_235 : (Jvm.Cond.methodLink "SureNoes" (290 : Nat) ({ cls := "SureNoes$Pushed", name := "<init>", desc := "(II[LSureNoes$Law;)V" } : Jvm.MethodName)) ∈ sn_gw := sn_in 235 (by decide +kernel) (by decide +kernel)
theorem tw_236 : (Jvm.Cond.instanceMethod ({ cls := "SureNoes$Pushed", name := "<init>", desc := "(II[LSureNoes$Law;)V" } : Jvm.MethodName)) ∈ sn_gw := sn_in 236 (by decide +kernel) (by decide +kernel)
theorem tw_237 : (Jvm.Cond.code ({ cls := "SureNoes$Pushed", name := "<init>", desc := "(II[LSureNoes$Law;)V" } : Jvm.MethodName) prog_10_method_1_code (4 : Nat) (Option.none : Option Jvm.ClassFile.FieldType)) ∈ sn_gw := sn_in 237 (by decide +kernel) (by decide +kernel)
theorem tw_238 : (Jvm.Cond.methodLink "SureNoes$Pushed" (3 : Nat) ({ cls := "SureNoes$Book", name := "<init>", desc := "(III[LSureNoes$Law;)V" } : Jvm.MethodName)) ∈ sn_gw := sn_in 238 (by decide +kernel) (by decide +kernel)
theorem tw_239 : (Jvm.Cond.fieldLink "SureNoes$Pushed" (9 : Nat) "SureNoes$Pushed" "before" "[I") ∈ sn_gw := sn_in 239 (by decide +kernel) (by decide +kernel)
theorem tw_240 : (Jvm.Cond.fieldLink "SureNoes$Pushed" (15 : Nat) "SureNoes$Pushed" "trial" "[I") ∈ sn_gw := sn_in 240 (by decide +kernel) (by decide +kernel)
theorem tw_241 : (Jvm.Cond.fieldLink "SureNoes$Pushed" (18 : Nat) "SureNoes$Pushed" "line" "[I") ∈ sn_gw := sn_in 241 (by decide +kernel) (by decide +kernel)
theorem tw_242 : (Jvm.Cond.fieldLink "SureNoes$Pushed" (21 : Nat) "SureNoes$Pushed" "group" "[I") ∈ sn_gw := sn_in 242 (by decide +kernel) (by decide +kernel)
theorem tw_243 : (Jvm.Cond.laysFinal "SureNoes$Pushed" "SureNoes$Pushed" "before" "[I") ∈ sn_gw := sn_in 243 (by decide +kernel) (by decide +kernel)
theorem tw_245 : (Jvm.Cond.laysFinal "SureNoes$Pushed" "SureNoes$Pushed" "trial" "[I") ∈ sn_gw := sn_in 245 (by decide +kernel) (by decide +kernel)
theorem tw_247 : (Jvm.Cond.laysFinal "SureNoes$Pushed" "SureNoes$Pushed" "line" "[I") ∈ sn_gw := sn_in 247 (by decide +kernel) (by decide +kernel)
theorem tw_249 : (Jvm.Cond.laysFinal "SureNoes$Pushed" "SureNoes$Pushed" "group" "[I") ∈ sn_gw := sn_in 249 (by decide +kernel) (by decide +kernel)
theorem tw_251 : (Jvm.Cond.laysFinal "SureNoes$Pushed" "SureNoes$Book" "kind" "I") ∈ sn_gw := sn_in 251 (by decide +kernel) (by decide +kernel)
theorem tw_252 : (Jvm.Cond.laysFinal "SureNoes$Pushed" "SureNoes$Book" "size" "I") ∈ sn_gw := sn_in 252 (by decide +kernel) (by decide +kernel)
theorem tw_253 : (Jvm.Cond.laysFinal "SureNoes$Pushed" "SureNoes$Book" "lawBits" "I") ∈ sn_gw := sn_in 253 (by decide +kernel) (by decide +kernel)
theorem tw_254 : (Jvm.Cond.laysFinal "SureNoes$Pushed" "SureNoes$Book" "ruling" "[LSureNoes$Law;") ∈ sn_gw := sn_in 254 (by decide +kernel) (by decide +kernel)
theorem tw_255 : (Jvm.Cond.laysFinal "SureNoes$Pushed" "SureNoes$Book" "numbers" "[I") ∈ sn_gw := sn_in 255 (by decide +kernel) (by decide +kernel)
theorem tw_256 : (Jvm.Cond.laysFinal "SureNoes$Pushed" "SureNoes$Book" "times" "[I") ∈ sn_gw := sn_in 256 (by decide +kernel) (by decide +kernel)
theorem tw_258 : (Jvm.Cond.classLink "SureNoes" (273 : Nat) "SureNoes$Folded") ∈ sn_gw := sn_in 258 (by decide +kernel) (by decide +kernel)
theorem tw_259 : (Jvm.Cond.instantiable "SureNoes$Folded" (9 : Nat)) ∈ sn_gw := sn_in 259 (by decide +kernel) (by decide +kernel)
theorem tw_260 : (Jvm.Cond.methodLink "SureNoes" (291 : Nat) ({ cls := "SureNoes$Folded", name := "<init>", desc := "(II[LSureNoes$Law;)V" } : Jvm.MethodName)) ∈ sn_gw := sn_in 260 (by decide +kernel) (by decide +kernel)
theorem tw_261 : (Jvm.Cond.instanceMethod ({ cls := "SureNoes$Folded", name := "<init>", desc := "(II[LSureNoes$Law;)V" } : Jvm.MethodName)) ∈ sn_gw := sn_in 261 (by decide +kernel) (by decide +kernel)
theorem tw_262 : (Jvm.Cond.code ({ cls := "SureNoes$Folded", name := "<init>", desc := "(II[LSureNoes$Law;)V" } : Jvm.MethodName) prog_5_method_1_code (4 : Nat) (Option.none : Option Jvm.ClassFile.FieldType)) ∈ sn_gw := sn_in 262 (by decide +kernel) (by decide +kernel)
theorem tw_263 : (Jvm.Cond.methodLink "SureNoes$Folded" (3 : Nat) ({ cls := "SureNoes$Parted", name := "<init>", desc := "(III[LSureNoes$Law;)V" } : Jvm.MethodName)) ∈ sn_gw := sn_in 263 (by decide +kernel) (by decide +kernel)
theorem tw_264 : (Jvm.Cond.fieldLink "SureNoes$Folded" (9 : Nat) "SureNoes$Folded" "bitsOf" "[J") ∈ sn_gw := sn_in 264 (by decide +kernel) (by decide +kernel)
theorem tw_265 : (Jvm.Cond.fieldLink "SureNoes$Folded" (15 : Nat) "SureNoes$Folded" "peeledKey" "[I") ∈ sn_gw := sn_in 265 (by decide +kernel) (by decide +kernel)
theorem tw_266 : (Jvm.Cond.fieldLink "SureNoes$Folded" (19 : Nat) "SureNoes$Folded" "peeledPlace" "[I") ∈ sn_gw := sn_in 266 (by decide +kernel) (by decide +kernel)
theorem tw_267 : (Jvm.Cond.laysFinal "SureNoes$Folded" "SureNoes$Folded" "bitsOf" "[J") ∈ sn_gw := sn_in 267 (by decide +kernel) (by decide +kernel)
theorem tw_269 : (Jvm.Cond.laysFinal "SureNoes$Folded" "SureNoes$Folded" "peeledKey" "[I") ∈ sn_gw := sn_in 269 (by decide +kernel) (by decide +kernel)
theorem tw_271 : (Jvm.Cond.laysFinal "SureNoes$Folded" "SureNoes$Folded" "peeledPlace" "[I") ∈ sn_gw := sn_in 271 (by decide +kernel) (by decide +kernel)
theorem tw_273 : (Jvm.Cond.laysFinal "SureNoes$Folded" "SureNoes$Book" "kind" "I") ∈ sn_gw := sn_in 273 (by decide +kernel) (by decide +kernel)
theorem tw_274 : (Jvm.Cond.laysFinal "SureNoes$Folded" "SureNoes$Book" "size" "I") ∈ sn_gw := sn_in 274 (by decide +kernel) (by decide +kernel)
theorem tw_275 : (Jvm.Cond.laysFinal "SureNoes$Folded" "SureNoes$Book" "lawBits" "I") ∈ sn_gw := sn_in 275 (by decide +kernel) (by decide +kernel)
theorem tw_276 : (Jvm.Cond.laysFinal "SureNoes$Folded" "SureNoes$Book" "ruling" "[LSureNoes$Law;") ∈ sn_gw := sn_in 276 (by decide +kernel) (by decide +kernel)
theorem tw_277 : (Jvm.Cond.laysFinal "SureNoes$Folded" "SureNoes$Book" "numbers" "[I") ∈ sn_gw := sn_in 277 (by decide +kernel) (by decide +kernel)
theorem tw_278 : (Jvm.Cond.laysFinal "SureNoes$Folded" "SureNoes$Book" "times" "[I") ∈ sn_gw := sn_in 278 (by decide +kernel) (by decide +kernel)
theorem tw_280 : (Jvm.Cond.classLink "SureNoes" (275 : Nat) "SureNoes$Layered") ∈ sn_gw := sn_in 280 (by decide +kernel) (by decide +kernel)
theorem tw_281 : (Jvm.Cond.instantiable "SureNoes$Layered" (9 : Nat)) ∈ sn_gw := sn_in 281 (by decide +kernel) (by decide +kernel)
theorem tw_282 : (Jvm.Cond.methodLink "SureNoes" (292 : Nat) ({ cls := "SureNoes$Layered", name := "<init>", desc := "(II[LSureNoes$Law;)V" } : Jvm.MethodName)) ∈ sn_gw := sn_in 282 (by decide +kernel) (by decide +kernel)
theorem tw_283 : (Jvm.Cond.instanceMethod ({ cls := "SureNoes$Layered", name := "<init>", desc := "(II[LSureNoes$Law;)V" } : Jvm.MethodName)) ∈ sn_gw := sn_in 283 (by decide +kernel) (by decide +kernel)
theorem tw_284 : (Jvm.Cond.code ({ cls := "SureNoes$Layered", name := "<init>", desc := "(II[LSureNoes$Law;)V" } : Jvm.MethodName) prog_7_method_1_code (4 : Nat) (Option.none : Option Jvm.ClassFile.FieldType)) ∈ sn_gw := sn_in 284 (by decide +kernel) (by decide +kernel)
theorem tw_285 : (Jvm.Cond.methodLink "SureNoes$Layered" (3 : Nat) ({ cls := "SureNoes$Plain", name := "<init>", desc := "(III[LSureNoes$Law;)V" } : Jvm.MethodName)) ∈ sn_gw := sn_in 285 (by decide +kernel) (by decide +kernel)
theorem tw_286 : (Jvm.Cond.fieldLink "SureNoes$Layered" (11 : Nat) "SureNoes$Layered" "rows" "[J") ∈ sn_gw := sn_in 286 (by decide +kernel) (by decide +kernel)
theorem tw_287 : (Jvm.Cond.fieldLink "SureNoes$Layered" (15 : Nat) "SureNoes$Layered" "fresh" "[J") ∈ sn_gw := sn_in 287 (by decide +kernel) (by decide +kernel)
theorem tw_288 : (Jvm.Cond.fieldLink "SureNoes$Layered" (18 : Nat) "SureNoes$Layered" "rowsHeld" "I") ∈ sn_gw := sn_in 288 (by decide +kernel) (by decide +kernel)
theorem tw_289 : (Jvm.Cond.laysFinal "SureNoes$Layered" "SureNoes$Layered" "rows" "[J") ∈ sn_gw := sn_in 289 (by decide +kernel) (by decide +kernel)
theorem tw_291 : (Jvm.Cond.laysFinal "SureNoes$Layered" "SureNoes$Layered" "fresh" "[J") ∈ sn_gw := sn_in 291 (by decide +kernel) (by decide +kernel)
theorem tw_293 : (Jvm.Cond.lays "SureNoes$Layered" "SureNoes$Layered" "rowsHeld" "I") ∈ sn_gw := sn_in 293 (by decide +kernel) (by decide +kernel)
theorem tw_295 : (Jvm.Cond.laysFinal "SureNoes$Layered" "SureNoes$Book" "kind" "I") ∈ sn_gw := sn_in 295 (by decide +kernel) (by decide +kernel)
theorem tw_296 : (Jvm.Cond.laysFinal "SureNoes$Layered" "SureNoes$Book" "size" "I") ∈ sn_gw := sn_in 296 (by decide +kernel) (by decide +kernel)
theorem tw_297 : (Jvm.Cond.laysFinal "SureNoes$Layered" "SureNoes$Book" "lawBits" "I") ∈ sn_gw := sn_in 297 (by decide +kernel) (by decide +kernel)
theorem tw_298 : (Jvm.Cond.laysFinal "SureNoes$Layered" "SureNoes$Book" "ruling" "[LSureNoes$Law;") ∈ sn_gw := sn_in 298 (by decide +kernel) (by decide +kernel)
theorem tw_299 : (Jvm.Cond.laysFinal "SureNoes$Layered" "SureNoes$Book" "numbers" "[I") ∈ sn_gw := sn_in 299 (by decide +kernel) (by decide +kernel)
theorem tw_300 : (Jvm.Cond.laysFinal "SureNoes$Layered" "SureNoes$Book" "times" "[I") ∈ sn_gw := sn_in 300 (by decide +kernel) (by decide +kernel)
theorem tw_302 : (Jvm.Cond.methodLink "SureNoes" (98 : Nat) ({ cls := "SureNoes", name := "keep", desc := "(LSureNoes$Book;)I" } : Jvm.MethodName)) ∈ sn_gw := sn_in 302 (by decide +kernel) (by decide +kernel)
theorem tw_304 : (Jvm.Cond.instanceMethod ({ cls := "SureNoes", name := "keep", desc := "(LSureNoes$Book;)I" } : Jvm.MethodName)) ∈ sn_gw := sn_in 304 (by decide +kernel) (by decide +kernel)
theorem tw_305 : (Jvm.Cond.code ({ cls := "SureNoes", name := "keep", desc := "(LSureNoes$Book;)I" } : Jvm.MethodName) prog_1_method_44_code (2 : Nat) (Option.some Jvm.ClassFile.FieldType.int)) ∈ sn_gw := sn_in 305 (by decide +kernel) (by decide +kernel)
theorem tw_306 : (Jvm.Cond.methodLink "SureNoesLaw" (43 : Nat) ({ cls := "SureNoes", name := "as", desc := "(II)I" } : Jvm.MethodName)) ∈ sn_gw := sn_in 306 (by decide +kernel) (by decide +kernel)
theorem tw_307 : (Jvm.Cond.instanceMethod ({ cls := "SureNoes", name := "as", desc := "(II)I" } : Jvm.MethodName)) ∈ sn_gw := sn_in 307 (by decide +kernel) (by decide +kernel)
theorem tw_308 : (Jvm.Cond.selects "SureNoes" ({ cls := "SureNoes", name := "as", desc := "(II)I" } : Jvm.MethodName) ({ cls := "SureNoes", name := "as", desc := "(II)I" } : Jvm.MethodName)) ∈ sn_gw := sn_in 308 (by decide +kernel) (by decide +kernel)
theorem tw_309 : (Jvm.Cond.code ({ cls := "SureNoes", name := "as", desc := "(II)I" } : Jvm.MethodName) prog_1_method_8_code (4 : Nat) (Option.some Jvm.ClassFile.FieldType.int)) ∈ sn_gw := sn_in 309 (by decide +kernel) (by decide +kernel)
theorem tw_310 : (Jvm.Cond.methodLink "SureNoes" (102 : Nat) ({ cls := "SureNoes", name := "find", desc := "(I)LSureNoes$Book;" } : Jvm.MethodName)) ∈ sn_gw := sn_in 310 (by decide +kernel) (by decide +kernel)
theorem tw_312 : (Jvm.Cond.instanceMethod ({ cls := "SureNoes", name := "find", desc := "(I)LSureNoes$Book;" } : Jvm.MethodName)) ∈ sn_gw := sn_in 312 (by decide +kernel) (by decide +kernel)
theorem tw_313 : (Jvm.Cond.code ({ cls := "SureNoes", name := "find", desc := "(I)LSureNoes$Book;" } : Jvm.MethodName) prog_1_method_32_code (2 : Nat) (Option.some (Jvm.ClassFile.FieldType.object "SureNoes$Book"))) ∈ sn_gw := sn_in 313 (by decide +kernel) (by decide +kernel)
theorem tw_314 : (Jvm.Cond.methodLink "SureNoes" (106 : Nat) ({ cls := "SureNoes", name := "isOfKind", desc := "(LSureNoes$Book;I)Z" } : Jvm.MethodName)) ∈ sn_gw := sn_in 314 (by decide +kernel) (by decide +kernel)
theorem tw_315 : (Jvm.Cond.static ({ cls := "SureNoes", name := "isOfKind", desc := "(LSureNoes$Book;I)Z" } : Jvm.MethodName)) ∈ sn_gw := sn_in 315 (by decide +kernel) (by decide +kernel)
theorem tw_316 : (Jvm.Cond.code ({ cls := "SureNoes", name := "isOfKind", desc := "(LSureNoes$Book;I)Z" } : Jvm.MethodName) prog_1_method_34_code (2 : Nat) (Option.some Jvm.ClassFile.FieldType.boolean)) ∈ sn_gw := sn_in 316 (by decide +kernel) (by decide +kernel)
theorem tw_317 : (Jvm.Cond.methodLink "SureNoesLaw" (47 : Nat) ({ cls := "SureNoes", name := "about", desc := "(II)I" } : Jvm.MethodName)) ∈ sn_gw := sn_in 317 (by decide +kernel) (by decide +kernel)
theorem tw_318 : (Jvm.Cond.instanceMethod ({ cls := "SureNoes", name := "about", desc := "(II)I" } : Jvm.MethodName)) ∈ sn_gw := sn_in 318 (by decide +kernel) (by decide +kernel)
theorem tw_319 : (Jvm.Cond.selects "SureNoes" ({ cls := "SureNoes", name := "about", desc := "(II)I" } : Jvm.MethodName) ({ cls := "SureNoes", name := "about", desc := "(II)I" } : Jvm.MethodName)) ∈ sn_gw := sn_in 319 (by decide +kernel) (by decide +kernel)
theorem tw_320 : (Jvm.Cond.code ({ cls := "SureNoes", name := "about", desc := "(II)I" } : Jvm.MethodName) prog_1_method_9_code (4 : Nat) (Option.some Jvm.ClassFile.FieldType.int)) ∈ sn_gw := sn_in 320 (by decide +kernel) (by decide +kernel)
theorem tw_321 : (Jvm.Cond.methodLink "SureNoes" (119 : Nat) ({ cls := "SureNoes$Book", name := "filledPlaces", desc := "()J" } : Jvm.MethodName)) ∈ sn_gw := sn_in 321 (by decide +kernel) (by decide +kernel)
theorem tw_322 : (Jvm.Cond.instanceMethod ({ cls := "SureNoes$Book", name := "filledPlaces", desc := "()J" } : Jvm.MethodName)) ∈ sn_gw := sn_in 322 (by decide +kernel) (by decide +kernel)
theorem tw_323 : (Jvm.Cond.sameMethod "SureNoes$Book" "SureNoes$Book" "filledPlaces" "()J") ∈ sn_gw := sn_in 323 (by decide +kernel) (by decide +kernel)
theorem tw_324 : (Jvm.Cond.selects "SureNoes$Counted" ({ cls := "SureNoes$Book", name := "filledPlaces", desc := "()J" } : Jvm.MethodName) ({ cls := "SureNoes$Book", name := "filledPlaces", desc := "()J" } : Jvm.MethodName)) ∈ sn_gw := sn_in 324 (by decide +kernel) (by decide +kernel)
theorem tw_325 : (Jvm.Cond.selects "SureNoes$Folded" ({ cls := "SureNoes$Book", name := "filledPlaces", desc := "()J" } : Jvm.MethodName) ({ cls := "SureNoes$Book", name := "filledPlaces", desc := "()J" } : Jvm.MethodName)) ∈ sn_gw := sn_in 325 (by decide +kernel) (by decide +kernel)
theorem tw_326 : (Jvm.Cond.selects "SureNoes$Layered" ({ cls := "SureNoes$Book", name := "filledPlaces", desc := "()J" } : Jvm.MethodName) ({ cls := "SureNoes$Book", name := "filledPlaces", desc := "()J" } : Jvm.MethodName)) ∈ sn_gw := sn_in 326 (by decide +kernel) (by decide +kernel)
theorem tw_327 : (Jvm.Cond.selects "SureNoes$Parted" ({ cls := "SureNoes$Book", name := "filledPlaces", desc := "()J" } : Jvm.MethodName) ({ cls := "SureNoes$Book", name := "filledPlaces", desc := "()J" } : Jvm.MethodName)) ∈ sn_gw := sn_in 327 (by decide +kernel) (by decide +kernel)
theorem tw_328 : (Jvm.Cond.selects "SureNoes$Plain" ({ cls := "SureNoes$Book", name := "filledPlaces", desc := "()J" } : Jvm.MethodName) ({ cls := "SureNoes$Book", name := "filledPlaces", desc := "()J" } : Jvm.MethodName)) ∈ sn_gw := sn_in 328 (by decide +kernel) (by decide +kernel)
theorem tw_329 : (Jvm.Cond.selects "SureNoes$Pushed" ({ cls := "SureNoes$Book", name := "filledPlaces", desc := "()J" } : Jvm.MethodName) ({ cls := "SureNoes$Book", name := "filledPlaces", desc := "()J" } : Jvm.MethodName)) ∈ sn_gw := sn_in 329 (by decide +kernel) (by decide +kernel)
theorem tw_330 : (Jvm.Cond.code ({ cls := "SureNoes$Book", name := "filledPlaces", desc := "()J" } : Jvm.MethodName) prog_2_method_11_code (4 : Nat) (Option.some Jvm.ClassFile.FieldType.long)) ∈ sn_gw := sn_in 330 (by decide +kernel) (by decide +kernel)
theorem tw_331 : (Jvm.Cond.methodLink "SureNoes" (123 : Nat) ({ cls := "java/lang/Long", name := "bitCount", desc := "(J)I" } : Jvm.MethodName)) ∈ sn_gw := sn_in 331 (by decide +kernel) (by decide +kernel)
theorem tw_332 : (Jvm.Cond.static ({ cls := "java/lang/Long", name := "bitCount", desc := "(J)I" } : Jvm.MethodName)) ∈ sn_gw := sn_in 332 (by decide +kernel) (by decide +kernel)
theorem tw_333 : (Jvm.Cond.code ({ cls := "java/lang/Long", name := "bitCount", desc := "(J)I" } : Jvm.MethodName) prog_14_method_50_code (2 : Nat) (Option.some Jvm.ClassFile.FieldType.int)) ∈ sn_gw := sn_in 333 (by decide +kernel) (by decide +kernel)
theorem tw_334 : (Jvm.Cond.constantLong "java/lang/Long" (314 : Nat) (6148914691236517205 : Int64)) ∈ sn_gw := sn_in 334 (by decide +kernel) (by decide +kernel)
theorem tw_335 : (Jvm.Cond.constantLong "java/lang/Long" (316 : Nat) (3689348814741910323 : Int64)) ∈ sn_gw := sn_in 335 (by decide +kernel) (by decide +kernel)
theorem tw_336 : (Jvm.Cond.constantLong "java/lang/Long" (318 : Nat) (1085102592571150095 : Int64)) ∈ sn_gw := sn_in 336 (by decide +kernel) (by decide +kernel)
theorem tw_337 : (Jvm.Cond.methodLink "SureNoes" (129 : Nat) ({ cls := "SureNoes$Book", name := "keysReally", desc := "()J" } : Jvm.MethodName)) ∈ sn_gw := sn_in 337 (by decide +kernel) (by decide +kernel)
theorem tw_338 : (Jvm.Cond.instanceMethod ({ cls := "SureNoes$Book", name := "keysReally", desc := "()J" } : Jvm.MethodName)) ∈ sn_gw := sn_in 338 (by decide +kernel) (by decide +kernel)
theorem tw_339 : (Jvm.Cond.sameMethod "SureNoes$Book" "SureNoes$Book" "keysReally" "()J") ∈ sn_gw := sn_in 339 (by decide +kernel) (by decide +kernel)
theorem tw_340 : (Jvm.Cond.selects "SureNoes$Counted" ({ cls := "SureNoes$Book", name := "keysReally", desc := "()J" } : Jvm.MethodName) ({ cls := "SureNoes$Book", name := "keysReally", desc := "()J" } : Jvm.MethodName)) ∈ sn_gw := sn_in 340 (by decide +kernel) (by decide +kernel)
theorem tw_341 : (Jvm.Cond.selects "SureNoes$Folded" ({ cls := "SureNoes$Book", name := "keysReally", desc := "()J" } : Jvm.MethodName) ({ cls := "SureNoes$Book", name := "keysReally", desc := "()J" } : Jvm.MethodName)) ∈ sn_gw := sn_in 341 (by decide +kernel) (by decide +kernel)
theorem tw_342 : (Jvm.Cond.selects "SureNoes$Layered" ({ cls := "SureNoes$Book", name := "keysReally", desc := "()J" } : Jvm.MethodName) ({ cls := "SureNoes$Book", name := "keysReally", desc := "()J" } : Jvm.MethodName)) ∈ sn_gw := sn_in 342 (by decide +kernel) (by decide +kernel)
theorem tw_343 : (Jvm.Cond.selects "SureNoes$Parted" ({ cls := "SureNoes$Book", name := "keysReally", desc := "()J" } : Jvm.MethodName) ({ cls := "SureNoes$Book", name := "keysReally", desc := "()J" } : Jvm.MethodName)) ∈ sn_gw := sn_in 343 (by decide +kernel) (by decide +kernel)
theorem tw_344 : (Jvm.Cond.selects "SureNoes$Plain" ({ cls := "SureNoes$Book", name := "keysReally", desc := "()J" } : Jvm.MethodName) ({ cls := "SureNoes$Book", name := "keysReally", desc := "()J" } : Jvm.MethodName)) ∈ sn_gw := sn_in 344 (by decide +kernel) (by decide +kernel)
theorem tw_345 : (Jvm.Cond.selects "SureNoes$Pushed" ({ cls := "SureNoes$Book", name := "keysReally", desc := "()J" } : Jvm.MethodName) ({ cls := "SureNoes$Book", name := "keysReally", desc := "()J" } : Jvm.MethodName)) ∈ sn_gw := sn_in 345 (by decide +kernel) (by decide +kernel)
theorem tw_346 : (Jvm.Cond.code ({ cls := "SureNoes$Book", name := "keysReally", desc := "()J" } : Jvm.MethodName) prog_2_method_13_code (4 : Nat) (Option.some Jvm.ClassFile.FieldType.long)) ∈ sn_gw := sn_in 346 (by decide +kernel) (by decide +kernel)
theorem tw_347 : (Jvm.Cond.methodLink "SureNoes" (132 : Nat) ({ cls := "SureNoes$Book", name := "rowCount", desc := "()I" } : Jvm.MethodName)) ∈ sn_gw := sn_in 347 (by decide +kernel) (by decide +kernel)
theorem tw_348 : (Jvm.Cond.instanceMethod ({ cls := "SureNoes$Book", name := "rowCount", desc := "()I" } : Jvm.MethodName)) ∈ sn_gw := sn_in 348 (by decide +kernel) (by decide +kernel)
theorem tw_349 : (Jvm.Cond.sameMethod "SureNoes$Book" "SureNoes$Book" "rowCount" "()I") ∈ sn_gw := sn_in 349 (by decide +kernel) (by decide +kernel)
theorem tw_350 : (Jvm.Cond.selects "SureNoes$Counted" ({ cls := "SureNoes$Book", name := "rowCount", desc := "()I" } : Jvm.MethodName) ({ cls := "SureNoes$Book", name := "rowCount", desc := "()I" } : Jvm.MethodName)) ∈ sn_gw := sn_in 350 (by decide +kernel) (by decide +kernel)
theorem tw_351 : (Jvm.Cond.selects "SureNoes$Folded" ({ cls := "SureNoes$Book", name := "rowCount", desc := "()I" } : Jvm.MethodName) ({ cls := "SureNoes$Book", name := "rowCount", desc := "()I" } : Jvm.MethodName)) ∈ sn_gw := sn_in 351 (by decide +kernel) (by decide +kernel)
theorem tw_352 : (Jvm.Cond.selects "SureNoes$Layered" ({ cls := "SureNoes$Book", name := "rowCount", desc := "()I" } : Jvm.MethodName) ({ cls := "SureNoes$Layered", name := "rowCount", desc := "()I" } : Jvm.MethodName)) ∈ sn_gw := sn_in 352 (by decide +kernel) (by decide +kernel)
theorem tw_353 : (Jvm.Cond.instanceMethod ({ cls := "SureNoes$Layered", name := "rowCount", desc := "()I" } : Jvm.MethodName)) ∈ sn_gw := sn_in 353 (by decide +kernel) (by decide +kernel)
theorem tw_354 : (Jvm.Cond.code ({ cls := "SureNoes$Layered", name := "rowCount", desc := "()I" } : Jvm.MethodName) prog_7_method_5_code (1 : Nat) (Option.some Jvm.ClassFile.FieldType.int)) ∈ sn_gw := sn_in 354 (by decide +kernel) (by decide +kernel)
theorem tw_355 : (Jvm.Cond.selects "SureNoes$Parted" ({ cls := "SureNoes$Book", name := "rowCount", desc := "()I" } : Jvm.MethodName) ({ cls := "SureNoes$Book", name := "rowCount", desc := "()I" } : Jvm.MethodName)) ∈ sn_gw := sn_in 355 (by decide +kernel) (by decide +kernel)
theorem tw_356 : (Jvm.Cond.selects "SureNoes$Plain" ({ cls := "SureNoes$Book", name := "rowCount", desc := "()I" } : Jvm.MethodName) ({ cls := "SureNoes$Book", name := "rowCount", desc := "()I" } : Jvm.MethodName)) ∈ sn_gw := sn_in 356 (by decide +kernel) (by decide +kernel)
theorem tw_357 : (Jvm.Cond.selects "SureNoes$Pushed" ({ cls := "SureNoes$Book", name := "rowCount", desc := "()I" } : Jvm.MethodName) ({ cls := "SureNoes$Book", name := "rowCount", desc := "()I" } : Jvm.MethodName)) ∈ sn_gw := sn_in 357 (by decide +kernel) (by decide +kernel)
theorem tw_358 : (Jvm.Cond.code ({ cls := "SureNoes$Book", name := "rowCount", desc := "()I" } : Jvm.MethodName) prog_2_method_9_code (1 : Nat) (Option.some Jvm.ClassFile.FieldType.int)) ∈ sn_gw := sn_in 358 (by decide +kernel) (by decide +kernel)
theorem tw_359 : (Jvm.Cond.methodLink "SureNoesLaw" (51 : Nat) ({ cls := "SureNoes", name := "at", desc := "(II)I" } : Jvm.MethodName)) ∈ sn_gw := sn_in 359 (by decide +kernel) (by decide +kernel)
theorem tw_360 : (Jvm.Cond.instanceMethod ({ cls := "SureNoes", name := "at", desc := "(II)I" } : Jvm.MethodName)) ∈ sn_gw := sn_in 360 (by decide +kernel) (by decide +kernel)
theorem tw_361 : (Jvm.Cond.selects "SureNoes" ({ cls := "SureNoes", name := "at", desc := "(II)I" } : Jvm.MethodName) ({ cls := "SureNoes", name := "at", desc := "(II)I" } : Jvm.MethodName)) ∈ sn_gw := sn_in 361 (by decide +kernel) (by decide +kernel)
theorem tw_362 : (Jvm.Cond.code ({ cls := "SureNoes", name := "at", desc := "(II)I" } : Jvm.MethodName) prog_1_method_10_code (4 : Nat) (Option.some Jvm.ClassFile.FieldType.int)) ∈ sn_gw := sn_in 362 (by decide +kernel) (by decide +kernel)
theorem tw_363 : (Jvm.Cond.methodLink "SureNoesLaw" (55 : Nat) ({ cls := "SureNoes", name := "row", desc := "(II)J" } : Jvm.MethodName)) ∈ sn_gw := sn_in 363 (by decide +kernel) (by decide +kernel)
theorem tw_364 : (Jvm.Cond.instanceMethod ({ cls := "SureNoes", name := "row", desc := "(II)J" } : Jvm.MethodName)) ∈ sn_gw := sn_in 364 (by decide +kernel) (by decide +kernel)
theorem tw_365 : (Jvm.Cond.selects "SureNoes" ({ cls := "SureNoes", name := "row", desc := "(II)J" } : Jvm.MethodName) ({ cls := "SureNoes", name := "row", desc := "(II)J" } : Jvm.MethodName)) ∈ sn_gw := sn_in 365 (by decide +kernel) (by decide +kernel)
theorem tw_366 : (Jvm.Cond.code ({ cls := "SureNoes", name := "row", desc := "(II)J" } : Jvm.MethodName) prog_1_method_11_code (4 : Nat) (Option.some Jvm.ClassFile.FieldType.long)) ∈ sn_gw := sn_in 366 (by decide +kernel) (by decide +kernel)
theorem tw_367 : (Jvm.Cond.constantLong "SureNoes" (140 : Nat) (-101 : Int64)) ∈ sn_gw := sn_in 367 (by decide +kernel) (by decide +kernel)
theorem tw_368 : (Jvm.Cond.methodLink "SureNoes" (142 : Nat) ({ cls := "SureNoes$Book", name := "rowBits", desc := "(I)J" } : Jvm.MethodName)) ∈ sn_gw := sn_in 368 (by decide +kernel) (by decide +kernel)
theorem tw_369 : (Jvm.Cond.instanceMethod ({ cls := "SureNoes$Book", name := "rowBits", desc := "(I)J" } : Jvm.MethodName)) ∈ sn_gw := sn_in 369 (by decide +kernel) (by decide +kernel)
theorem tw_370 : (Jvm.Cond.sameMethod "SureNoes$Book" "SureNoes$Book" "rowBits" "(I)J") ∈ sn_gw := sn_in 370 (by decide +kernel) (by decide +kernel)
theorem tw_371 : (Jvm.Cond.selects "SureNoes$Counted" ({ cls := "SureNoes$Book", name := "rowBits", desc := "(I)J" } : Jvm.MethodName) ({ cls := "SureNoes$Book", name := "rowBits", desc := "(I)J" } : Jvm.MethodName)) ∈ sn_gw := sn_in 371 (by decide +kernel) (by decide +kernel)
theorem tw_372 : (Jvm.Cond.selects "SureNoes$Folded" ({ cls := "SureNoes$Book", name := "rowBits", desc := "(I)J" } : Jvm.MethodName) ({ cls := "SureNoes$Book", name := "rowBits", desc := "(I)J" } : Jvm.MethodName)) ∈ sn_gw := sn_in 372 (by decide +kernel) (by decide +kernel)
theorem tw_373 : (Jvm.Cond.selects "SureNoes$Layered" ({ cls := "SureNoes$Book", name := "rowBits", desc := "(I)J" } : Jvm.MethodName) ({ cls := "SureNoes$Layered", name := "rowBits", desc := "(I)J" } : Jvm.MethodName)) ∈ sn_gw := sn_in 373 (by decide +kernel) (by decide +kernel)
theorem tw_374 : (Jvm.Cond.instanceMethod ({ cls := "SureNoes$Layered", name := "rowBits", desc := "(I)J" } : Jvm.MethodName)) ∈ sn_gw := sn_in 374 (by decide +kernel) (by decide +kernel)
theorem tw_375 : (Jvm.Cond.code ({ cls := "SureNoes$Layered", name := "rowBits", desc := "(I)J" } : Jvm.MethodName) prog_7_method_6_code (2 : Nat) (Option.some Jvm.ClassFile.FieldType.long)) ∈ sn_gw := sn_in 375 (by decide +kernel) (by decide +kernel)
theorem tw_376 : (Jvm.Cond.selects "SureNoes$Parted" ({ cls := "SureNoes$Book", name := "rowBits", desc := "(I)J" } : Jvm.MethodName) ({ cls := "SureNoes$Book", name := "rowBits", desc := "(I)J" } : Jvm.MethodName)) ∈ sn_gw := sn_in 376 (by decide +kernel) (by decide +kernel)
theorem tw_377 : (Jvm.Cond.selects "SureNoes$Plain" ({ cls := "SureNoes$Book", name := "rowBits", desc := "(I)J" } : Jvm.MethodName) ({ cls := "SureNoes$Book", name := "rowBits", desc := "(I)J" } : Jvm.MethodName)) ∈ sn_gw := sn_in 377 (by decide +kernel) (by decide +kernel)
theorem tw_378 : (Jvm.Cond.selects "SureNoes$Pushed" ({ cls := "SureNoes$Book", name := "rowBits", desc := "(I)J" } : Jvm.MethodName) ({ cls := "SureNoes$Book", name := "rowBits", desc := "(I)J" } : Jvm.MethodName)) ∈ sn_gw := sn_in 378 (by decide +kernel) (by decide +kernel)
theorem tw_379 : (Jvm.Cond.code ({ cls := "SureNoes$Book", name := "rowBits", desc := "(I)J" } : Jvm.MethodName) prog_2_method_10_code (2 : Nat) (Option.some Jvm.ClassFile.FieldType.long)) ∈ sn_gw := sn_in 379 (by decide +kernel) (by decide +kernel)
theorem tw_380 : (Jvm.Cond.methodLink "SureNoesLaw" (60 : Nat) ({ cls := "SureNoes", name := "places", desc := "(II)J" } : Jvm.MethodName)) ∈ sn_gw := sn_in 380 (by decide +kernel) (by decide +kernel)
theorem tw_381 : (Jvm.Cond.instanceMethod ({ cls := "SureNoes", name := "places", desc := "(II)J" } : Jvm.MethodName)) ∈ sn_gw := sn_in 381 (by decide +kernel) (by decide +kernel)
theorem tw_382 : (Jvm.Cond.selects "SureNoes" ({ cls := "SureNoes", name := "places", desc := "(II)J" } : Jvm.MethodName) ({ cls := "SureNoes", name := "places", desc := "(II)J" } : Jvm.MethodName)) ∈ sn_gw := sn_in 382 (by decide +kernel) (by decide +kernel)
theorem tw_383 : (Jvm.Cond.code ({ cls := "SureNoes", name := "places", desc := "(II)J" } : Jvm.MethodName) prog_1_method_12_code (4 : Nat) (Option.some Jvm.ClassFile.FieldType.long)) ∈ sn_gw := sn_in 383 (by decide +kernel) (by decide +kernel)
theorem tw_384 : (Jvm.Cond.methodLink "SureNoes" (146 : Nat) ({ cls := "SureNoes$Book", name := "placeBits", desc := "(I)J" } : Jvm.MethodName)) ∈ sn_gw := sn_in 384 (by decide +kernel) (by decide +kernel)
theorem tn_385 : (Jvm.Cond.declares ({ cls := "SureNoes$Book", name := "placeBits", desc := "(I)J" } : Jvm.MethodName)) ∈ lw_tbl := sn_inN 385 (by decide +kernel)
theorem tw_386 : (Jvm.Cond.sameMethod "SureNoes$Book" "SureNoes$Book" "placeBits" "(I)J") ∈ sn_gw := sn_in 386 (by decide +kernel) (by decide +kernel)
theorem tw_387 : (Jvm.Cond.selects "SureNoes$Counted" ({ cls := "SureNoes$Book", name := "placeBits", desc := "(I)J" } : Jvm.MethodName) ({ cls := "SureNoes$Plain", name := "placeBits", desc := "(I)J" } : Jvm.MethodName)) ∈ sn_gw := sn_in 387 (by decide +kernel) (by decide +kernel)
theorem tw_388 : (Jvm.Cond.instanceMethod ({ cls := "SureNoes$Plain", name := "placeBits", desc := "(I)J" } : Jvm.MethodName)) ∈ sn_gw := sn_in 388 (by decide +kernel) (by decide +kernel)
theorem tw_389 : (Jvm.Cond.code ({ cls := "SureNoes$Plain", name := "placeBits", desc := "(I)J" } : Jvm.MethodName) prog_9_method_2_code (5 : Nat) (Option.some Jvm.ClassFile.FieldType.long)) ∈ sn_gw := sn_in 389 (by decide +kernel) (by decide +kernel)
theorem tw_390 : (Jvm.Cond.methodLink "SureNoes$Plain" (17 : Nat) ({ cls := "SureNoes$Law", name := "placeFor", desc := "(II)I" } : Jvm.MethodName)) ∈ sn_gw := sn_in 390 (by decide +kernel) (by decide +kernel)
theorem tw_391 : (Jvm.Cond.instanceMethod ({ cls := "SureNoes$Law", name := "placeFor", desc := "(II)I" } : Jvm.MethodName)) ∈ sn_gw := sn_in 391 (by decide +kernel) (by decide +kernel)
theorem tw_392 : (Jvm.Cond.selects "SureNoes$Law" ({ cls := "SureNoes$Law", name := "placeFor", desc := "(II)I" } : Jvm.MethodName) ({ cls := "SureNoes$Law", name := "placeFor", desc := "(II)I" } : Jvm.MethodName)) ∈ sn_gw := sn_in 392 (by decide +kernel) (by decide +kernel)
theorem tw_393 : (Jvm.Cond.code ({ cls := "SureNoes$Law", name := "placeFor", desc := "(II)I" } : Jvm.MethodName) prog_6_method_3_code (3 : Nat) (Option.some Jvm.ClassFile.FieldType.int)) ∈ sn_gw := sn_in 393 (by decide +kernel) (by decide +kernel)
theorem tw_394 : (Jvm.Cond.selects "SureNoes$Folded" ({ cls := "SureNoes$Book", name := "placeBits", desc := "(I)J" } : Jvm.MethodName) ({ cls := "SureNoes$Parted", name := "placeBits", desc := "(I)J" } : Jvm.MethodName)) ∈ sn_gw := sn_in 394 (by decide +kernel) (by decide +kernel)
theorem tw_395 : (Jvm.Cond.instanceMethod ({ cls := "SureNoes$Parted", name := "placeBits", desc := "(I)J" } : Jvm.MethodName)) ∈ sn_gw := sn_in 395 (by decide +kernel) (by decide +kernel)
theorem tw_396 : (Jvm.Cond.code ({ cls := "SureNoes$Parted", name := "placeBits", desc := "(I)J" } : Jvm.MethodName) prog_8_method_2_code (6 : Nat) (Option.some Jvm.ClassFile.FieldType.long)) ∈ sn_gw := sn_in 396 (by decide +kernel) (by decide +kernel)
theorem tw_397 : (Jvm.Cond.methodLink "SureNoes$Parted" (17 : Nat) ({ cls := "java/lang/Math", name := "max", desc := "(II)I" } : Jvm.MethodName)) ∈ sn_gw := sn_in 397 (by decide +kernel) (by decide +kernel)
theorem tw_398 : (Jvm.Cond.static ({ cls := "java/lang/Math", name := "max", desc := "(II)I" } : Jvm.MethodName)) ∈ sn_gw := sn_in 398 (by decide +kernel) (by decide +kernel)
theorem tw_399 : (Jvm.Cond.code ({ cls := "java/lang/Math", name := "max", desc := "(II)I" } : Jvm.MethodName) prog_15_method_65_code (2 : Nat) (Option.some Jvm.ClassFile.FieldType.int)) ∈ sn_gw := sn_in 399 (by decide +kernel) (by decide +kernel)
theorem tw_400 : (Jvm.Cond.methodLink "SureNoes$Parted" (23 : Nat) ({ cls := "SureNoes$Law", name := "placeFor", desc := "(II)I" } : Jvm.MethodName)) ∈ sn_gw := sn_in 400 (by decide +kernel) (by decide +kernel)
theorem tn_401 : (Jvm.Cond.methodLinkNest "SureNoes$Parted" (28 : Nat) ({ cls := "SureNoes", name := "rest", desc := "(II)I" } : Jvm.MethodName) "SureNoes") ∈ lw_tbl := sn_inN 401 (by decide +kernel)
theorem tw_402 : (Jvm.Cond.selects "SureNoes$Layered" ({ cls := "SureNoes$Book", name := "placeBits", desc := "(I)J" } : Jvm.MethodName) ({ cls := "SureNoes$Plain", name := "placeBits", desc := "(I)J" } : Jvm.MethodName)) ∈ sn_gw := sn_in 402 (by decide +kernel) (by decide +kernel)
theorem tw_403 : (Jvm.Cond.selects "SureNoes$Parted" ({ cls := "SureNoes$Book", name := "placeBits", desc := "(I)J" } : Jvm.MethodName) ({ cls := "SureNoes$Parted", name := "placeBits", desc := "(I)J" } : Jvm.MethodName)) ∈ sn_gw := sn_in 403 (by decide +kernel) (by decide +kernel)
theorem tw_404 : (Jvm.Cond.selects "SureNoes$Plain" ({ cls := "SureNoes$Book", name := "placeBits", desc := "(I)J" } : Jvm.MethodName) ({ cls := "SureNoes$Plain", name := "placeBits", desc := "(I)J" } : Jvm.MethodName)) ∈ sn_gw := sn_in 404 (by decide +kernel) (by decide +kernel)
theorem tw_405 : (Jvm.Cond.selects "SureNoes$Pushed" ({ cls := "SureNoes$Book", name := "placeBits", desc := "(I)J" } : Jvm.MethodName) ({ cls := "SureNoes$Pushed", name := "placeBits", desc := "(I)J" } : Jvm.MethodName)) ∈ sn_gw := sn_in 405 (by decide +kernel) (by decide +kernel)
theorem tw_406 : (Jvm.Cond.instanceMethod ({ cls := "SureNoes$Pushed", name := "placeBits", desc := "(I)J" } : Jvm.MethodName)) ∈ sn_gw := sn_in 406 (by decide +kernel) (by decide +kernel)
theorem tw_407 : (Jvm.Cond.code ({ cls := "SureNoes$Pushed", name := "placeBits", desc := "(I)J" } : Jvm.MethodName) prog_10_method_5_code (3 : Nat) (Option.some Jvm.ClassFile.FieldType.long)) ∈ sn_gw := sn_in 407 (by decide +kernel) (by decide +kernel)
theorem tw_408 : (Jvm.Cond.methodLink "SureNoes$Pushed" (45 : Nat) ({ cls := "SureNoes$Pushed", name := "firstPlace", desc := "(I)I" } : Jvm.MethodName)) ∈ sn_gw := sn_in 408 (by decide +kernel) (by decide +kernel)
theorem tw_410 : (Jvm.Cond.instanceMethod ({ cls := "SureNoes$Pushed", name := "firstPlace", desc := "(I)I" } : Jvm.MethodName)) ∈ sn_gw := sn_in 410 (by decide +kernel) (by decide +kernel)
theorem tw_411 : (Jvm.Cond.code ({ cls := "SureNoes$Pushed", name := "firstPlace", desc := "(I)I" } : Jvm.MethodName) prog_10_method_2_code (2 : Nat) (Option.some Jvm.ClassFile.FieldType.int)) ∈ sn_gw := sn_in 411 (by decide +kernel) (by decide +kernel)
theorem tw_412 : (Jvm.Cond.methodLink "SureNoes$Pushed" (32 : Nat) ({ cls := "SureNoes$Law", name := "placeFor", desc := "(II)I" } : Jvm.MethodName)) ∈ sn_gw := sn_in 412 (by decide +kernel) (by decide +kernel)
theorem tw_413 : (Jvm.Cond.methodLink "SureNoes$Pushed" (48 : Nat) ({ cls := "SureNoes$Pushed", name := "markOf", desc := "(I)I" } : Jvm.MethodName)) ∈ sn_gw := sn_in 413 (by decide +kernel) (by decide +kernel)
theorem tw_415 : (Jvm.Cond.instanceMethod ({ cls := "SureNoes$Pushed", name := "markOf", desc := "(I)I" } : Jvm.MethodName)) ∈ sn_gw := sn_in 415 (by decide +kernel) (by decide +kernel)
theorem tw_416 : (Jvm.Cond.code ({ cls := "SureNoes$Pushed", name := "markOf", desc := "(I)I" } : Jvm.MethodName) prog_10_method_3_code (2 : Nat) (Option.some Jvm.ClassFile.FieldType.int)) ∈ sn_gw := sn_in 416 (by decide +kernel) (by decide +kernel)
theorem tw_417 : (Jvm.Cond.methodLink "SureNoes$Pushed" (38 : Nat) ({ cls := "SureNoes$Law", name := "markFor", desc := "(I)I" } : Jvm.MethodName)) ∈ sn_gw := sn_in 417 (by decide +kernel) (by decide +kernel)
theorem tw_418 : (Jvm.Cond.instanceMethod ({ cls := "SureNoes$Law", name := "markFor", desc := "(I)I" } : Jvm.MethodName)) ∈ sn_gw := sn_in 418 (by decide +kernel) (by decide +kernel)
theorem tw_419 : (Jvm.Cond.selects "SureNoes$Law" ({ cls := "SureNoes$Law", name := "markFor", desc := "(I)I" } : Jvm.MethodName) ({ cls := "SureNoes$Law", name := "markFor", desc := "(I)I" } : Jvm.MethodName)) ∈ sn_gw := sn_in 419 (by decide +kernel) (by decide +kernel)
theorem tw_420 : (Jvm.Cond.code ({ cls := "SureNoes$Law", name := "markFor", desc := "(I)I" } : Jvm.MethodName) prog_6_method_4_code (2 : Nat) (Option.some Jvm.ClassFile.FieldType.int)) ∈ sn_gw := sn_in 420 (by decide +kernel) (by decide +kernel)
theorem tw_421 : (Jvm.Cond.methodLink "SureNoes$Pushed" (51 : Nat) ({ cls := "SureNoes$Pushed", name := "otherPlace", desc := "(II)I" } : Jvm.MethodName)) ∈ sn_gw := sn_in 421 (by decide +kernel) (by decide +kernel)
theorem tw_423 : (Jvm.Cond.instanceMethod ({ cls := "SureNoes$Pushed", name := "otherPlace", desc := "(II)I" } : Jvm.MethodName)) ∈ sn_gw := sn_in 423 (by decide +kernel) (by decide +kernel)
theorem tw_424 : (Jvm.Cond.code ({ cls := "SureNoes$Pushed", name := "otherPlace", desc := "(II)I" } : Jvm.MethodName) prog_10_method_4_code (3 : Nat) (Option.some Jvm.ClassFile.FieldType.int)) ∈ sn_gw := sn_in 424 (by decide +kernel) (by decide +kernel)
theorem tn_425 : (Jvm.Cond.methodLinkNest "SureNoes$Pushed" (42 : Nat) ({ cls := "SureNoes", name := "rest", desc := "(II)I" } : Jvm.MethodName) "SureNoes") ∈ lw_tbl := sn_inN 425 (by decide +kernel)
theorem tw_426 : (Jvm.Cond.methodLink "SureNoesLaw" (64 : Nat) ({ cls := "SureNoes", name := "put", desc := "(II)I" } : Jvm.MethodName)) ∈ sn_gw := sn_in 426 (by decide +kernel) (by decide +kernel)
theorem tw_427 : (Jvm.Cond.instanceMethod ({ cls := "SureNoes", name := "put", desc := "(II)I" } : Jvm.MethodName)) ∈ sn_gw := sn_in 427 (by decide +kernel) (by decide +kernel)
theorem tw_428 : (Jvm.Cond.selects "SureNoes" ({ cls := "SureNoes", name := "put", desc := "(II)I" } : Jvm.MethodName) ({ cls := "SureNoes", name := "put", desc := "(II)I" } : Jvm.MethodName)) ∈ sn_gw := sn_in 428 (by decide +kernel) (by decide +kernel)
theorem tw_429 : (Jvm.Cond.code ({ cls := "SureNoes", name := "put", desc := "(II)I" } : Jvm.MethodName) prog_1_method_13_code (5 : Nat) (Option.some Jvm.ClassFile.FieldType.int)) ∈ sn_gw := sn_in 429 (by decide +kernel) (by decide +kernel)
theorem tw_430 : (Jvm.Cond.methodLink "SureNoes" (149 : Nat) ({ cls := "SureNoes$Book", name := "letsPut", desc := "()Z" } : Jvm.MethodName)) ∈ sn_gw := sn_in 430 (by decide +kernel) (by decide +kernel)
theorem tn_431 : (Jvm.Cond.declares ({ cls := "SureNoes$Book", name := "letsPut", desc := "()Z" } : Jvm.MethodName)) ∈ lw_tbl := sn_inN 431 (by decide +kernel)
theorem tw_432 : (Jvm.Cond.sameMethod "SureNoes$Book" "SureNoes$Book" "letsPut" "()Z") ∈ sn_gw := sn_in 432 (by decide +kernel) (by decide +kernel)
theorem tw_433 : (Jvm.Cond.selects "SureNoes$Counted" ({ cls := "SureNoes$Book", name := "letsPut", desc := "()Z" } : Jvm.MethodName) ({ cls := "SureNoes$Plain", name := "letsPut", desc := "()Z" } : Jvm.MethodName)) ∈ sn_gw := sn_in 433 (by decide +kernel) (by decide +kernel)
theorem tw_434 : (Jvm.Cond.instanceMethod ({ cls := "SureNoes$Plain", name := "letsPut", desc := "()Z" } : Jvm.MethodName)) ∈ sn_gw := sn_in 434 (by decide +kernel) (by decide +kernel)
theorem tw_435 : (Jvm.Cond.code ({ cls := "SureNoes$Plain", name := "letsPut", desc := "()Z" } : Jvm.MethodName) prog_9_method_4_code (1 : Nat) (Option.some Jvm.ClassFile.FieldType.boolean)) ∈ sn_gw := sn_in 435 (by decide +kernel) (by decide +kernel)
theorem tw_436 : (Jvm.Cond.selects "SureNoes$Folded" ({ cls := "SureNoes$Book", name := "letsPut", desc := "()Z" } : Jvm.MethodName) ({ cls := "SureNoes$Folded", name := "letsPut", desc := "()Z" } : Jvm.MethodName)) ∈ sn_gw := sn_in 436 (by decide +kernel) (by decide +kernel)
theorem tw_437 : (Jvm.Cond.instanceMethod ({ cls := "SureNoes$Folded", name := "letsPut", desc := "()Z" } : Jvm.MethodName)) ∈ sn_gw := sn_in 437 (by decide +kernel) (by decide +kernel)
theorem tw_438 : (Jvm.Cond.code ({ cls := "SureNoes$Folded", name := "letsPut", desc := "()Z" } : Jvm.MethodName) prog_5_method_5_code (1 : Nat) (Option.some Jvm.ClassFile.FieldType.boolean)) ∈ sn_gw := sn_in 438 (by decide +kernel) (by decide +kernel)
theorem tw_439 : (Jvm.Cond.selects "SureNoes$Layered" ({ cls := "SureNoes$Book", name := "letsPut", desc := "()Z" } : Jvm.MethodName) ({ cls := "SureNoes$Layered", name := "letsPut", desc := "()Z" } : Jvm.MethodName)) ∈ sn_gw := sn_in 439 (by decide +kernel) (by decide +kernel)
theorem tw_440 : (Jvm.Cond.instanceMethod ({ cls := "SureNoes$Layered", name := "letsPut", desc := "()Z" } : Jvm.MethodName)) ∈ sn_gw := sn_in 440 (by decide +kernel) (by decide +kernel)
theorem tw_441 : (Jvm.Cond.code ({ cls := "SureNoes$Layered", name := "letsPut", desc := "()Z" } : Jvm.MethodName) prog_7_method_4_code (1 : Nat) (Option.some Jvm.ClassFile.FieldType.boolean)) ∈ sn_gw := sn_in 441 (by decide +kernel) (by decide +kernel)
theorem tw_442 : (Jvm.Cond.selects "SureNoes$Parted" ({ cls := "SureNoes$Book", name := "letsPut", desc := "()Z" } : Jvm.MethodName) ({ cls := "SureNoes$Plain", name := "letsPut", desc := "()Z" } : Jvm.MethodName)) ∈ sn_gw := sn_in 442 (by decide +kernel) (by decide +kernel)
theorem tw_443 : (Jvm.Cond.selects "SureNoes$Plain" ({ cls := "SureNoes$Book", name := "letsPut", desc := "()Z" } : Jvm.MethodName) ({ cls := "SureNoes$Plain", name := "letsPut", desc := "()Z" } : Jvm.MethodName)) ∈ sn_gw := sn_in 443 (by decide +kernel) (by decide +kernel)
theorem tw_444 : (Jvm.Cond.selects "SureNoes$Pushed" ({ cls := "SureNoes$Book", name := "letsPut", desc := "()Z" } : Jvm.MethodName) ({ cls := "SureNoes$Pushed", name := "letsPut", desc := "()Z" } : Jvm.MethodName)) ∈ sn_gw := sn_in 444 (by decide +kernel) (by decide +kernel)
theorem tw_445 : (Jvm.Cond.instanceMethod ({ cls := "SureNoes$Pushed", name := "letsPut", desc := "()Z" } : Jvm.MethodName)) ∈ sn_gw := sn_in 445 (by decide +kernel) (by decide +kernel)
theorem tw_446 : (Jvm.Cond.code ({ cls := "SureNoes$Pushed", name := "letsPut", desc := "()Z" } : Jvm.MethodName) prog_10_method_7_code (1 : Nat) (Option.some Jvm.ClassFile.FieldType.boolean)) ∈ sn_gw := sn_in 446 (by decide +kernel) (by decide +kernel)
theorem tw_447 : (Jvm.Cond.methodLink "SureNoes" (156 : Nat) ({ cls := "SureNoes$Book", name := "holds", desc := "(I)Z" } : Jvm.MethodName)) ∈ sn_gw := sn_in 447 (by decide +kernel) (by decide +kernel)
theorem tn_448 : (Jvm.Cond.declares ({ cls := "SureNoes$Book", name := "holds", desc := "(I)Z" } : Jvm.MethodName)) ∈ lw_tbl := sn_inN 448 (by decide +kernel)
theorem tw_449 : (Jvm.Cond.sameMethod "SureNoes$Book" "SureNoes$Book" "holds" "(I)Z") ∈ sn_gw := sn_in 449 (by decide +kernel) (by decide +kernel)
theorem tw_450 : (Jvm.Cond.selects "SureNoes$Counted" ({ cls := "SureNoes$Book", name := "holds", desc := "(I)Z" } : Jvm.MethodName) ({ cls := "SureNoes$Plain", name := "holds", desc := "(I)Z" } : Jvm.MethodName)) ∈ sn_gw := sn_in 450 (by decide +kernel) (by decide +kernel)
theorem tw_451 : (Jvm.Cond.instanceMethod ({ cls := "SureNoes$Plain", name := "holds", desc := "(I)Z" } : Jvm.MethodName)) ∈ sn_gw := sn_in 451 (by decide +kernel) (by decide +kernel)
theorem tw_452 : (Jvm.Cond.code ({ cls := "SureNoes$Plain", name := "holds", desc := "(I)Z" } : Jvm.MethodName) prog_9_method_3_code (2 : Nat) (Option.some Jvm.ClassFile.FieldType.boolean)) ∈ sn_gw := sn_in 452 (by decide +kernel) (by decide +kernel)
theorem tw_453 : (Jvm.Cond.methodLink "SureNoes$Plain" (23 : Nat) ({ cls := "SureNoes$Plain", name := "placeBits", desc := "(I)J" } : Jvm.MethodName)) ∈ sn_gw := sn_in 453 (by decide +kernel) (by decide +kernel)
theorem tw_454 : (Jvm.Cond.methodLink "SureNoes$Plain" (27 : Nat) ({ cls := "SureNoes$Plain", name := "filledPlaces", desc := "()J" } : Jvm.MethodName)) ∈ sn_gw := sn_in 454 (by decide +kernel) (by decide +kernel)
theorem tw_455 : (Jvm.Cond.sameMethod "SureNoes$Plain" "SureNoes$Book" "filledPlaces" "()J") ∈ sn_gw := sn_in 455 (by decide +kernel) (by decide +kernel)
theorem tn_456 : (Jvm.Cond.declares ({ cls := "SureNoes$Book", name := "filledPlaces", desc := "()J" } : Jvm.MethodName)) ∈ lw_tbl := sn_inN 456 (by decide +kernel)
theorem tw_457 : (Jvm.Cond.selects "SureNoes$Counted" ({ cls := "SureNoes$Plain", name := "filledPlaces", desc := "()J" } : Jvm.MethodName) ({ cls := "SureNoes$Book", name := "filledPlaces", desc := "()J" } : Jvm.MethodName)) ∈ sn_gw := sn_in 457 (by decide +kernel) (by decide +kernel)
theorem tw_458 : (Jvm.Cond.selects "SureNoes$Folded" ({ cls := "SureNoes$Plain", name := "filledPlaces", desc := "()J" } : Jvm.MethodName) ({ cls := "SureNoes$Book", name := "filledPlaces", desc := "()J" } : Jvm.MethodName)) ∈ sn_gw := sn_in 458 (by decide +kernel) (by decide +kernel)
theorem tw_459 : (Jvm.Cond.selects "SureNoes$Layered" ({ cls := "SureNoes$Plain", name := "filledPlaces", desc := "()J" } : Jvm.MethodName) ({ cls := "SureNoes$Book", name := "filledPlaces", desc := "()J" } : Jvm.MethodName)) ∈ sn_gw := sn_in 459 (by decide +kernel) (by decide +kernel)
theorem tw_460 : (Jvm.Cond.selects "SureNoes$Parted" ({ cls := "SureNoes$Plain", name := "filledPlaces", desc := "()J" } : Jvm.MethodName) ({ cls := "SureNoes$Book", name := "filledPlaces", desc := "()J" } : Jvm.MethodName)) ∈ sn_gw := sn_in 460 (by decide +kernel) (by decide +kernel)
theorem tw_461 : (Jvm.Cond.selects "SureNoes$Plain" ({ cls := "SureNoes$Plain", name := "filledPlaces", desc := "()J" } : Jvm.MethodName) ({ cls := "SureNoes$Book", name := "filledPlaces", desc := "()J" } : Jvm.MethodName)) ∈ sn_gw := sn_in 461 (by decide +kernel) (by decide +kernel)
theorem tw_462 : (Jvm.Cond.constantLong "SureNoes$Plain" (31 : Nat) (-1 : Int64)) ∈ sn_gw := sn_in 462 (by decide +kernel) (by decide +kernel)
theorem tw_463 : (Jvm.Cond.selects "SureNoes$Folded" ({ cls := "SureNoes$Book", name := "holds", desc := "(I)Z" } : Jvm.MethodName) ({ cls := "SureNoes$Folded", name := "holds", desc := "(I)Z" } : Jvm.MethodName)) ∈ sn_gw := sn_in 463 (by decide +kernel) (by decide +kernel)
theorem tw_464 : (Jvm.Cond.instanceMethod ({ cls := "SureNoes$Folded", name := "holds", desc := "(I)Z" } : Jvm.MethodName)) ∈ sn_gw := sn_in 464 (by decide +kernel) (by decide +kernel)
theorem tw_465 : (Jvm.Cond.code ({ cls := "SureNoes$Folded", name := "holds", desc := "(I)Z" } : Jvm.MethodName) prog_5_method_4_code (2 : Nat) (Option.some Jvm.ClassFile.FieldType.boolean)) ∈ sn_gw := sn_in 465 (by decide +kernel) (by decide +kernel)
theorem tw_466 : (Jvm.Cond.methodLink "SureNoes$Folded" (43 : Nat) ({ cls := "SureNoes$Folded", name := "placeBits", desc := "(I)J" } : Jvm.MethodName)) ∈ sn_gw := sn_in 466 (by decide +kernel) (by decide +kernel)
theorem tw_467 : (Jvm.Cond.sameMethod "SureNoes$Folded" "SureNoes$Parted" "placeBits" "(I)J") ∈ sn_gw := sn_in 467 (by decide +kernel) (by decide +kernel)
theorem tn_468 : (Jvm.Cond.declares ({ cls := "SureNoes$Parted", name := "placeBits", desc := "(I)J" } : Jvm.MethodName)) ∈ lw_tbl := sn_inN 468 (by decide +kernel)
theorem tw_469 : (Jvm.Cond.selects "SureNoes$Folded" ({ cls := "SureNoes$Folded", name := "placeBits", desc := "(I)J" } : Jvm.MethodName) ({ cls := "SureNoes$Parted", name := "placeBits", desc := "(I)J" } : Jvm.MethodName)) ∈ sn_gw := sn_in 469 (by decide +kernel) (by decide +kernel)
theorem tw_470 : (Jvm.Cond.methodLink "SureNoes$Folded" (47 : Nat) ({ cls := "SureNoes$Folded", name := "together", desc := "(J)I" } : Jvm.MethodName)) ∈ sn_gw := sn_in 470 (by decide +kernel) (by decide +kernel)
theorem tw_472 : (Jvm.Cond.instanceMethod ({ cls := "SureNoes$Folded", name := "together", desc := "(J)I" } : Jvm.MethodName)) ∈ sn_gw := sn_in 472 (by decide +kernel) (by decide +kernel)
theorem tw_473 : (Jvm.Cond.code ({ cls := "SureNoes$Folded", name := "together", desc := "(J)I" } : Jvm.MethodName) prog_5_method_3_code (5 : Nat) (Option.some Jvm.ClassFile.FieldType.int)) ∈ sn_gw := sn_in 473 (by decide +kernel) (by decide +kernel)
theorem tn_474 : (Jvm.Cond.methodLinkNest "SureNoes$Folded" (36 : Nat) ({ cls := "SureNoes", name := "has", desc := "(JI)Z" } : Jvm.MethodName) "SureNoes") ∈ lw_tbl := sn_inN 474 (by decide +kernel)
theorem tw_475 : (Jvm.Cond.methodLink "SureNoes$Folded" (51 : Nat) ({ cls := "SureNoes$Folded", name := "markOf", desc := "(I)I" } : Jvm.MethodName)) ∈ sn_gw := sn_in 475 (by decide +kernel) (by decide +kernel)
theorem tw_477 : (Jvm.Cond.instanceMethod ({ cls := "SureNoes$Folded", name := "markOf", desc := "(I)I" } : Jvm.MethodName)) ∈ sn_gw := sn_in 477 (by decide +kernel) (by decide +kernel)
theorem tw_478 : (Jvm.Cond.code ({ cls := "SureNoes$Folded", name := "markOf", desc := "(I)I" } : Jvm.MethodName) prog_5_method_2_code (2 : Nat) (Option.some Jvm.ClassFile.FieldType.int)) ∈ sn_gw := sn_in 478 (by decide +kernel) (by decide +kernel)
theorem tw_479 : (Jvm.Cond.methodLink "SureNoes$Folded" (26 : Nat) ({ cls := "SureNoes$Law", name := "markFor", desc := "(I)I" } : Jvm.MethodName)) ∈ sn_gw := sn_in 479 (by decide +kernel) (by decide +kernel)
theorem tw_480 : (Jvm.Cond.selects "SureNoes$Layered" ({ cls := "SureNoes$Book", name := "holds", desc := "(I)Z" } : Jvm.MethodName) ({ cls := "SureNoes$Layered", name := "holds", desc := "(I)Z" } : Jvm.MethodName)) ∈ sn_gw := sn_in 480 (by decide +kernel) (by decide +kernel)
theorem tw_481 : (Jvm.Cond.instanceMethod ({ cls := "SureNoes$Layered", name := "holds", desc := "(I)Z" } : Jvm.MethodName)) ∈ sn_gw := sn_in 481 (by decide +kernel) (by decide +kernel)
theorem tw_482 : (Jvm.Cond.code ({ cls := "SureNoes$Layered", name := "holds", desc := "(I)Z" } : Jvm.MethodName) prog_7_method_3_code (3 : Nat) (Option.some Jvm.ClassFile.FieldType.boolean)) ∈ sn_gw := sn_in 482 (by decide +kernel) (by decide +kernel)
theorem tw_483 : (Jvm.Cond.methodLink "SureNoes$Layered" (38 : Nat) ({ cls := "SureNoes$Layered", name := "placeInRow", desc := "(II)I" } : Jvm.MethodName)) ∈ sn_gw := sn_in 483 (by decide +kernel) (by decide +kernel)
theorem tw_485 : (Jvm.Cond.instanceMethod ({ cls := "SureNoes$Layered", name := "placeInRow", desc := "(II)I" } : Jvm.MethodName)) ∈ sn_gw := sn_in 485 (by decide +kernel) (by decide +kernel)
theorem tw_486 : (Jvm.Cond.code ({ cls := "SureNoes$Layered", name := "placeInRow", desc := "(II)I" } : Jvm.MethodName) prog_7_method_2_code (4 : Nat) (Option.some Jvm.ClassFile.FieldType.int)) ∈ sn_gw := sn_in 486 (by decide +kernel) (by decide +kernel)
theorem tn_487 : (Jvm.Cond.methodLinkNest "SureNoes$Layered" (26 : Nat) ({ cls := "SureNoes", name := "rest", desc := "(II)I" } : Jvm.MethodName) "SureNoes") ∈ lw_tbl := sn_inN 487 (by decide +kernel)
theorem tw_488 : (Jvm.Cond.methodLink "SureNoes$Layered" (33 : Nat) ({ cls := "SureNoes$Law", name := "placeFor", desc := "(II)I" } : Jvm.MethodName)) ∈ sn_gw := sn_in 488 (by decide +kernel) (by decide +kernel)
theorem tn_489 : (Jvm.Cond.methodLinkNest "SureNoes$Layered" (41 : Nat) ({ cls := "SureNoes", name := "has", desc := "(JI)Z" } : Jvm.MethodName) "SureNoes") ∈ lw_tbl := sn_inN 489 (by decide +kernel)
theorem tw_490 : (Jvm.Cond.selects "SureNoes$Parted" ({ cls := "SureNoes$Book", name := "holds", desc := "(I)Z" } : Jvm.MethodName) ({ cls := "SureNoes$Plain", name := "holds", desc := "(I)Z" } : Jvm.MethodName)) ∈ sn_gw := sn_in 490 (by decide +kernel) (by decide +kernel)
theorem tw_491 : (Jvm.Cond.selects "SureNoes$Plain" ({ cls := "SureNoes$Book", name := "holds", desc := "(I)Z" } : Jvm.MethodName) ({ cls := "SureNoes$Plain", name := "holds", desc := "(I)Z" } : Jvm.MethodName)) ∈ sn_gw := sn_in 491 (by decide +kernel) (by decide +kernel)
theorem tw_492 : (Jvm.Cond.selects "SureNoes$Pushed" ({ cls := "SureNoes$Book", name := "holds", desc := "(I)Z" } : Jvm.MethodName) ({ cls := "SureNoes$Pushed", name := "holds", desc := "(I)Z" } : Jvm.MethodName)) ∈ sn_gw := sn_in 492 (by decide +kernel) (by decide +kernel)
theorem tw_493 : (Jvm.Cond.instanceMethod ({ cls := "SureNoes$Pushed", name := "holds", desc := "(I)Z" } : Jvm.MethodName)) ∈ sn_gw := sn_in 493 (by decide +kernel) (by decide +kernel)
theorem tw_494 : (Jvm.Cond.code ({ cls := "SureNoes$Pushed", name := "holds", desc := "(I)Z" } : Jvm.MethodName) prog_10_method_6_code (4 : Nat) (Option.some Jvm.ClassFile.FieldType.boolean)) ∈ sn_gw := sn_in 494 (by decide +kernel) (by decide +kernel)
theorem tw_495 : (Jvm.Cond.methodLink "SureNoes" (159 : Nat) ({ cls := "SureNoes$Book", name := "insert", desc := "(I)Z" } : Jvm.MethodName)) ∈ sn_gw := sn_in 495 (by decide +kernel) (by decide +kernel)
theorem tn_496 : (Jvm.Cond.declares ({ cls := "SureNoes$Book", name := "insert", desc := "(I)Z" } : Jvm.MethodName)) ∈ lw_tbl := sn_inN 496 (by decide +kernel)
theorem tw_497 : (Jvm.Cond.sameMethod "SureNoes$Book" "SureNoes$Book" "insert" "(I)Z") ∈ sn_gw := sn_in 497 (by decide +kernel) (by decide +kernel)
theorem tw_498 : (Jvm.Cond.selects "SureNoes$Counted" ({ cls := "SureNoes$Book", name := "insert", desc := "(I)Z" } : Jvm.MethodName) ({ cls := "SureNoes$Counted", name := "insert", desc := "(I)Z" } : Jvm.MethodName)) ∈ sn_gw := sn_in 498 (by decide +kernel) (by decide +kernel)
theorem tw_499 : (Jvm.Cond.instanceMethod ({ cls := "SureNoes$Counted", name := "insert", desc := "(I)Z" } : Jvm.MethodName)) ∈ sn_gw := sn_in 499 (by decide +kernel) (by decide +kernel)
theorem tw_500 : (Jvm.Cond.code ({ cls := "SureNoes$Counted", name := "insert", desc := "(I)Z" } : Jvm.MethodName) prog_3_method_2_code (5 : Nat) (Option.some Jvm.ClassFile.FieldType.boolean)) ∈ sn_gw := sn_in 500 (by decide +kernel) (by decide +kernel)
theorem tw_501 : (Jvm.Cond.methodLink "SureNoes$Counted" (9 : Nat) ({ cls := "SureNoes$Counted", name := "placeBits", desc := "(I)J" } : Jvm.MethodName)) ∈ sn_gw := sn_in 501 (by decide +kernel) (by decide +kernel)
theorem tw_502 : (Jvm.Cond.sameMethod "SureNoes$Counted" "SureNoes$Plain" "placeBits" "(I)J") ∈ sn_gw := sn_in 502 (by decide +kernel) (by decide +kernel)
theorem tn_503 : (Jvm.Cond.declares ({ cls := "SureNoes$Plain", name := "placeBits", desc := "(I)J" } : Jvm.MethodName)) ∈ lw_tbl := sn_inN 503 (by decide +kernel)
theorem tw_504 : (Jvm.Cond.selects "SureNoes$Counted" ({ cls := "SureNoes$Counted", name := "placeBits", desc := "(I)J" } : Jvm.MethodName) ({ cls := "SureNoes$Plain", name := "placeBits", desc := "(I)J" } : Jvm.MethodName)) ∈ sn_gw := sn_in 504 (by decide +kernel) (by decide +kernel)
theorem tn_505 : (Jvm.Cond.methodLinkNest "SureNoes$Counted" (19 : Nat) ({ cls := "SureNoes", name := "has", desc := "(JI)Z" } : Jvm.MethodName) "SureNoes") ∈ lw_tbl := sn_inN 505 (by decide +kernel)
theorem tw_506 : (Jvm.Cond.selects "SureNoes$Folded" ({ cls := "SureNoes$Book", name := "insert", desc := "(I)Z" } : Jvm.MethodName) ({ cls := "SureNoes$Plain", name := "insert", desc := "(I)Z" } : Jvm.MethodName)) ∈ sn_gw := sn_in 506 (by decide +kernel) (by decide +kernel)
theorem tw_507 : (Jvm.Cond.instanceMethod ({ cls := "SureNoes$Plain", name := "insert", desc := "(I)Z" } : Jvm.MethodName)) ∈ sn_gw := sn_in 507 (by decide +kernel) (by decide +kernel)
theorem tw_508 : (Jvm.Cond.code ({ cls := "SureNoes$Plain", name := "insert", desc := "(I)Z" } : Jvm.MethodName) prog_9_method_5_code (5 : Nat) (Option.some Jvm.ClassFile.FieldType.boolean)) ∈ sn_gw := sn_in 508 (by decide +kernel) (by decide +kernel)
theorem tn_509 : (Jvm.Cond.methodLinkNest "SureNoes$Plain" (33 : Nat) ({ cls := "SureNoes", name := "has", desc := "(JI)Z" } : Jvm.MethodName) "SureNoes") ∈ lw_tbl := sn_inN 509 (by decide +kernel)
theorem tw_510 : (Jvm.Cond.selects "SureNoes$Layered" ({ cls := "SureNoes$Book", name := "insert", desc := "(I)Z" } : Jvm.MethodName) ({ cls := "SureNoes$Plain", name := "insert", desc := "(I)Z" } : Jvm.MethodName)) ∈ sn_gw := sn_in 510 (by decide +kernel) (by decide +kernel)
theorem tw_511 : (Jvm.Cond.selects "SureNoes$Parted" ({ cls := "SureNoes$Book", name := "insert", desc := "(I)Z" } : Jvm.MethodName) ({ cls := "SureNoes$Plain", name := "insert", desc := "(I)Z" } : Jvm.MethodName)) ∈ sn_gw := sn_in 511 (by decide +kernel) (by decide +kernel)
theorem tw_512 : (Jvm.Cond.selects "SureNoes$Plain" ({ cls := "SureNoes$Book", name := "insert", desc := "(I)Z" } : Jvm.MethodName) ({ cls := "SureNoes$Plain", name := "insert", desc := "(I)Z" } : Jvm.MethodName)) ∈ sn_gw := sn_in 512 (by decide +kernel) (by decide +kernel)
theorem tw_513 : (Jvm.Cond.selects "SureNoes$Pushed" ({ cls := "SureNoes$Book", name := "insert", desc := "(I)Z" } : Jvm.MethodName) ({ cls := "SureNoes$Pushed", name := "insert", desc := "(I)Z" } : Jvm.MethodName)) ∈ sn_gw := sn_in 513 (by decide +kernel) (by decide +kernel)
theorem tw_514 : (Jvm.Cond.instanceMethod ({ cls := "SureNoes$Pushed", name := "insert", desc := "(I)Z" } : Jvm.MethodName)) ∈ sn_gw := sn_in 514 (by decide +kernel) (by decide +kernel)
theorem tw_515 : (Jvm.Cond.code ({ cls := "SureNoes$Pushed", name := "insert", desc := "(I)Z" } : Jvm.MethodName) prog_10_method_8_code (2 : Nat) (Option.some Jvm.ClassFile.FieldType.boolean)) ∈ sn_gw := sn_in 515 (by decide +kernel) (by decide +kernel)
theorem tw_516 : (Jvm.Cond.methodLink "SureNoes$Pushed" (57 : Nat) ({ cls := "java/lang/System", name := "arraycopy", desc := "(Ljava/lang/Object;ILjava/lang/Object;II)V" } : Jvm.MethodName)) ∈ sn_gw := sn_in 516 (by decide +kernel) (by decide +kernel)
theorem tw_517 : (Jvm.Cond.static ({ cls := "java/lang/System", name := "arraycopy", desc := "(Ljava/lang/Object;ILjava/lang/Object;II)V" } : Jvm.MethodName)) ∈ sn_gw := sn_in 517 (by decide +kernel) (by decide +kernel)
theorem tw_518 : (Jvm.Cond.native ({ cls := "java/lang/System", name := "arraycopy", desc := "(Ljava/lang/Object;ILjava/lang/Object;II)V" } : Jvm.MethodName)) ∈ sn_gw := sn_in 518 (by decide +kernel) (by decide +kernel)
theorem tw_519 : (Jvm.Cond.methodLink "SureNoes$Pushed" (63 : Nat) ({ cls := "SureNoes$Pushed", name := "pushInto", desc := "([II)Z" } : Jvm.MethodName)) ∈ sn_gw := sn_in 519 (by decide +kernel) (by decide +kernel)
theorem tw_521 : (Jvm.Cond.instanceMethod ({ cls := "SureNoes$Pushed", name := "pushInto", desc := "([II)Z" } : Jvm.MethodName)) ∈ sn_gw := sn_in 521 (by decide +kernel) (by decide +kernel)
theorem tw_522 : (Jvm.Cond.code ({ cls := "SureNoes$Pushed", name := "pushInto", desc := "([II)Z" } : Jvm.MethodName) prog_10_method_11_code (8 : Nat) (Option.some Jvm.ClassFile.FieldType.boolean)) ∈ sn_gw := sn_in 522 (by decide +kernel) (by decide +kernel)
theorem tw_523 : (Jvm.Cond.methodLink "SureNoesLaw" (68 : Nat) ({ cls := "SureNoes", name := "take", desc := "(II)I" } : Jvm.MethodName)) ∈ sn_gw := sn_in 523 (by decide +kernel) (by decide +kernel)
theorem tw_524 : (Jvm.Cond.instanceMethod ({ cls := "SureNoes", name := "take", desc := "(II)I" } : Jvm.MethodName)) ∈ sn_gw := sn_in 524 (by decide +kernel) (by decide +kernel)
theorem tw_525 : (Jvm.Cond.selects "SureNoes" ({ cls := "SureNoes", name := "take", desc := "(II)I" } : Jvm.MethodName) ({ cls := "SureNoes", name := "take", desc := "(II)I" } : Jvm.MethodName)) ∈ sn_gw := sn_in 525 (by decide +kernel) (by decide +kernel)
theorem tw_526 : (Jvm.Cond.code ({ cls := "SureNoes", name := "take", desc := "(II)I" } : Jvm.MethodName) prog_1_method_14_code (4 : Nat) (Option.some Jvm.ClassFile.FieldType.int)) ∈ sn_gw := sn_in 526 (by decide +kernel) (by decide +kernel)
theorem tw_527 : (Jvm.Cond.methodLink "SureNoes" (162 : Nat) ({ cls := "SureNoes$Book", name := "letsTake", desc := "()Z" } : Jvm.MethodName)) ∈ sn_gw := sn_in 527 (by decide +kernel) (by decide +kernel)
theorem tw_528 : (Jvm.Cond.instanceMethod ({ cls := "SureNoes$Book", name := "letsTake", desc := "()Z" } : Jvm.MethodName)) ∈ sn_gw := sn_in 528 (by decide +kernel) (by decide +kernel)
theorem tw_529 : (Jvm.Cond.sameMethod "SureNoes$Book" "SureNoes$Book" "letsTake" "()Z") ∈ sn_gw := sn_in 529 (by decide +kernel) (by decide +kernel)
theorem tw_530 : (Jvm.Cond.selects "SureNoes$Counted" ({ cls := "SureNoes$Book", name := "letsTake", desc := "()Z" } : Jvm.MethodName) ({ cls := "SureNoes$Counted", name := "letsTake", desc := "()Z" } : Jvm.MethodName)) ∈ sn_gw := sn_in 530 (by decide +kernel) (by decide +kernel)
theorem tw_531 : (Jvm.Cond.instanceMethod ({ cls := "SureNoes$Counted", name := "letsTake", desc := "()Z" } : Jvm.MethodName)) ∈ sn_gw := sn_in 531 (by decide +kernel) (by decide +kernel)
theorem tw_532 : (Jvm.Cond.code ({ cls := "SureNoes$Counted", name := "letsTake", desc := "()Z" } : Jvm.MethodName) prog_3_method_3_code (1 : Nat) (Option.some Jvm.ClassFile.FieldType.boolean)) ∈ sn_gw := sn_in 532 (by decide +kernel) (by decide +kernel)
theorem tw_533 : (Jvm.Cond.selects "SureNoes$Folded" ({ cls := "SureNoes$Book", name := "letsTake", desc := "()Z" } : Jvm.MethodName) ({ cls := "SureNoes$Book", name := "letsTake", desc := "()Z" } : Jvm.MethodName)) ∈ sn_gw := sn_in 533 (by decide +kernel) (by decide +kernel)
theorem tw_534 : (Jvm.Cond.selects "SureNoes$Layered" ({ cls := "SureNoes$Book", name := "letsTake", desc := "()Z" } : Jvm.MethodName) ({ cls := "SureNoes$Book", name := "letsTake", desc := "()Z" } : Jvm.MethodName)) ∈ sn_gw := sn_in 534 (by decide +kernel) (by decide +kernel)
theorem tw_535 : (Jvm.Cond.selects "SureNoes$Parted" ({ cls := "SureNoes$Book", name := "letsTake", desc := "()Z" } : Jvm.MethodName) ({ cls := "SureNoes$Book", name := "letsTake", desc := "()Z" } : Jvm.MethodName)) ∈ sn_gw := sn_in 535 (by decide +kernel) (by decide +kernel)
theorem tw_536 : (Jvm.Cond.selects "SureNoes$Plain" ({ cls := "SureNoes$Book", name := "letsTake", desc := "()Z" } : Jvm.MethodName) ({ cls := "SureNoes$Book", name := "letsTake", desc := "()Z" } : Jvm.MethodName)) ∈ sn_gw := sn_in 536 (by decide +kernel) (by decide +kernel)
theorem tw_537 : (Jvm.Cond.selects "SureNoes$Pushed" ({ cls := "SureNoes$Book", name := "letsTake", desc := "()Z" } : Jvm.MethodName) ({ cls := "SureNoes$Pushed", name := "letsTake", desc := "()Z" } : Jvm.MethodName)) ∈ sn_gw := sn_in 537 (by decide +kernel) (by decide +kernel)
theorem tw_538 : (Jvm.Cond.instanceMethod ({ cls := "SureNoes$Pushed", name := "letsTake", desc := "()Z" } : Jvm.MethodName)) ∈ sn_gw := sn_in 538 (by decide +kernel) (by decide +kernel)
theorem tw_539 : (Jvm.Cond.code ({ cls := "SureNoes$Pushed", name := "letsTake", desc := "()Z" } : Jvm.MethodName) prog_10_method_9_code (1 : Nat) (Option.some Jvm.ClassFile.FieldType.boolean)) ∈ sn_gw := sn_in 539 (by decide +kernel) (by decide +kernel)
theorem tw_540 : (Jvm.Cond.code ({ cls := "SureNoes$Book", name := "letsTake", desc := "()Z" } : Jvm.MethodName) prog_2_method_6_code (1 : Nat) (Option.some Jvm.ClassFile.FieldType.boolean)) ∈ sn_gw := sn_in 540 (by decide +kernel) (by decide +kernel)
theorem tw_541 : (Jvm.Cond.methodLink "SureNoes" (165 : Nat) ({ cls := "SureNoes$Book", name := "remove", desc := "(I)V" } : Jvm.MethodName)) ∈ sn_gw := sn_in 541 (by decide +kernel) (by decide +kernel)
theorem tw_542 : (Jvm.Cond.instanceMethod ({ cls := "SureNoes$Book", name := "remove", desc := "(I)V" } : Jvm.MethodName)) ∈ sn_gw := sn_in 542 (by decide +kernel) (by decide +kernel)
theorem tw_543 : (Jvm.Cond.sameMethod "SureNoes$Book" "SureNoes$Book" "remove" "(I)V") ∈ sn_gw := sn_in 543 (by decide +kernel) (by decide +kernel)
theorem tw_544 : (Jvm.Cond.selects "SureNoes$Counted" ({ cls := "SureNoes$Book", name := "remove", desc := "(I)V" } : Jvm.MethodName) ({ cls := "SureNoes$Counted", name := "remove", desc := "(I)V" } : Jvm.MethodName)) ∈ sn_gw := sn_in 544 (by decide +kernel) (by decide +kernel)
theorem tw_545 : (Jvm.Cond.instanceMethod ({ cls := "SureNoes$Counted", name := "remove", desc := "(I)V" } : Jvm.MethodName)) ∈ sn_gw := sn_in 545 (by decide +kernel) (by decide +kernel)
theorem tw_546 : (Jvm.Cond.code ({ cls := "SureNoes$Counted", name := "remove", desc := "(I)V" } : Jvm.MethodName) prog_3_method_4_code (5 : Nat) (Option.none : Option Jvm.ClassFile.FieldType)) ∈ sn_gw := sn_in 546 (by decide +kernel) (by decide +kernel)
theorem tw_547 : (Jvm.Cond.selects "SureNoes$Folded" ({ cls := "SureNoes$Book", name := "remove", desc := "(I)V" } : Jvm.MethodName) ({ cls := "SureNoes$Book", name := "remove", desc := "(I)V" } : Jvm.MethodName)) ∈ sn_gw := sn_in 547 (by decide +kernel) (by decide +kernel)
theorem tw_548 : (Jvm.Cond.selects "SureNoes$Layered" ({ cls := "SureNoes$Book", name := "remove", desc := "(I)V" } : Jvm.MethodName) ({ cls := "SureNoes$Book", name := "remove", desc := "(I)V" } : Jvm.MethodName)) ∈ sn_gw := sn_in 548 (by decide +kernel) (by decide +kernel)
theorem tw_549 : (Jvm.Cond.selects "SureNoes$Parted" ({ cls := "SureNoes$Book", name := "remove", desc := "(I)V" } : Jvm.MethodName) ({ cls := "SureNoes$Book", name := "remove", desc := "(I)V" } : Jvm.MethodName)) ∈ sn_gw := sn_in 549 (by decide +kernel) (by decide +kernel)
theorem tw_550 : (Jvm.Cond.selects "SureNoes$Plain" ({ cls := "SureNoes$Book", name := "remove", desc := "(I)V" } : Jvm.MethodName) ({ cls := "SureNoes$Book", name := "remove", desc := "(I)V" } : Jvm.MethodName)) ∈ sn_gw := sn_in 550 (by decide +kernel) (by decide +kernel)
theorem tw_551 : (Jvm.Cond.selects "SureNoes$Pushed" ({ cls := "SureNoes$Book", name := "remove", desc := "(I)V" } : Jvm.MethodName) ({ cls := "SureNoes$Pushed", name := "remove", desc := "(I)V" } : Jvm.MethodName)) ∈ sn_gw := sn_in 551 (by decide +kernel) (by decide +kernel)
theorem tw_552 : (Jvm.Cond.instanceMethod ({ cls := "SureNoes$Pushed", name := "remove", desc := "(I)V" } : Jvm.MethodName)) ∈ sn_gw := sn_in 552 (by decide +kernel) (by decide +kernel)
theorem tw_553 : (Jvm.Cond.code ({ cls := "SureNoes$Pushed", name := "remove", desc := "(I)V" } : Jvm.MethodName) prog_10_method_10_code (5 : Nat) (Option.none : Option Jvm.ClassFile.FieldType)) ∈ sn_gw := sn_in 553 (by decide +kernel) (by decide +kernel)
theorem tw_554 : (Jvm.Cond.code ({ cls := "SureNoes$Book", name := "remove", desc := "(I)V" } : Jvm.MethodName) prog_2_method_7_code (2 : Nat) (Option.none : Option Jvm.ClassFile.FieldType)) ∈ sn_gw := sn_in 554 (by decide +kernel) (by decide +kernel)
theorem tw_555 : (Jvm.Cond.methodLink "SureNoesLaw" (72 : Nat) ({ cls := "SureNoes", name := "build", desc := "(IJJ)I" } : Jvm.MethodName)) ∈ sn_gw := sn_in 555 (by decide +kernel) (by decide +kernel)
theorem tw_556 : (Jvm.Cond.instanceMethod ({ cls := "SureNoes", name := "build", desc := "(IJJ)I" } : Jvm.MethodName)) ∈ sn_gw := sn_in 556 (by decide +kernel) (by decide +kernel)
theorem tw_557 : (Jvm.Cond.selects "SureNoes" ({ cls := "SureNoes", name := "build", desc := "(IJJ)I" } : Jvm.MethodName) ({ cls := "SureNoes", name := "build", desc := "(IJJ)I" } : Jvm.MethodName)) ∈ sn_gw := sn_in 557 (by decide +kernel) (by decide +kernel)
theorem tw_558 : (Jvm.Cond.code ({ cls := "SureNoes", name := "build", desc := "(IJJ)I" } : Jvm.MethodName) prog_1_method_15_code (8 : Nat) (Option.some Jvm.ClassFile.FieldType.int)) ∈ sn_gw := sn_in 558 (by decide +kernel) (by decide +kernel)
theorem tw_559 : (Jvm.Cond.methodLink "SureNoes" (169 : Nat) ({ cls := "SureNoes$Book", name := "rebuild", desc := "(JJ)Z" } : Jvm.MethodName)) ∈ sn_gw := sn_in 559 (by decide +kernel) (by decide +kernel)
theorem tw_560 : (Jvm.Cond.instanceMethod ({ cls := "SureNoes$Book", name := "rebuild", desc := "(JJ)Z" } : Jvm.MethodName)) ∈ sn_gw := sn_in 560 (by decide +kernel) (by decide +kernel)
theorem tw_561 : (Jvm.Cond.sameMethod "SureNoes$Book" "SureNoes$Book" "rebuild" "(JJ)Z") ∈ sn_gw := sn_in 561 (by decide +kernel) (by decide +kernel)
theorem tw_562 : (Jvm.Cond.selects "SureNoes$Counted" ({ cls := "SureNoes$Book", name := "rebuild", desc := "(JJ)Z" } : Jvm.MethodName) ({ cls := "SureNoes$Book", name := "rebuild", desc := "(JJ)Z" } : Jvm.MethodName)) ∈ sn_gw := sn_in 562 (by decide +kernel) (by decide +kernel)
theorem tw_563 : (Jvm.Cond.selects "SureNoes$Folded" ({ cls := "SureNoes$Book", name := "rebuild", desc := "(JJ)Z" } : Jvm.MethodName) ({ cls := "SureNoes$Folded", name := "rebuild", desc := "(JJ)Z" } : Jvm.MethodName)) ∈ sn_gw := sn_in 563 (by decide +kernel) (by decide +kernel)
theorem tw_564 : (Jvm.Cond.instanceMethod ({ cls := "SureNoes$Folded", name := "rebuild", desc := "(JJ)Z" } : Jvm.MethodName)) ∈ sn_gw := sn_in 564 (by decide +kernel) (by decide +kernel)
theorem tw_565 : (Jvm.Cond.code ({ cls := "SureNoes$Folded", name := "rebuild", desc := "(JJ)Z" } : Jvm.MethodName) prog_5_method_6_code (7 : Nat) (Option.some Jvm.ClassFile.FieldType.boolean)) ∈ sn_gw := sn_in 565 (by decide +kernel) (by decide +kernel)
theorem tw_566 : (Jvm.Cond.methodLink "SureNoes$Folded" (54 : Nat) ({ cls := "SureNoes$Folded", name := "peel", desc := "(J)Z" } : Jvm.MethodName)) ∈ sn_gw := sn_in 566 (by decide +kernel) (by decide +kernel)
theorem tw_568 : (Jvm.Cond.instanceMethod ({ cls := "SureNoes$Folded", name := "peel", desc := "(J)Z" } : Jvm.MethodName)) ∈ sn_gw := sn_in 568 (by decide +kernel) (by decide +kernel)
theorem tw_569 : (Jvm.Cond.code ({ cls := "SureNoes$Folded", name := "peel", desc := "(J)Z" } : Jvm.MethodName) prog_5_method_7_code (10 : Nat) (Option.some Jvm.ClassFile.FieldType.boolean)) ∈ sn_gw := sn_in 569 (by decide +kernel) (by decide +kernel)
theorem tw_570 : (Jvm.Cond.methodLink "SureNoes$Folded" (63 : Nat) ({ cls := "SureNoes$Folded", name := "placesOfOneKey", desc := "(J)J" } : Jvm.MethodName)) ∈ sn_gw := sn_in 570 (by decide +kernel) (by decide +kernel)
theorem tw_572 : (Jvm.Cond.instanceMethod ({ cls := "SureNoes$Folded", name := "placesOfOneKey", desc := "(J)J" } : Jvm.MethodName)) ∈ sn_gw := sn_in 572 (by decide +kernel) (by decide +kernel)
theorem tw_573 : (Jvm.Cond.code ({ cls := "SureNoes$Folded", name := "placesOfOneKey", desc := "(J)J" } : Jvm.MethodName) prog_5_method_8_code (8 : Nat) (Option.some Jvm.ClassFile.FieldType.long)) ∈ sn_gw := sn_in 573 (by decide +kernel) (by decide +kernel)
theorem tw_574 : (Jvm.Cond.constantLong "SureNoes$Folded" (74 : Nat) (-1 : Int64)) ∈ sn_gw := sn_in 574 (by decide +kernel) (by decide +kernel)
theorem tw_575 : (Jvm.Cond.methodLink "SureNoes$Folded" (67 : Nat) ({ cls := "java/lang/Long", name := "numberOfTrailingZeros", desc := "(J)I" } : Jvm.MethodName)) ∈ sn_gw := sn_in 575 (by decide +kernel) (by decide +kernel)
theorem tw_576 : (Jvm.Cond.static ({ cls := "java/lang/Long", name := "numberOfTrailingZeros", desc := "(J)I" } : Jvm.MethodName)) ∈ sn_gw := sn_in 576 (by decide +kernel) (by decide +kernel)
theorem tw_577 : (Jvm.Cond.code ({ cls := "java/lang/Long", name := "numberOfTrailingZeros", desc := "(J)I" } : Jvm.MethodName) prog_14_method_49_code (3 : Nat) (Option.some Jvm.ClassFile.FieldType.int)) ∈ sn_gw := sn_in 577 (by decide +kernel) (by decide +kernel)
theorem tw_578 : (Jvm.Cond.methodLink "java/lang/Long" (311 : Nat) ({ cls := "java/lang/Integer", name := "numberOfTrailingZeros", desc := "(I)I" } : Jvm.MethodName)) ∈ sn_gw := sn_in 578 (by decide +kernel) (by decide +kernel)
theorem tw_579 : (Jvm.Cond.static ({ cls := "java/lang/Integer", name := "numberOfTrailingZeros", desc := "(I)I" } : Jvm.MethodName)) ∈ sn_gw := sn_in 579 (by decide +kernel) (by decide +kernel)
theorem tw_580 : (Jvm.Cond.code ({ cls := "java/lang/Integer", name := "numberOfTrailingZeros", desc := "(I)I" } : Jvm.MethodName) prog_13_method_48_code (2 : Nat) (Option.some Jvm.ClassFile.FieldType.int)) ∈ sn_gw := sn_in 580 (by decide +kernel) (by decide +kernel)
theorem tw_581 : (Jvm.Cond.constant "java/lang/Integer" (264 : Nat) (65536 : Int32)) ∈ sn_gw := sn_in 581 (by decide +kernel) (by decide +kernel)
theorem tw_582 : (Jvm.Cond.methodLink "SureNoes$Folded" (70 : Nat) ({ cls := "SureNoes$Folded", name := "keyAt", desc := "(JI)I" } : Jvm.MethodName)) ∈ sn_gw := sn_in 582 (by decide +kernel) (by decide +kernel)
theorem tw_584 : (Jvm.Cond.instanceMethod ({ cls := "SureNoes$Folded", name := "keyAt", desc := "(JI)I" } : Jvm.MethodName)) ∈ sn_gw := sn_in 584 (by decide +kernel) (by decide +kernel)
theorem tw_585 : (Jvm.Cond.code ({ cls := "SureNoes$Folded", name := "keyAt", desc := "(JI)I" } : Jvm.MethodName) prog_5_method_9_code (6 : Nat) (Option.some Jvm.ClassFile.FieldType.int)) ∈ sn_gw := sn_in 585 (by decide +kernel) (by decide +kernel)
theorem tw_586 : (Jvm.Cond.methodLink "SureNoes$Folded" (58 : Nat) ({ cls := "java/lang/Long", name := "bitCount", desc := "(J)I" } : Jvm.MethodName)) ∈ sn_gw := sn_in 586 (by decide +kernel) (by decide +kernel)
theorem tw_587 : (Jvm.Cond.selects "SureNoes$Layered" ({ cls := "SureNoes$Book", name := "rebuild", desc := "(JJ)Z" } : Jvm.MethodName) ({ cls := "SureNoes$Layered", name := "rebuild", desc := "(JJ)Z" } : Jvm.MethodName)) ∈ sn_gw := sn_in 587 (by decide +kernel) (by decide +kernel)
theorem tw_588 : (Jvm.Cond.instanceMethod ({ cls := "SureNoes$Layered", name := "rebuild", desc := "(JJ)Z" } : Jvm.MethodName)) ∈ sn_gw := sn_in 588 (by decide +kernel) (by decide +kernel)
theorem tw_589 : (Jvm.Cond.code ({ cls := "SureNoes$Layered", name := "rebuild", desc := "(JJ)Z" } : Jvm.MethodName) prog_7_method_7_code (12 : Nat) (Option.some Jvm.ClassFile.FieldType.boolean)) ∈ sn_gw := sn_in 589 (by decide +kernel) (by decide +kernel)
theorem tw_590 : (Jvm.Cond.methodLink "SureNoes$Layered" (45 : Nat) ({ cls := "SureNoes$Layered", name := "placesInRow", desc := "(IJ)J" } : Jvm.MethodName)) ∈ sn_gw := sn_in 590 (by decide +kernel) (by decide +kernel)
theorem tw_592 : (Jvm.Cond.instanceMethod ({ cls := "SureNoes$Layered", name := "placesInRow", desc := "(IJ)J" } : Jvm.MethodName)) ∈ sn_gw := sn_in 592 (by decide +kernel) (by decide +kernel)
theorem tw_593 : (Jvm.Cond.code ({ cls := "SureNoes$Layered", name := "placesInRow", desc := "(IJ)J" } : Jvm.MethodName) prog_7_method_8_code (7 : Nat) (Option.some Jvm.ClassFile.FieldType.long)) ∈ sn_gw := sn_in 593 (by decide +kernel) (by decide +kernel)
theorem tw_594 : (Jvm.Cond.methodLink "SureNoes$Layered" (49 : Nat) ({ cls := "SureNoes$Layered", name := "thoseInRow", desc := "(IJ)J" } : Jvm.MethodName)) ∈ sn_gw := sn_in 594 (by decide +kernel) (by decide +kernel)
theorem tw_596 : (Jvm.Cond.instanceMethod ({ cls := "SureNoes$Layered", name := "thoseInRow", desc := "(IJ)J" } : Jvm.MethodName)) ∈ sn_gw := sn_in 596 (by decide +kernel) (by decide +kernel)
theorem tw_597 : (Jvm.Cond.code ({ cls := "SureNoes$Layered", name := "thoseInRow", desc := "(IJ)J" } : Jvm.MethodName) prog_7_method_9_code (7 : Nat) (Option.some Jvm.ClassFile.FieldType.long)) ∈ sn_gw := sn_in 597 (by decide +kernel) (by decide +kernel)
theorem tw_598 : (Jvm.Cond.methodLink "SureNoes$Layered" (52 : Nat) ({ cls := "java/lang/System", name := "arraycopy", desc := "(Ljava/lang/Object;ILjava/lang/Object;II)V" } : Jvm.MethodName)) ∈ sn_gw := sn_in 598 (by decide +kernel) (by decide +kernel)
theorem tw_599 : (Jvm.Cond.selects "SureNoes$Parted" ({ cls := "SureNoes$Book", name := "rebuild", desc := "(JJ)Z" } : Jvm.MethodName) ({ cls := "SureNoes$Book", name := "rebuild", desc := "(JJ)Z" } : Jvm.MethodName)) ∈ sn_gw := sn_in 599 (by decide +kernel) (by decide +kernel)
theorem tw_600 : (Jvm.Cond.selects "SureNoes$Plain" ({ cls := "SureNoes$Book", name := "rebuild", desc := "(JJ)Z" } : Jvm.MethodName) ({ cls := "SureNoes$Book", name := "rebuild", desc := "(JJ)Z" } : Jvm.MethodName)) ∈ sn_gw := sn_in 600 (by decide +kernel) (by decide +kernel)
theorem tw_601 : (Jvm.Cond.selects "SureNoes$Pushed" ({ cls := "SureNoes$Book", name := "rebuild", desc := "(JJ)Z" } : Jvm.MethodName) ({ cls := "SureNoes$Book", name := "rebuild", desc := "(JJ)Z" } : Jvm.MethodName)) ∈ sn_gw := sn_in 601 (by decide +kernel) (by decide +kernel)
theorem tw_602 : (Jvm.Cond.code ({ cls := "SureNoes$Book", name := "rebuild", desc := "(JJ)Z" } : Jvm.MethodName) prog_2_method_8_code (5 : Nat) (Option.some Jvm.ClassFile.FieldType.boolean)) ∈ sn_gw := sn_in 602 (by decide +kernel) (by decide +kernel)
theorem tw_603 : (Jvm.Cond.methodLink "SureNoesLaw" (77 : Nat) ({ cls := "SureNoes", name := "real", desc := "(II)I" } : Jvm.MethodName)) ∈ sn_gw := sn_in 603 (by decide +kernel) (by decide +kernel)
theorem tw_604 : (Jvm.Cond.instanceMethod ({ cls := "SureNoes", name := "real", desc := "(II)I" } : Jvm.MethodName)) ∈ sn_gw := sn_in 604 (by decide +kernel) (by decide +kernel)
theorem tw_605 : (Jvm.Cond.selects "SureNoes" ({ cls := "SureNoes", name := "real", desc := "(II)I" } : Jvm.MethodName) ({ cls := "SureNoes", name := "real", desc := "(II)I" } : Jvm.MethodName)) ∈ sn_gw := sn_in 605 (by decide +kernel) (by decide +kernel)
theorem tw_606 : (Jvm.Cond.code ({ cls := "SureNoes", name := "real", desc := "(II)I" } : Jvm.MethodName) prog_1_method_16_code (4 : Nat) (Option.some Jvm.ClassFile.FieldType.int)) ∈ sn_gw := sn_in 606 (by decide +kernel) (by decide +kernel)
theorem tw_607 : (Jvm.Cond.methodLink "SureNoesLaw" (81 : Nat) ({ cls := "SureNoes", name := "keys", desc := "(II)J" } : Jvm.MethodName)) ∈ sn_gw := sn_in 607 (by decide +kernel) (by decide +kernel)
theorem tw_608 : (Jvm.Cond.instanceMethod ({ cls := "SureNoes", name := "keys", desc := "(II)J" } : Jvm.MethodName)) ∈ sn_gw := sn_in 608 (by decide +kernel) (by decide +kernel)
theorem tw_609 : (Jvm.Cond.selects "SureNoes" ({ cls := "SureNoes", name := "keys", desc := "(II)J" } : Jvm.MethodName) ({ cls := "SureNoes", name := "keys", desc := "(II)J" } : Jvm.MethodName)) ∈ sn_gw := sn_in 609 (by decide +kernel) (by decide +kernel)
theorem tw_610 : (Jvm.Cond.code ({ cls := "SureNoes", name := "keys", desc := "(II)J" } : Jvm.MethodName) prog_1_method_17_code (4 : Nat) (Option.some Jvm.ClassFile.FieldType.long)) ∈ sn_gw := sn_in 610 (by decide +kernel) (by decide +kernel)
theorem tw_611 : (Jvm.Cond.methodLink "SureNoes" (173 : Nat) ({ cls := "SureNoes$Book", name := "keysHeld", desc := "()J" } : Jvm.MethodName)) ∈ sn_gw := sn_in 611 (by decide +kernel) (by decide +kernel)
theorem tw_612 : (Jvm.Cond.instanceMethod ({ cls := "SureNoes$Book", name := "keysHeld", desc := "()J" } : Jvm.MethodName)) ∈ sn_gw := sn_in 612 (by decide +kernel) (by decide +kernel)
theorem tw_613 : (Jvm.Cond.sameMethod "SureNoes$Book" "SureNoes$Book" "keysHeld" "()J") ∈ sn_gw := sn_in 613 (by decide +kernel) (by decide +kernel)
theorem tw_614 : (Jvm.Cond.selects "SureNoes$Counted" ({ cls := "SureNoes$Book", name := "keysHeld", desc := "()J" } : Jvm.MethodName) ({ cls := "SureNoes$Book", name := "keysHeld", desc := "()J" } : Jvm.MethodName)) ∈ sn_gw := sn_in 614 (by decide +kernel) (by decide +kernel)
theorem tw_615 : (Jvm.Cond.selects "SureNoes$Folded" ({ cls := "SureNoes$Book", name := "keysHeld", desc := "()J" } : Jvm.MethodName) ({ cls := "SureNoes$Book", name := "keysHeld", desc := "()J" } : Jvm.MethodName)) ∈ sn_gw := sn_in 615 (by decide +kernel) (by decide +kernel)
theorem tw_616 : (Jvm.Cond.selects "SureNoes$Layered" ({ cls := "SureNoes$Book", name := "keysHeld", desc := "()J" } : Jvm.MethodName) ({ cls := "SureNoes$Book", name := "keysHeld", desc := "()J" } : Jvm.MethodName)) ∈ sn_gw := sn_in 616 (by decide +kernel) (by decide +kernel)
theorem tw_617 : (Jvm.Cond.selects "SureNoes$Parted" ({ cls := "SureNoes$Book", name := "keysHeld", desc := "()J" } : Jvm.MethodName) ({ cls := "SureNoes$Book", name := "keysHeld", desc := "()J" } : Jvm.MethodName)) ∈ sn_gw := sn_in 617 (by decide +kernel) (by decide +kernel)
theorem tw_618 : (Jvm.Cond.selects "SureNoes$Plain" ({ cls := "SureNoes$Book", name := "keysHeld", desc := "()J" } : Jvm.MethodName) ({ cls := "SureNoes$Book", name := "keysHeld", desc := "()J" } : Jvm.MethodName)) ∈ sn_gw := sn_in 618 (by decide +kernel) (by decide +kernel)
theorem tw_619 : (Jvm.Cond.selects "SureNoes$Pushed" ({ cls := "SureNoes$Book", name := "keysHeld", desc := "()J" } : Jvm.MethodName) ({ cls := "SureNoes$Book", name := "keysHeld", desc := "()J" } : Jvm.MethodName)) ∈ sn_gw := sn_in 619 (by decide +kernel) (by decide +kernel)
theorem tw_620 : (Jvm.Cond.code ({ cls := "SureNoes$Book", name := "keysHeld", desc := "()J" } : Jvm.MethodName) prog_2_method_12_code (4 : Nat) (Option.some Jvm.ClassFile.FieldType.long)) ∈ sn_gw := sn_in 620 (by decide +kernel) (by decide +kernel)
theorem tw_621 : (Jvm.Cond.methodLink "SureNoes$Book" (32 : Nat) ({ cls := "SureNoes$Book", name := "holds", desc := "(I)Z" } : Jvm.MethodName)) ∈ sn_gw := sn_in 621 (by decide +kernel) (by decide +kernel)
theorem tw_622 : (Jvm.Cond.constantLong "SureNoes" (176 : Nat) (-1 : Int64)) ∈ sn_gw := sn_in 622 (by decide +kernel) (by decide +kernel)
theorem tw_623 : (Jvm.Cond.constantLong "SureNoes" (178 : Nat) (-102 : Int64)) ∈ sn_gw := sn_in 623 (by decide +kernel) (by decide +kernel)
theorem tw_624 : (Jvm.Cond.methodLink "SureNoesLaw" (85 : Nat) ({ cls := "SureNoes", name := "join", desc := "(IIZ)I" } : Jvm.MethodName)) ∈ sn_gw := sn_in 624 (by decide +kernel) (by decide +kernel)
theorem tw_625 : (Jvm.Cond.instanceMethod ({ cls := "SureNoes", name := "join", desc := "(IIZ)I" } : Jvm.MethodName)) ∈ sn_gw := sn_in 625 (by decide +kernel) (by decide +kernel)
theorem tw_626 : (Jvm.Cond.selects "SureNoes" ({ cls := "SureNoes", name := "join", desc := "(IIZ)I" } : Jvm.MethodName) ({ cls := "SureNoes", name := "join", desc := "(IIZ)I" } : Jvm.MethodName)) ∈ sn_gw := sn_in 626 (by decide +kernel) (by decide +kernel)
theorem tw_627 : (Jvm.Cond.code ({ cls := "SureNoes", name := "join", desc := "(IIZ)I" } : Jvm.MethodName) prog_1_method_18_code (8 : Nat) (Option.some Jvm.ClassFile.FieldType.int)) ∈ sn_gw := sn_in 627 (by decide +kernel) (by decide +kernel)
theorem tw_628 : (Jvm.Cond.methodLink "SureNoes" (180 : Nat) ({ cls := "SureNoes", name := "isPlainOrParted", desc := "(LSureNoes$Book;)Z" } : Jvm.MethodName)) ∈ sn_gw := sn_in 628 (by decide +kernel) (by decide +kernel)
theorem tw_629 : (Jvm.Cond.static ({ cls := "SureNoes", name := "isPlainOrParted", desc := "(LSureNoes$Book;)Z" } : Jvm.MethodName)) ∈ sn_gw := sn_in 629 (by decide +kernel) (by decide +kernel)
theorem tw_630 : (Jvm.Cond.code ({ cls := "SureNoes", name := "isPlainOrParted", desc := "(LSureNoes$Book;)Z" } : Jvm.MethodName) prog_1_method_33_code (1 : Nat) (Option.some Jvm.ClassFile.FieldType.boolean)) ∈ sn_gw := sn_in 630 (by decide +kernel) (by decide +kernel)
theorem tw_631 : (Jvm.Cond.methodLink "SureNoes" (187 : Nat) ({ cls := "SureNoes", name := "either", desc := "(IIZ)I" } : Jvm.MethodName)) ∈ sn_gw := sn_in 631 (by decide +kernel) (by decide +kernel)
theorem tw_632 : (Jvm.Cond.static ({ cls := "SureNoes", name := "either", desc := "(IIZ)I" } : Jvm.MethodName)) ∈ sn_gw := sn_in 632 (by decide +kernel) (by decide +kernel)
theorem tw_633 : (Jvm.Cond.code ({ cls := "SureNoes", name := "either", desc := "(IIZ)I" } : Jvm.MethodName) prog_1_method_37_code (3 : Nat) (Option.some Jvm.ClassFile.FieldType.int)) ∈ sn_gw := sn_in 633 (by decide +kernel) (by decide +kernel)
theorem tw_634 : (Jvm.Cond.methodLink "SureNoes" (277 : Nat) ({ cls := "java/lang/Math", name := "min", desc := "(II)I" } : Jvm.MethodName)) ∈ sn_gw := sn_in 634 (by decide +kernel) (by decide +kernel)
theorem tw_635 : (Jvm.Cond.static ({ cls := "java/lang/Math", name := "min", desc := "(II)I" } : Jvm.MethodName)) ∈ sn_gw := sn_in 635 (by decide +kernel) (by decide +kernel)
theorem tw_636 : (Jvm.Cond.code ({ cls := "java/lang/Math", name := "min", desc := "(II)I" } : Jvm.MethodName) prog_15_method_69_code (2 : Nat) (Option.some Jvm.ClassFile.FieldType.int)) ∈ sn_gw := sn_in 636 (by decide +kernel) (by decide +kernel)
theorem tw_637 : (Jvm.Cond.methodLink "SureNoes" (191 : Nat) ({ cls := "java/lang/Math", name := "max", desc := "(II)I" } : Jvm.MethodName)) ∈ sn_gw := sn_in 637 (by decide +kernel) (by decide +kernel)
theorem tw_638 : (Jvm.Cond.methodLink "SureNoesLaw" (90 : Nat) ({ cls := "SureNoes", name := "halve", desc := "(I)I" } : Jvm.MethodName)) ∈ sn_gw := sn_in 638 (by decide +kernel) (by decide +kernel)
theorem tw_639 : (Jvm.Cond.instanceMethod ({ cls := "SureNoes", name := "halve", desc := "(I)I" } : Jvm.MethodName)) ∈ sn_gw := sn_in 639 (by decide +kernel) (by decide +kernel)
theorem tw_640 : (Jvm.Cond.selects "SureNoes" ({ cls := "SureNoes", name := "halve", desc := "(I)I" } : Jvm.MethodName) ({ cls := "SureNoes", name := "halve", desc := "(I)I" } : Jvm.MethodName)) ∈ sn_gw := sn_in 640 (by decide +kernel) (by decide +kernel)
theorem tw_641 : (Jvm.Cond.code ({ cls := "SureNoes", name := "halve", desc := "(I)I" } : Jvm.MethodName) prog_1_method_19_code (6 : Nat) (Option.some Jvm.ClassFile.FieldType.int)) ∈ sn_gw := sn_in 641 (by decide +kernel) (by decide +kernel)
theorem tw_642 : (Jvm.Cond.methodLink "SureNoes" (196 : Nat) ({ cls := "java/lang/System", name := "arraycopy", desc := "(Ljava/lang/Object;ILjava/lang/Object;II)V" } : Jvm.MethodName)) ∈ sn_gw := sn_in 642 (by decide +kernel) (by decide +kernel)
theorem tw_643 : (Jvm.Cond.methodLink "SureNoesLaw" (95 : Nat) ({ cls := "SureNoes", name := "spoil", desc := "(II)J" } : Jvm.MethodName)) ∈ sn_gw := sn_in 643 (by decide +kernel) (by decide +kernel)
theorem tw_644 : (Jvm.Cond.instanceMethod ({ cls := "SureNoes", name := "spoil", desc := "(II)J" } : Jvm.MethodName)) ∈ sn_gw := sn_in 644 (by decide +kernel) (by decide +kernel)
theorem tw_645 : (Jvm.Cond.selects "SureNoes" ({ cls := "SureNoes", name := "spoil", desc := "(II)J" } : Jvm.MethodName) ({ cls := "SureNoes", name := "spoil", desc := "(II)J" } : Jvm.MethodName)) ∈ sn_gw := sn_in 645 (by decide +kernel) (by decide +kernel)
theorem tw_646 : (Jvm.Cond.code ({ cls := "SureNoes", name := "spoil", desc := "(II)J" } : Jvm.MethodName) prog_1_method_20_code (9 : Nat) (Option.some Jvm.ClassFile.FieldType.long)) ∈ sn_gw := sn_in 646 (by decide +kernel) (by decide +kernel)
theorem tw_647 : (Jvm.Cond.constantLong "SureNoes" (202 : Nat) (-103 : Int64)) ∈ sn_gw := sn_in 647 (by decide +kernel) (by decide +kernel)
theorem tw_648 : (Jvm.Cond.methodLink "SureNoes" (204 : Nat) ({ cls := "SureNoes", name := "noteSpots", desc := "(LSureNoes$Book;)V" } : Jvm.MethodName)) ∈ sn_gw := sn_in 648 (by decide +kernel) (by decide +kernel)
theorem tw_650 : (Jvm.Cond.instanceMethod ({ cls := "SureNoes", name := "noteSpots", desc := "(LSureNoes$Book;)V" } : Jvm.MethodName)) ∈ sn_gw := sn_in 650 (by decide +kernel) (by decide +kernel)
theorem tw_651 : (Jvm.Cond.code ({ cls := "SureNoes", name := "noteSpots", desc := "(LSureNoes$Book;)V" } : Jvm.MethodName) prog_1_method_45_code (3 : Nat) (Option.none : Option Jvm.ClassFile.FieldType)) ∈ sn_gw := sn_in 651 (by decide +kernel) (by decide +kernel)
theorem tw_652 : (Jvm.Cond.methodLink "SureNoes" (208 : Nat) ({ cls := "SureNoes", name := "leastFilling", desc := "([JJII)J" } : Jvm.MethodName)) ∈ sn_gw := sn_in 652 (by decide +kernel) (by decide +kernel)
theorem tw_653 : (Jvm.Cond.static ({ cls := "SureNoes", name := "leastFilling", desc := "([JJII)J" } : Jvm.MethodName)) ∈ sn_gw := sn_in 653 (by decide +kernel) (by decide +kernel)
theorem tw_654 : (Jvm.Cond.code ({ cls := "SureNoes", name := "leastFilling", desc := "([JJII)J" } : Jvm.MethodName) prog_1_method_46_code (8 : Nat) (Option.some Jvm.ClassFile.FieldType.long)) ∈ sn_gw := sn_in 654 (by decide +kernel) (by decide +kernel)
theorem tw_655 : (Jvm.Cond.methodLink "SureNoesLaw" (99 : Nat) ({ cls := "SureNoes", name := "made", desc := "(II)J" } : Jvm.MethodName)) ∈ sn_gw := sn_in 655 (by decide +kernel) (by decide +kernel)
theorem tw_656 : (Jvm.Cond.instanceMethod ({ cls := "SureNoes", name := "made", desc := "(II)J" } : Jvm.MethodName)) ∈ sn_gw := sn_in 656 (by decide +kernel) (by decide +kernel)
theorem tw_657 : (Jvm.Cond.selects "SureNoes" ({ cls := "SureNoes", name := "made", desc := "(II)J" } : Jvm.MethodName) ({ cls := "SureNoes", name := "made", desc := "(II)J" } : Jvm.MethodName)) ∈ sn_gw := sn_in 657 (by decide +kernel) (by decide +kernel)
theorem tw_658 : (Jvm.Cond.code ({ cls := "SureNoes", name := "made", desc := "(II)J" } : Jvm.MethodName) prog_1_method_21_code (8 : Nat) (Option.some Jvm.ClassFile.FieldType.long)) ∈ sn_gw := sn_in 658 (by decide +kernel) (by decide +kernel)
theorem tw_659 : (Jvm.Cond.methodLink "SureNoes" (212 : Nat) ({ cls := "SureNoes", name := "sureMakers", desc := "(J)J" } : Jvm.MethodName)) ∈ sn_gw := sn_in 659 (by decide +kernel) (by decide +kernel)
theorem tw_661 : (Jvm.Cond.instanceMethod ({ cls := "SureNoes", name := "sureMakers", desc := "(J)J" } : Jvm.MethodName)) ∈ sn_gw := sn_in 661 (by decide +kernel) (by decide +kernel)
theorem tw_662 : (Jvm.Cond.code ({ cls := "SureNoes", name := "sureMakers", desc := "(J)J" } : Jvm.MethodName) prog_1_method_48_code (12 : Nat) (Option.some Jvm.ClassFile.FieldType.long)) ∈ sn_gw := sn_in 662 (by decide +kernel) (by decide +kernel)
theorem tw_663 : (Jvm.Cond.methodLink "SureNoes" (216 : Nat) ({ cls := "SureNoes", name := "makers", desc := "(J)J" } : Jvm.MethodName)) ∈ sn_gw := sn_in 663 (by decide +kernel) (by decide +kernel)
theorem tw_665 : (Jvm.Cond.instanceMethod ({ cls := "SureNoes", name := "makers", desc := "(J)J" } : Jvm.MethodName)) ∈ sn_gw := sn_in 665 (by decide +kernel) (by decide +kernel)
theorem tw_666 : (Jvm.Cond.code ({ cls := "SureNoes", name := "makers", desc := "(J)J" } : Jvm.MethodName) prog_1_method_47_code (8 : Nat) (Option.some Jvm.ClassFile.FieldType.long)) ∈ sn_gw := sn_in 666 (by decide +kernel) (by decide +kernel)
theorem tw_667 : (Jvm.Cond.constantLong "SureNoes" (219 : Nat) (-2 : Int64)) ∈ sn_gw := sn_in 667 (by decide +kernel) (by decide +kernel)
theorem tw_668 : (Jvm.Cond.classLink "SureNoes" (221 : Nat) "SureNoes$Cover") ∈ sn_gw := sn_in 668 (by decide +kernel) (by decide +kernel)
theorem tw_669 : (Jvm.Cond.instantiable "SureNoes$Cover" (1 : Nat)) ∈ sn_gw := sn_in 669 (by decide +kernel) (by decide +kernel)
theorem tn_670 : (Jvm.Cond.methodLinkNest "SureNoes" (223 : Nat) ({ cls := "SureNoes$Cover", name := "<init>", desc := "()V" } : Jvm.MethodName) "SureNoes") ∈ lw_tbl := sn_inN 670 (by decide +kernel)
theorem tw_671 : (Jvm.Cond.instanceMethod ({ cls := "SureNoes$Cover", name := "<init>", desc := "()V" } : Jvm.MethodName)) ∈ sn_gw := sn_in 671 (by decide +kernel) (by decide +kernel)
theorem tw_672 : (Jvm.Cond.code ({ cls := "SureNoes$Cover", name := "<init>", desc := "()V" } : Jvm.MethodName) prog_4_method_1_code (1 : Nat) (Option.none : Option Jvm.ClassFile.FieldType)) ∈ sn_gw := sn_in 672 (by decide +kernel) (by decide +kernel)
theorem tw_673 : (Jvm.Cond.methodLink "SureNoes$Cover" (5 : Nat) ({ cls := "java/lang/Object", name := "<init>", desc := "()V" } : Jvm.MethodName)) ∈ sn_gw := sn_in 673 (by decide +kernel) (by decide +kernel)
theorem tw_674 : (Jvm.Cond.fieldLink "SureNoes$Cover" (11 : Nat) "SureNoes$Cover" "bestFor" "[J") ∈ sn_gw := sn_in 674 (by decide +kernel) (by decide +kernel)
theorem tw_675 : (Jvm.Cond.laysFinal "SureNoes$Cover" "SureNoes$Cover" "bestFor" "[J") ∈ sn_gw := sn_in 675 (by decide +kernel) (by decide +kernel)
theorem tw_678 : (Jvm.Cond.methodLink "SureNoes" (224 : Nat) ({ cls := "SureNoes$Cover", name := "leastSet", desc := "([JJ)J" } : Jvm.MethodName)) ∈ sn_gw := sn_in 678 (by decide +kernel) (by decide +kernel)
theorem tw_679 : (Jvm.Cond.instanceMethod ({ cls := "SureNoes$Cover", name := "leastSet", desc := "([JJ)J" } : Jvm.MethodName)) ∈ sn_gw := sn_in 679 (by decide +kernel) (by decide +kernel)
theorem tw_680 : (Jvm.Cond.selects "SureNoes$Cover" ({ cls := "SureNoes$Cover", name := "leastSet", desc := "([JJ)J" } : Jvm.MethodName) ({ cls := "SureNoes$Cover", name := "leastSet", desc := "([JJ)J" } : Jvm.MethodName)) ∈ sn_gw := sn_in 680 (by decide +kernel) (by decide +kernel)
theorem tw_681 : (Jvm.Cond.code ({ cls := "SureNoes$Cover", name := "leastSet", desc := "([JJ)J" } : Jvm.MethodName) prog_4_method_2_code (7 : Nat) (Option.some Jvm.ClassFile.FieldType.long)) ∈ sn_gw := sn_in 681 (by decide +kernel) (by decide +kernel)
theorem tw_682 : (Jvm.Cond.methodLink "SureNoes$Cover" (15 : Nat) ({ cls := "java/lang/Long", name := "bitCount", desc := "(J)I" } : Jvm.MethodName)) ∈ sn_gw := sn_in 682 (by decide +kernel) (by decide +kernel)
theorem tw_683 : (Jvm.Cond.constantLong "SureNoes$Cover" (21 : Nat) (141733920768 : Int64)) ∈ sn_gw := sn_in 683 (by decide +kernel) (by decide +kernel)
theorem tw_684 : (Jvm.Cond.constantLong "SureNoes$Cover" (23 : Nat) (-1 : Int64)) ∈ sn_gw := sn_in 684 (by decide +kernel) (by decide +kernel)
theorem tw_685 : (Jvm.Cond.methodLink "SureNoes$Cover" (25 : Nat) ({ cls := "SureNoes$Cover", name := "squeeze", desc := "(JJ)I" } : Jvm.MethodName)) ∈ sn_gw := sn_in 685 (by decide +kernel) (by decide +kernel)
theorem tw_686 : (Jvm.Cond.static ({ cls := "SureNoes$Cover", name := "squeeze", desc := "(JJ)I" } : Jvm.MethodName)) ∈ sn_gw := sn_in 686 (by decide +kernel) (by decide +kernel)
theorem tw_687 : (Jvm.Cond.code ({ cls := "SureNoes$Cover", name := "squeeze", desc := "(JJ)I" } : Jvm.MethodName) prog_4_method_4_code (7 : Nat) (Option.some Jvm.ClassFile.FieldType.int)) ∈ sn_gw := sn_in 687 (by decide +kernel) (by decide +kernel)
theorem tn_688 : (Jvm.Cond.methodLinkNest "SureNoes$Cover" (41 : Nat) ({ cls := "SureNoes", name := "has", desc := "(JI)Z" } : Jvm.MethodName) "SureNoes") ∈ lw_tbl := sn_inN 688 (by decide +kernel)
theorem tw_689 : (Jvm.Cond.methodLink "SureNoes$Cover" (29 : Nat) ({ cls := "SureNoes$Cover", name := "letKeyHelp", desc := "(III)V" } : Jvm.MethodName)) ∈ sn_gw := sn_in 689 (by decide +kernel) (by decide +kernel)
theorem tw_691 : (Jvm.Cond.instanceMethod ({ cls := "SureNoes$Cover", name := "letKeyHelp", desc := "(III)V" } : Jvm.MethodName)) ∈ sn_gw := sn_in 691 (by decide +kernel) (by decide +kernel)
theorem tw_692 : (Jvm.Cond.code ({ cls := "SureNoes$Cover", name := "letKeyHelp", desc := "(III)V" } : Jvm.MethodName) prog_4_method_3_code (7 : Nat) (Option.none : Option Jvm.ClassFile.FieldType)) ∈ sn_gw := sn_in 692 (by decide +kernel) (by decide +kernel)
theorem tw_693 : (Jvm.Cond.constantLong "SureNoes$Cover" (33 : Nat) (4294967296 : Int64)) ∈ sn_gw := sn_in 693 (by decide +kernel) (by decide +kernel)
theorem tw_694 : (Jvm.Cond.methodLink "SureNoes$Cover" (35 : Nat) ({ cls := "java/lang/Math", name := "min", desc := "(JJ)J" } : Jvm.MethodName)) ∈ sn_gw := sn_in 694 (by decide +kernel) (by decide +kernel)
theorem tw_695 : (Jvm.Cond.static ({ cls := "java/lang/Math", name := "min", desc := "(JJ)J" } : Jvm.MethodName)) ∈ sn_gw := sn_in 695 (by decide +kernel) (by decide +kernel)
theorem tw_696 : (Jvm.Cond.code ({ cls := "java/lang/Math", name := "min", desc := "(JJ)J" } : Jvm.MethodName) prog_15_method_70_code (4 : Nat) (Option.some Jvm.ClassFile.FieldType.long)) ∈ sn_gw := sn_in 696 (by decide +kernel) (by decide +kernel)
theorem tw_697 : (Jvm.Cond.constantLong "SureNoes" (228 : Nat) (141733920768 : Int64)) ∈ sn_gw := sn_in 697 (by decide +kernel) (by decide +kernel)
theorem tw_698 : (Jvm.Cond.constantLong "SureNoes" (230 : Nat) (4294967296 : Int64)) ∈ sn_gw := sn_in 698 (by decide +kernel) (by decide +kernel)
theorem tw_699 : (Jvm.Cond.methodLink "SureNoesLaw" (103 : Nat) ({ cls := "SureNoes", name := "order", desc := "(IJI)I" } : Jvm.MethodName)) ∈ sn_gw := sn_in 699 (by decide +kernel) (by decide +kernel)
theorem tw_700 : (Jvm.Cond.instanceMethod ({ cls := "SureNoes", name := "order", desc := "(IJI)I" } : Jvm.MethodName)) ∈ sn_gw := sn_in 700 (by decide +kernel) (by decide +kernel)
theorem tw_701 : (Jvm.Cond.selects "SureNoes" ({ cls := "SureNoes", name := "order", desc := "(IJI)I" } : Jvm.MethodName) ({ cls := "SureNoes", name := "order", desc := "(IJI)I" } : Jvm.MethodName)) ∈ sn_gw := sn_in 701 (by decide +kernel) (by decide +kernel)
theorem tw_702 : (Jvm.Cond.code ({ cls := "SureNoes", name := "order", desc := "(IJI)I" } : Jvm.MethodName) prog_1_method_22_code (7 : Nat) (Option.some Jvm.ClassFile.FieldType.int)) ∈ sn_gw := sn_in 702 (by decide +kernel) (by decide +kernel)
theorem tw_703 : (Jvm.Cond.methodLink "SureNoes" (236 : Nat) ({ cls := "SureNoes$Pushed", name := "orderedKey", desc := "(JI)I" } : Jvm.MethodName)) ∈ sn_gw := sn_in 703 (by decide +kernel) (by decide +kernel)
theorem tw_704 : (Jvm.Cond.instanceMethod ({ cls := "SureNoes$Pushed", name := "orderedKey", desc := "(JI)I" } : Jvm.MethodName)) ∈ sn_gw := sn_in 704 (by decide +kernel) (by decide +kernel)
theorem tw_705 : (Jvm.Cond.selects "SureNoes$Pushed" ({ cls := "SureNoes$Pushed", name := "orderedKey", desc := "(JI)I" } : Jvm.MethodName) ({ cls := "SureNoes$Pushed", name := "orderedKey", desc := "(JI)I" } : Jvm.MethodName)) ∈ sn_gw := sn_in 705 (by decide +kernel) (by decide +kernel)
theorem tw_706 : (Jvm.Cond.code ({ cls := "SureNoes$Pushed", name := "orderedKey", desc := "(JI)I" } : Jvm.MethodName) prog_10_method_12_code (6 : Nat) (Option.some Jvm.ClassFile.FieldType.int)) ∈ sn_gw := sn_in 706 (by decide +kernel) (by decide +kernel)
theorem tn_707 : (Jvm.Cond.methodLinkNest "SureNoes$Pushed" (67 : Nat) ({ cls := "SureNoes", name := "has", desc := "(JI)Z" } : Jvm.MethodName) "SureNoes") ∈ lw_tbl := sn_inN 707 (by decide +kernel)
theorem tw_708 : (Jvm.Cond.methodLink "SureNoes$Pushed" (71 : Nat) ({ cls := "SureNoes$Pushed", name := "allFindPlaces", desc := "(I)Z" } : Jvm.MethodName)) ∈ sn_gw := sn_in 708 (by decide +kernel) (by decide +kernel)
theorem tw_710 : (Jvm.Cond.instanceMethod ({ cls := "SureNoes$Pushed", name := "allFindPlaces", desc := "(I)Z" } : Jvm.MethodName)) ∈ sn_gw := sn_in 710 (by decide +kernel) (by decide +kernel)
theorem tw_711 : (Jvm.Cond.code ({ cls := "SureNoes$Pushed", name := "allFindPlaces", desc := "(I)Z" } : Jvm.MethodName) prog_10_method_13_code (3 : Nat) (Option.some Jvm.ClassFile.FieldType.boolean)) ∈ sn_gw := sn_in 711 (by decide +kernel) (by decide +kernel)
theorem tw_712 : (Jvm.Cond.methodLink "SureNoes$Pushed" (75 : Nat) ({ cls := "SureNoes$Pushed", name := "nextLine", desc := "(I)Z" } : Jvm.MethodName)) ∈ sn_gw := sn_in 712 (by decide +kernel) (by decide +kernel)
theorem tw_714 : (Jvm.Cond.instanceMethod ({ cls := "SureNoes$Pushed", name := "nextLine", desc := "(I)Z" } : Jvm.MethodName)) ∈ sn_gw := sn_in 714 (by decide +kernel) (by decide +kernel)
theorem tw_715 : (Jvm.Cond.code ({ cls := "SureNoes$Pushed", name := "nextLine", desc := "(I)Z" } : Jvm.MethodName) prog_10_method_14_code (6 : Nat) (Option.some Jvm.ClassFile.FieldType.boolean)) ∈ sn_gw := sn_in 715 (by decide +kernel) (by decide +kernel)
theorem tw_716 : (Jvm.Cond.methodLink "SureNoes$Pushed" (78 : Nat) ({ cls := "SureNoes$Pushed", name := "swapInLine", desc := "(II)V" } : Jvm.MethodName)) ∈ sn_gw := sn_in 716 (by decide +kernel) (by decide +kernel)
theorem tw_718 : (Jvm.Cond.instanceMethod ({ cls := "SureNoes$Pushed", name := "swapInLine", desc := "(II)V" } : Jvm.MethodName)) ∈ sn_gw := sn_in 718 (by decide +kernel) (by decide +kernel)
theorem tw_719 : (Jvm.Cond.code ({ cls := "SureNoes$Pushed", name := "swapInLine", desc := "(II)V" } : Jvm.MethodName) prog_10_method_15_code (4 : Nat) (Option.none : Option Jvm.ClassFile.FieldType)) ∈ sn_gw := sn_in 719 (by decide +kernel) (by decide +kernel)
theorem tw_720 : (Jvm.Cond.methodLink "SureNoesLaw" (108 : Nat) ({ cls := "SureNoes", name := "most", desc := "(IJ)I" } : Jvm.MethodName)) ∈ sn_gw := sn_in 720 (by decide +kernel) (by decide +kernel)
theorem tw_721 : (Jvm.Cond.instanceMethod ({ cls := "SureNoes", name := "most", desc := "(IJ)I" } : Jvm.MethodName)) ∈ sn_gw := sn_in 721 (by decide +kernel) (by decide +kernel)
theorem tw_722 : (Jvm.Cond.selects "SureNoes" ({ cls := "SureNoes", name := "most", desc := "(IJ)I" } : Jvm.MethodName) ({ cls := "SureNoes", name := "most", desc := "(IJ)I" } : Jvm.MethodName)) ∈ sn_gw := sn_in 722 (by decide +kernel) (by decide +kernel)
theorem tw_723 : (Jvm.Cond.code ({ cls := "SureNoes", name := "most", desc := "(IJ)I" } : Jvm.MethodName) prog_1_method_23_code (6 : Nat) (Option.some Jvm.ClassFile.FieldType.int)) ∈ sn_gw := sn_in 723 (by decide +kernel) (by decide +kernel)
theorem tw_724 : (Jvm.Cond.methodLink "SureNoes" (240 : Nat) ({ cls := "SureNoes$Pushed", name := "mostAtOnce", desc := "(J)I" } : Jvm.MethodName)) ∈ sn_gw := sn_in 724 (by decide +kernel) (by decide +kernel)
theorem tw_725 : (Jvm.Cond.instanceMethod ({ cls := "SureNoes$Pushed", name := "mostAtOnce", desc := "(J)I" } : Jvm.MethodName)) ∈ sn_gw := sn_in 725 (by decide +kernel) (by decide +kernel)
theorem tw_726 : (Jvm.Cond.selects "SureNoes$Pushed" ({ cls := "SureNoes$Pushed", name := "mostAtOnce", desc := "(J)I" } : Jvm.MethodName) ({ cls := "SureNoes$Pushed", name := "mostAtOnce", desc := "(J)I" } : Jvm.MethodName)) ∈ sn_gw := sn_in 726 (by decide +kernel) (by decide +kernel)
theorem tw_727 : (Jvm.Cond.code ({ cls := "SureNoes$Pushed", name := "mostAtOnce", desc := "(J)I" } : Jvm.MethodName) prog_10_method_16_code (8 : Nat) (Option.some Jvm.ClassFile.FieldType.int)) ∈ sn_gw := sn_in 727 (by decide +kernel) (by decide +kernel)
theorem tw_728 : (Jvm.Cond.methodLink "SureNoes$Pushed" (82 : Nat) ({ cls := "SureNoes$Pushed", name := "tieGroups", desc := "(J)V" } : Jvm.MethodName)) ∈ sn_gw := sn_in 728 (by decide +kernel) (by decide +kernel)
theorem tw_730 : (Jvm.Cond.instanceMethod ({ cls := "SureNoes$Pushed", name := "tieGroups", desc := "(J)V" } : Jvm.MethodName)) ∈ sn_gw := sn_in 730 (by decide +kernel) (by decide +kernel)
theorem tw_731 : (Jvm.Cond.code ({ cls := "SureNoes$Pushed", name := "tieGroups", desc := "(J)V" } : Jvm.MethodName) prog_10_method_17_code (5 : Nat) (Option.none : Option Jvm.ClassFile.FieldType)) ∈ sn_gw := sn_in 731 (by decide +kernel) (by decide +kernel)
theorem tw_732 : (Jvm.Cond.methodLink "SureNoes$Pushed" (91 : Nat) ({ cls := "SureNoes$Pushed", name := "renameGroup", desc := "(II)V" } : Jvm.MethodName)) ∈ sn_gw := sn_in 732 (by decide +kernel) (by decide +kernel)
theorem tw_734 : (Jvm.Cond.instanceMethod ({ cls := "SureNoes$Pushed", name := "renameGroup", desc := "(II)V" } : Jvm.MethodName)) ∈ sn_gw := sn_in 734 (by decide +kernel) (by decide +kernel)
theorem tw_735 : (Jvm.Cond.code ({ cls := "SureNoes$Pushed", name := "renameGroup", desc := "(II)V" } : Jvm.MethodName) prog_10_method_18_code (4 : Nat) (Option.none : Option Jvm.ClassFile.FieldType)) ∈ sn_gw := sn_in 735 (by decide +kernel) (by decide +kernel)
theorem tw_736 : (Jvm.Cond.methodLink "SureNoes$Pushed" (86 : Nat) ({ cls := "java/lang/Math", name := "min", desc := "(II)I" } : Jvm.MethodName)) ∈ sn_gw := sn_in 736 (by decide +kernel) (by decide +kernel)
theorem tw_737 : (Jvm.Cond.methodLink "SureNoesLaw" (113 : Nat) ({ cls := "SureNoes", name := "count", desc := "(I)I" } : Jvm.MethodName)) ∈ sn_gw := sn_in 737 (by decide +kernel) (by decide +kernel)
theorem tw_738 : (Jvm.Cond.instanceMethod ({ cls := "SureNoes", name := "count", desc := "(I)I" } : Jvm.MethodName)) ∈ sn_gw := sn_in 738 (by decide +kernel) (by decide +kernel)
theorem tw_739 : (Jvm.Cond.selects "SureNoes" ({ cls := "SureNoes", name := "count", desc := "(I)I" } : Jvm.MethodName) ({ cls := "SureNoes", name := "count", desc := "(I)I" } : Jvm.MethodName)) ∈ sn_gw := sn_in 739 (by decide +kernel) (by decide +kernel)
theorem tw_740 : (Jvm.Cond.code ({ cls := "SureNoes", name := "count", desc := "(I)I" } : Jvm.MethodName) prog_1_method_24_code (2 : Nat) (Option.some Jvm.ClassFile.FieldType.int)) ∈ sn_gw := sn_in 740 (by decide +kernel) (by decide +kernel)
theorem tw_741 : (Jvm.Cond.methodLink "SureNoes" (243 : Nat) ({ cls := "SureNoes", name := "keysReallySomewhere", desc := "()J" } : Jvm.MethodName)) ∈ sn_gw := sn_in 741 (by decide +kernel) (by decide +kernel)
theorem tw_743 : (Jvm.Cond.instanceMethod ({ cls := "SureNoes", name := "keysReallySomewhere", desc := "()J" } : Jvm.MethodName)) ∈ sn_gw := sn_in 743 (by decide +kernel) (by decide +kernel)
theorem tw_744 : (Jvm.Cond.code ({ cls := "SureNoes", name := "keysReallySomewhere", desc := "()J" } : Jvm.MethodName) prog_1_method_49_code (4 : Nat) (Option.some Jvm.ClassFile.FieldType.long)) ∈ sn_gw := sn_in 744 (by decide +kernel) (by decide +kernel)
theorem tw_745 : (Jvm.Cond.methodLink "SureNoes" (246 : Nat) ({ cls := "SureNoes", name := "keysHeldEverywhere", desc := "()J" } : Jvm.MethodName)) ∈ sn_gw := sn_in 745 (by decide +kernel) (by decide +kernel)
theorem tw_747 : (Jvm.Cond.instanceMethod ({ cls := "SureNoes", name := "keysHeldEverywhere", desc := "()J" } : Jvm.MethodName)) ∈ sn_gw := sn_in 747 (by decide +kernel) (by decide +kernel)
theorem tw_748 : (Jvm.Cond.code ({ cls := "SureNoes", name := "keysHeldEverywhere", desc := "()J" } : Jvm.MethodName) prog_1_method_50_code (4 : Nat) (Option.some Jvm.ClassFile.FieldType.long)) ∈ sn_gw := sn_in 748 (by decide +kernel) (by decide +kernel)
theorem tw_749 : (Jvm.Cond.methodLink "SureNoesLaw" (117 : Nat) ({ cls := "SureNoes", name := "digest", desc := "()J" } : Jvm.MethodName)) ∈ sn_gw := sn_in 749 (by decide +kernel) (by decide +kernel)
theorem tw_750 : (Jvm.Cond.instanceMethod ({ cls := "SureNoes", name := "digest", desc := "()J" } : Jvm.MethodName)) ∈ sn_gw := sn_in 750 (by decide +kernel) (by decide +kernel)
theorem tw_751 : (Jvm.Cond.selects "SureNoes" ({ cls := "SureNoes", name := "digest", desc := "()J" } : Jvm.MethodName) ({ cls := "SureNoes", name := "digest", desc := "()J" } : Jvm.MethodName)) ∈ sn_gw := sn_in 751 (by decide +kernel) (by decide +kernel)
theorem tw_752 : (Jvm.Cond.code ({ cls := "SureNoes", name := "digest", desc := "()J" } : Jvm.MethodName) prog_1_method_25_code (5 : Nat) (Option.some Jvm.ClassFile.FieldType.long)) ∈ sn_gw := sn_in 752 (by decide +kernel) (by decide +kernel)
theorem tw_753 : (Jvm.Cond.constantLong "SureNoes" (249 : Nat) (367 : Int64)) ∈ sn_gw := sn_in 753 (by decide +kernel) (by decide +kernel)
theorem tw_754 : (Jvm.Cond.constantLong "SureNoes" (251 : Nat) (31 : Int64)) ∈ sn_gw := sn_in 754 (by decide +kernel) (by decide +kernel)
theorem tw_755 : (Jvm.Cond.methodLink "SureNoes" (253 : Nat) ({ cls := "SureNoes", name := "value", desc := "(II)I" } : Jvm.MethodName)) ∈ sn_gw := sn_in 755 (by decide +kernel) (by decide +kernel)
theorem tw_756 : (Jvm.Cond.methodLink "SureNoes" (256 : Nat) ({ cls := "SureNoes", name := "digestOfBook", desc := "(JI)J" } : Jvm.MethodName)) ∈ sn_gw := sn_in 756 (by decide +kernel) (by decide +kernel)
theorem tw_758 : (Jvm.Cond.instanceMethod ({ cls := "SureNoes", name := "digestOfBook", desc := "(JI)J" } : Jvm.MethodName)) ∈ sn_gw := sn_in 758 (by decide +kernel) (by decide +kernel)
theorem tw_759 : (Jvm.Cond.code ({ cls := "SureNoes", name := "digestOfBook", desc := "(JI)J" } : Jvm.MethodName) prog_1_method_51_code (9 : Nat) (Option.some Jvm.ClassFile.FieldType.long)) ∈ sn_gw := sn_in 759 (by decide +kernel) (by decide +kernel)
theorem tw_760 : (Jvm.Cond.methodLink "SureNoes" (293 : Nat) ({ cls := "SureNoes", name := "about", desc := "(II)I" } : Jvm.MethodName)) ∈ sn_gw := sn_in 760 (by decide +kernel) (by decide +kernel)
theorem tw_761 : (Jvm.Cond.methodLink "SureNoes" (296 : Nat) ({ cls := "SureNoes", name := "at", desc := "(II)I" } : Jvm.MethodName)) ∈ sn_gw := sn_in 761 (by decide +kernel) (by decide +kernel)
theorem tw_762 : (Jvm.Cond.methodLink "SureNoes" (299 : Nat) ({ cls := "SureNoes", name := "row", desc := "(II)J" } : Jvm.MethodName)) ∈ sn_gw := sn_in 762 (by decide +kernel) (by decide +kernel)
theorem tw_763 : (Jvm.Cond.methodLink "SureNoes" (303 : Nat) ({ cls := "SureNoes", name := "keys", desc := "(II)J" } : Jvm.MethodName)) ∈ sn_gw := sn_in 763 (by decide +kernel) (by decide +kernel)
theorem tw_764 : (Jvm.Cond.methodLink "SureNoes" (260 : Nat) ({ cls := "SureNoes", name := "count", desc := "(I)I" } : Jvm.MethodName)) ∈ sn_gw := sn_in 764 (by decide +kernel) (by decide +kernel)
theorem tw_765 : (Jvm.Cond.classLink "SureNoesLaw" (10 : Nat) "SureNoesModel") ∈ sn_gw := sn_in 765 (by decide +kernel) (by decide +kernel)
theorem tw_766 : (Jvm.Cond.instantiable "SureNoesModel" (25 : Nat)) ∈ sn_gw := sn_in 766 (by decide +kernel) (by decide +kernel)
theorem tw_767 : (Jvm.Cond.methodLink "SureNoesLaw" (12 : Nat) ({ cls := "SureNoesModel", name := "<init>", desc := "()V" } : Jvm.MethodName)) ∈ sn_gw := sn_in 767 (by decide +kernel) (by decide +kernel)
theorem tw_768 : (Jvm.Cond.instanceMethod ({ cls := "SureNoesModel", name := "<init>", desc := "()V" } : Jvm.MethodName)) ∈ sn_gw := sn_in 768 (by decide +kernel) (by decide +kernel)
theorem tw_769 : (Jvm.Cond.code ({ cls := "SureNoesModel", name := "<init>", desc := "()V" } : Jvm.MethodName) prog_12_method_1_code (1 : Nat) (Option.none : Option Jvm.ClassFile.FieldType)) ∈ sn_gw := sn_in 769 (by decide +kernel) (by decide +kernel)
theorem tw_770 : (Jvm.Cond.methodLink "SureNoesModel" (1 : Nat) ({ cls := "java/lang/Object", name := "<init>", desc := "()V" } : Jvm.MethodName)) ∈ sn_gw := sn_in 770 (by decide +kernel) (by decide +kernel)
theorem tw_771 : (Jvm.Cond.fieldLink "SureNoesModel" (83 : Nat) "SureNoesModel" "laws" "I") ∈ sn_gw := sn_in 771 (by decide +kernel) (by decide +kernel)
theorem tw_772 : (Jvm.Cond.fieldLink "SureNoesModel" (7 : Nat) "SureNoesModel" "lawA" "[I") ∈ sn_gw := sn_in 772 (by decide +kernel) (by decide +kernel)
theorem tw_773 : (Jvm.Cond.fieldLink "SureNoesModel" (13 : Nat) "SureNoesModel" "lawB" "[I") ∈ sn_gw := sn_in 773 (by decide +kernel) (by decide +kernel)
theorem tw_774 : (Jvm.Cond.fieldLink "SureNoesModel" (120 : Nat) "SureNoesModel" "books" "I") ∈ sn_gw := sn_in 774 (by decide +kernel) (by decide +kernel)
theorem tw_775 : (Jvm.Cond.fieldLink "SureNoesModel" (16 : Nat) "SureNoesModel" "kindOf" "[I") ∈ sn_gw := sn_in 775 (by decide +kernel) (by decide +kernel)
theorem tw_776 : (Jvm.Cond.fieldLink "SureNoesModel" (19 : Nat) "SureNoesModel" "sizeOf" "[I") ∈ sn_gw := sn_in 776 (by decide +kernel) (by decide +kernel)
theorem tw_777 : (Jvm.Cond.fieldLink "SureNoesModel" (22 : Nat) "SureNoesModel" "lawsOf" "[I") ∈ sn_gw := sn_in 777 (by decide +kernel) (by decide +kernel)
theorem tw_778 : (Jvm.Cond.fieldLink "SureNoesModel" (25 : Nat) "SureNoesModel" "numberAt" "[I") ∈ sn_gw := sn_in 778 (by decide +kernel) (by decide +kernel)
theorem tw_779 : (Jvm.Cond.fieldLink "SureNoesModel" (28 : Nat) "SureNoesModel" "realOf" "[I") ∈ sn_gw := sn_in 779 (by decide +kernel) (by decide +kernel)
theorem tw_780 : (Jvm.Cond.fieldLink "SureNoesModel" (31 : Nat) "SureNoesModel" "rowMany" "[I") ∈ sn_gw := sn_in 780 (by decide +kernel) (by decide +kernel)
theorem tw_781 : (Jvm.Cond.fieldLink "SureNoesModel" (34 : Nat) "SureNoesModel" "rowOf" "[J") ∈ sn_gw := sn_in 781 (by decide +kernel) (by decide +kernel)
theorem tw_782 : (Jvm.Cond.fieldLink "SureNoesModel" (38 : Nat) "SureNoesModel" "was" "[I") ∈ sn_gw := sn_in 782 (by decide +kernel) (by decide +kernel)
theorem tw_783 : (Jvm.Cond.fieldLink "SureNoesModel" (188 : Nat) "SureNoesModel" "takenMany" "I") ∈ sn_gw := sn_in 783 (by decide +kernel) (by decide +kernel)
theorem tw_784 : (Jvm.Cond.fieldLink "SureNoesModel" (41 : Nat) "SureNoesModel" "takenKey" "[I") ∈ sn_gw := sn_in 784 (by decide +kernel) (by decide +kernel)
theorem tw_785 : (Jvm.Cond.fieldLink "SureNoesModel" (44 : Nat) "SureNoesModel" "takenPlace" "[I") ∈ sn_gw := sn_in 785 (by decide +kernel) (by decide +kernel)
theorem tw_786 : (Jvm.Cond.fieldLink "SureNoesModel" (47 : Nat) "SureNoesModel" "newRow" "[J") ∈ sn_gw := sn_in 786 (by decide +kernel) (by decide +kernel)
theorem tw_787 : (Jvm.Cond.fieldLink "SureNoesModel" (50 : Nat) "SureNoesModel" "placesNow" "[J") ∈ sn_gw := sn_in 787 (by decide +kernel) (by decide +kernel)
theorem tw_788 : (Jvm.Cond.fieldLink "SureNoesModel" (53 : Nat) "SureNoesModel" "moreKeys" "[B") ∈ sn_gw := sn_in 788 (by decide +kernel) (by decide +kernel)
theorem tw_789 : (Jvm.Cond.fieldLink "SureNoesModel" (57 : Nat) "SureNoesModel" "whichKeys" "[J") ∈ sn_gw := sn_in 789 (by decide +kernel) (by decide +kernel)
theorem tw_790 : (Jvm.Cond.fieldLink "SureNoesModel" (60 : Nat) "SureNoesModel" "soughtOf" "[I") ∈ sn_gw := sn_in 790 (by decide +kernel) (by decide +kernel)
theorem tw_791 : (Jvm.Cond.fieldLink "SureNoesModel" (63 : Nat) "SureNoesModel" "keyAt" "[I") ∈ sn_gw := sn_in 791 (by decide +kernel) (by decide +kernel)
theorem tw_792 : (Jvm.Cond.fieldLink "SureNoesModel" (66 : Nat) "SureNoesModel" "orderOf" "[I") ∈ sn_gw := sn_in 792 (by decide +kernel) (by decide +kernel)
theorem tw_793 : (Jvm.Cond.fieldLink "SureNoesModel" (69 : Nat) "SureNoesModel" "kept" "[I") ∈ sn_gw := sn_in 793 (by decide +kernel) (by decide +kernel)
theorem tw_794 : (Jvm.Cond.fieldLink "SureNoesModel" (72 : Nat) "SureNoesModel" "headOf" "[I") ∈ sn_gw := sn_in 794 (by decide +kernel) (by decide +kernel)
theorem tw_795 : (Jvm.Cond.fieldLink "SureNoesModel" (256 : Nat) "SureNoesModel" "h" "J") ∈ sn_gw := sn_in 795 (by decide +kernel) (by decide +kernel)
theorem tw_796 : (Jvm.Cond.lays "SureNoesModel" "SureNoesModel" "laws" "I") ∈ sn_gw := sn_in 796 (by decide +kernel) (by decide +kernel)
theorem tw_798 : (Jvm.Cond.laysFinal "SureNoesModel" "SureNoesModel" "lawA" "[I") ∈ sn_gw := sn_in 798 (by decide +kernel) (by decide +kernel)
theorem tw_800 : (Jvm.Cond.laysFinal "SureNoesModel" "SureNoesModel" "lawB" "[I") ∈ sn_gw := sn_in 800 (by decide +kernel) (by decide +kernel)
theorem tw_802 : (Jvm.Cond.lays "SureNoesModel" "SureNoesModel" "books" "I") ∈ sn_gw := sn_in 802 (by decide +kernel) (by decide +kernel)
theorem tw_804 : (Jvm.Cond.laysFinal "SureNoesModel" "SureNoesModel" "kindOf" "[I") ∈ sn_gw := sn_in 804 (by decide +kernel) (by decide +kernel)
theorem tw_806 : (Jvm.Cond.laysFinal "SureNoesModel" "SureNoesModel" "sizeOf" "[I") ∈ sn_gw := sn_in 806 (by decide +kernel) (by decide +kernel)
theorem tw_808 : (Jvm.Cond.laysFinal "SureNoesModel" "SureNoesModel" "lawsOf" "[I") ∈ sn_gw := sn_in 808 (by decide +kernel) (by decide +kernel)
theorem tw_810 : (Jvm.Cond.laysFinal "SureNoesModel" "SureNoesModel" "numberAt" "[I") ∈ sn_gw := sn_in 810 (by decide +kernel) (by decide +kernel)
theorem tw_812 : (Jvm.Cond.laysFinal "SureNoesModel" "SureNoesModel" "realOf" "[I") ∈ sn_gw := sn_in 812 (by decide +kernel) (by decide +kernel)
theorem tw_814 : (Jvm.Cond.laysFinal "SureNoesModel" "SureNoesModel" "rowMany" "[I") ∈ sn_gw := sn_in 814 (by decide +kernel) (by decide +kernel)
theorem tw_816 : (Jvm.Cond.laysFinal "SureNoesModel" "SureNoesModel" "rowOf" "[J") ∈ sn_gw := sn_in 816 (by decide +kernel) (by decide +kernel)
theorem tw_818 : (Jvm.Cond.laysFinal "SureNoesModel" "SureNoesModel" "was" "[I") ∈ sn_gw := sn_in 818 (by decide +kernel) (by decide +kernel)
theorem tw_820 : (Jvm.Cond.lays "SureNoesModel" "SureNoesModel" "takenMany" "I") ∈ sn_gw := sn_in 820 (by decide +kernel) (by decide +kernel)
theorem tw_822 : (Jvm.Cond.laysFinal "SureNoesModel" "SureNoesModel" "takenKey" "[I") ∈ sn_gw := sn_in 822 (by decide +kernel) (by decide +kernel)
theorem tw_824 : (Jvm.Cond.laysFinal "SureNoesModel" "SureNoesModel" "takenPlace" "[I") ∈ sn_gw := sn_in 824 (by decide +kernel) (by decide +kernel)
theorem tw_826 : (Jvm.Cond.laysFinal "SureNoesModel" "SureNoesModel" "newRow" "[J") ∈ sn_gw := sn_in 826 (by decide +kernel) (by decide +kernel)
theorem tw_828 : (Jvm.Cond.laysFinal "SureNoesModel" "SureNoesModel" "placesNow" "[J") ∈ sn_gw := sn_in 828 (by decide +kernel) (by decide +kernel)
theorem tw_830 : (Jvm.Cond.laysFinal "SureNoesModel" "SureNoesModel" "moreKeys" "[B") ∈ sn_gw := sn_in 830 (by decide +kernel) (by decide +kernel)
theorem tw_832 : (Jvm.Cond.laysFinal "SureNoesModel" "SureNoesModel" "whichKeys" "[J") ∈ sn_gw := sn_in 832 (by decide +kernel) (by decide +kernel)
theorem tw_834 : (Jvm.Cond.laysFinal "SureNoesModel" "SureNoesModel" "soughtOf" "[I") ∈ sn_gw := sn_in 834 (by decide +kernel) (by decide +kernel)
theorem tw_836 : (Jvm.Cond.laysFinal "SureNoesModel" "SureNoesModel" "keyAt" "[I") ∈ sn_gw := sn_in 836 (by decide +kernel) (by decide +kernel)
theorem tw_838 : (Jvm.Cond.laysFinal "SureNoesModel" "SureNoesModel" "orderOf" "[I") ∈ sn_gw := sn_in 838 (by decide +kernel) (by decide +kernel)
theorem tw_840 : (Jvm.Cond.laysFinal "SureNoesModel" "SureNoesModel" "kept" "[I") ∈ sn_gw := sn_in 840 (by decide +kernel) (by decide +kernel)
theorem tw_842 : (Jvm.Cond.laysFinal "SureNoesModel" "SureNoesModel" "headOf" "[I") ∈ sn_gw := sn_in 842 (by decide +kernel) (by decide +kernel)
theorem tw_844 : (Jvm.Cond.lays "SureNoesModel" "SureNoesModel" "h" "J") ∈ sn_gw := sn_in 844 (by decide +kernel) (by decide +kernel)
theorem tw_847 : (Jvm.Cond.arrayClass Jvm.ClassFile.FieldType.byte) ∈ sn_gw := sn_in 847 (by decide +kernel) (by decide +kernel)
theorem tw_848 : (Jvm.Cond.methodLink "SureNoesLaw" (17 : Nat) ({ cls := "SureNoesModel", name := "law", desc := "(II)I" } : Jvm.MethodName)) ∈ sn_gw := sn_in 848 (by decide +kernel) (by decide +kernel)
theorem tw_849 : (Jvm.Cond.instanceMethod ({ cls := "SureNoesModel", name := "law", desc := "(II)I" } : Jvm.MethodName)) ∈ sn_gw := sn_in 849 (by decide +kernel) (by decide +kernel)
theorem tw_850 : (Jvm.Cond.selects "SureNoesModel" ({ cls := "SureNoesModel", name := "law", desc := "(II)I" } : Jvm.MethodName) ({ cls := "SureNoesModel", name := "law", desc := "(II)I" } : Jvm.MethodName)) ∈ sn_gw := sn_in 850 (by decide +kernel) (by decide +kernel)
theorem tw_851 : (Jvm.Cond.code ({ cls := "SureNoesModel", name := "law", desc := "(II)I" } : Jvm.MethodName) prog_12_method_9_code (3 : Nat) (Option.some Jvm.ClassFile.FieldType.int)) ∈ sn_gw := sn_in 851 (by decide +kernel) (by decide +kernel)
theorem tw_852 : (Jvm.Cond.constantLong "SureNoesModel" (87 : Nat) (36 : Int64)) ∈ sn_gw := sn_in 852 (by decide +kernel) (by decide +kernel)
theorem tw_853 : (Jvm.Cond.methodLink "SureNoesModel" (77 : Nat) ({ cls := "SureNoesModel", name := "within", desc := "(JJJ)Z" } : Jvm.MethodName)) ∈ sn_gw := sn_in 853 (by decide +kernel) (by decide +kernel)
theorem tw_854 : (Jvm.Cond.static ({ cls := "SureNoesModel", name := "within", desc := "(JJJ)Z" } : Jvm.MethodName)) ∈ sn_gw := sn_in 854 (by decide +kernel) (by decide +kernel)
theorem tw_855 : (Jvm.Cond.code ({ cls := "SureNoesModel", name := "within", desc := "(JJJ)Z" } : Jvm.MethodName) prog_12_method_3_code (6 : Nat) (Option.some Jvm.ClassFile.FieldType.boolean)) ∈ sn_gw := sn_in 855 (by decide +kernel) (by decide +kernel)
theorem tw_856 : (Jvm.Cond.methodLink "SureNoesLaw" (21 : Nat) ({ cls := "SureNoesModel", name := "value", desc := "(II)I" } : Jvm.MethodName)) ∈ sn_gw := sn_in 856 (by decide +kernel) (by decide +kernel)
theorem tw_857 : (Jvm.Cond.instanceMethod ({ cls := "SureNoesModel", name := "value", desc := "(II)I" } : Jvm.MethodName)) ∈ sn_gw := sn_in 857 (by decide +kernel) (by decide +kernel)
theorem tw_858 : (Jvm.Cond.selects "SureNoesModel" ({ cls := "SureNoesModel", name := "value", desc := "(II)I" } : Jvm.MethodName) ({ cls := "SureNoesModel", name := "value", desc := "(II)I" } : Jvm.MethodName)) ∈ sn_gw := sn_in 858 (by decide +kernel) (by decide +kernel)
theorem tw_859 : (Jvm.Cond.code ({ cls := "SureNoesModel", name := "value", desc := "(II)I" } : Jvm.MethodName) prog_12_method_11_code (3 : Nat) (Option.some Jvm.ClassFile.FieldType.int)) ∈ sn_gw := sn_in 859 (by decide +kernel) (by decide +kernel)
theorem tw_860 : (Jvm.Cond.methodLink "SureNoesModel" (89 : Nat) ({ cls := "SureNoesModel", name := "isLaw", desc := "(I)Z" } : Jvm.MethodName)) ∈ sn_gw := sn_in 860 (by decide +kernel) (by decide +kernel)
theorem tw_862 : (Jvm.Cond.instanceMethod ({ cls := "SureNoesModel", name := "isLaw", desc := "(I)Z" } : Jvm.MethodName)) ∈ sn_gw := sn_in 862 (by decide +kernel) (by decide +kernel)
theorem tw_863 : (Jvm.Cond.code ({ cls := "SureNoesModel", name := "isLaw", desc := "(I)Z" } : Jvm.MethodName) prog_12_method_8_code (2 : Nat) (Option.some Jvm.ClassFile.FieldType.boolean)) ∈ sn_gw := sn_in 863 (by decide +kernel) (by decide +kernel)
theorem tw_864 : (Jvm.Cond.methodLink "SureNoesModel" (93 : Nat) ({ cls := "SureNoesModel", name := "isKey", desc := "(I)Z" } : Jvm.MethodName)) ∈ sn_gw := sn_in 864 (by decide +kernel) (by decide +kernel)
theorem tw_865 : (Jvm.Cond.static ({ cls := "SureNoesModel", name := "isKey", desc := "(I)Z" } : Jvm.MethodName)) ∈ sn_gw := sn_in 865 (by decide +kernel) (by decide +kernel)
theorem tw_866 : (Jvm.Cond.code ({ cls := "SureNoesModel", name := "isKey", desc := "(I)Z" } : Jvm.MethodName) prog_12_method_4_code (1 : Nat) (Option.some Jvm.ClassFile.FieldType.boolean)) ∈ sn_gw := sn_in 866 (by decide +kernel) (by decide +kernel)
theorem tw_867 : (Jvm.Cond.constantLong "SureNoesModel" (75 : Nat) (31 : Int64)) ∈ sn_gw := sn_in 867 (by decide +kernel) (by decide +kernel)
theorem tw_868 : (Jvm.Cond.methodLink "SureNoesModel" (96 : Nat) ({ cls := "SureNoesModel", name := "valueOf", desc := "(II)I" } : Jvm.MethodName)) ∈ sn_gw := sn_in 868 (by decide +kernel) (by decide +kernel)
theorem tw_870 : (Jvm.Cond.instanceMethod ({ cls := "SureNoesModel", name := "valueOf", desc := "(II)I" } : Jvm.MethodName)) ∈ sn_gw := sn_in 870 (by decide +kernel) (by decide +kernel)
theorem tw_871 : (Jvm.Cond.code ({ cls := "SureNoesModel", name := "valueOf", desc := "(II)I" } : Jvm.MethodName) prog_12_method_10_code (3 : Nat) (Option.some Jvm.ClassFile.FieldType.int)) ∈ sn_gw := sn_in 871 (by decide +kernel) (by decide +kernel)
theorem tw_872 : (Jvm.Cond.methodLink "SureNoesLaw" (28 : Nat) ({ cls := "SureNoesModel", name := "odds", desc := "(JIII)I" } : Jvm.MethodName)) ∈ sn_gw := sn_in 872 (by decide +kernel) (by decide +kernel)
theorem tw_873 : (Jvm.Cond.instanceMethod ({ cls := "SureNoesModel", name := "odds", desc := "(JIII)I" } : Jvm.MethodName)) ∈ sn_gw := sn_in 873 (by decide +kernel) (by decide +kernel)
theorem tw_874 : (Jvm.Cond.selects "SureNoesModel" ({ cls := "SureNoesModel", name := "odds", desc := "(JIII)I" } : Jvm.MethodName) ({ cls := "SureNoesModel", name := "odds", desc := "(JIII)I" } : Jvm.MethodName)) ∈ sn_gw := sn_in 874 (by decide +kernel) (by decide +kernel)
theorem tw_875 : (Jvm.Cond.code ({ cls := "SureNoesModel", name := "odds", desc := "(JIII)I" } : Jvm.MethodName) prog_12_method_14_code (11 : Nat) (Option.some Jvm.ClassFile.FieldType.int)) ∈ sn_gw := sn_in 875 (by decide +kernel) (by decide +kernel)
theorem tw_876 : (Jvm.Cond.methodLink "SureNoesModel" (108 : Nat) ({ cls := "SureNoesModel", name := "isSet", desc := "(J)Z" } : Jvm.MethodName)) ∈ sn_gw := sn_in 876 (by decide +kernel) (by decide +kernel)
theorem tw_877 : (Jvm.Cond.static ({ cls := "SureNoesModel", name := "isSet", desc := "(J)Z" } : Jvm.MethodName)) ∈ sn_gw := sn_in 877 (by decide +kernel) (by decide +kernel)
theorem tw_878 : (Jvm.Cond.code ({ cls := "SureNoesModel", name := "isSet", desc := "(J)Z" } : Jvm.MethodName) prog_12_method_7_code (2 : Nat) (Option.some Jvm.ClassFile.FieldType.boolean)) ∈ sn_gw := sn_in 878 (by decide +kernel) (by decide +kernel)
theorem tw_879 : (Jvm.Cond.constantLong "SureNoesModel" (81 : Nat) (4294967295 : Int64)) ∈ sn_gw := sn_in 879 (by decide +kernel) (by decide +kernel)
theorem tw_880 : (Jvm.Cond.constantLong "SureNoesModel" (112 : Nat) (2 : Int64)) ∈ sn_gw := sn_in 880 (by decide +kernel) (by decide +kernel)
theorem tw_881 : (Jvm.Cond.constantLong "SureNoesModel" (114 : Nat) (32 : Int64)) ∈ sn_gw := sn_in 881 (by decide +kernel) (by decide +kernel)
theorem tw_882 : (Jvm.Cond.methodLink "SureNoesModel" (100 : Nat) ({ cls := "SureNoesModel", name := "has", desc := "(JI)Z" } : Jvm.MethodName)) ∈ sn_gw := sn_in 882 (by decide +kernel) (by decide +kernel)
theorem tw_883 : (Jvm.Cond.static ({ cls := "SureNoesModel", name := "has", desc := "(JI)Z" } : Jvm.MethodName)) ∈ sn_gw := sn_in 883 (by decide +kernel) (by decide +kernel)
theorem tw_884 : (Jvm.Cond.code ({ cls := "SureNoesModel", name := "has", desc := "(JI)Z" } : Jvm.MethodName) prog_12_method_5_code (3 : Nat) (Option.some Jvm.ClassFile.FieldType.boolean)) ∈ sn_gw := sn_in 884 (by decide +kernel) (by decide +kernel)
theorem tw_885 : (Jvm.Cond.methodLink "SureNoesModel" (104 : Nat) ({ cls := "SureNoesModel", name := "placesBy", desc := "(IIIJ)J" } : Jvm.MethodName)) ∈ sn_gw := sn_in 885 (by decide +kernel) (by decide +kernel)
theorem tw_886 : (Jvm.Cond.static ({ cls := "SureNoesModel", name := "placesBy", desc := "(IIIJ)J" } : Jvm.MethodName)) ∈ sn_gw := sn_in 886 (by decide +kernel) (by decide +kernel)
theorem tw_887 : (Jvm.Cond.code ({ cls := "SureNoesModel", name := "placesBy", desc := "(IIIJ)J" } : Jvm.MethodName) prog_12_method_12_code (8 : Nat) (Option.some Jvm.ClassFile.FieldType.long)) ∈ sn_gw := sn_in 887 (by decide +kernel) (by decide +kernel)
theorem tw_888 : (Jvm.Cond.methodLink "SureNoesLaw" (33 : Nat) ({ cls := "SureNoesModel", name := "best", desc := "(JII)I" } : Jvm.MethodName)) ∈ sn_gw := sn_in 888 (by decide +kernel) (by decide +kernel)
theorem tw_889 : (Jvm.Cond.instanceMethod ({ cls := "SureNoesModel", name := "best", desc := "(JII)I" } : Jvm.MethodName)) ∈ sn_gw := sn_in 889 (by decide +kernel) (by decide +kernel)
theorem tw_890 : (Jvm.Cond.selects "SureNoesModel" ({ cls := "SureNoesModel", name := "best", desc := "(JII)I" } : Jvm.MethodName) ({ cls := "SureNoesModel", name := "best", desc := "(JII)I" } : Jvm.MethodName)) ∈ sn_gw := sn_in 890 (by decide +kernel) (by decide +kernel)
theorem tw_891 : (Jvm.Cond.code ({ cls := "SureNoesModel", name := "best", desc := "(JII)I" } : Jvm.MethodName) prog_12_method_15_code (11 : Nat) (Option.some Jvm.ClassFile.FieldType.int)) ∈ sn_gw := sn_in 891 (by decide +kernel) (by decide +kernel)
theorem tw_892 : (Jvm.Cond.methodLink "SureNoesModel" (116 : Nat) ({ cls := "SureNoesModel", name := "falseBy", desc := "(IIIJ)I" } : Jvm.MethodName)) ∈ sn_gw := sn_in 892 (by decide +kernel) (by decide +kernel)
theorem tw_893 : (Jvm.Cond.static ({ cls := "SureNoesModel", name := "falseBy", desc := "(IIIJ)I" } : Jvm.MethodName)) ∈ sn_gw := sn_in 893 (by decide +kernel) (by decide +kernel)
theorem tw_894 : (Jvm.Cond.code ({ cls := "SureNoesModel", name := "falseBy", desc := "(IIIJ)I" } : Jvm.MethodName) prog_12_method_13_code (9 : Nat) (Option.some Jvm.ClassFile.FieldType.int)) ∈ sn_gw := sn_in 894 (by decide +kernel) (by decide +kernel)
theorem tw_895 : (Jvm.Cond.methodLink "SureNoesLaw" (37 : Nat) ({ cls := "SureNoesModel", name := "fewest", desc := "(JII)I" } : Jvm.MethodName)) ∈ sn_gw := sn_in 895 (by decide +kernel) (by decide +kernel)
theorem tw_896 : (Jvm.Cond.instanceMethod ({ cls := "SureNoesModel", name := "fewest", desc := "(JII)I" } : Jvm.MethodName)) ∈ sn_gw := sn_in 896 (by decide +kernel) (by decide +kernel)
theorem tw_897 : (Jvm.Cond.selects "SureNoesModel" ({ cls := "SureNoesModel", name := "fewest", desc := "(JII)I" } : Jvm.MethodName) ({ cls := "SureNoesModel", name := "fewest", desc := "(JII)I" } : Jvm.MethodName)) ∈ sn_gw := sn_in 897 (by decide +kernel) (by decide +kernel)
theorem tw_898 : (Jvm.Cond.code ({ cls := "SureNoesModel", name := "fewest", desc := "(JII)I" } : Jvm.MethodName) prog_12_method_16_code (6 : Nat) (Option.some Jvm.ClassFile.FieldType.int)) ∈ sn_gw := sn_in 898 (by decide +kernel) (by decide +kernel)
theorem tw_899 : (Jvm.Cond.methodLink "SureNoesLaw" (42 : Nat) ({ cls := "SureNoesModel", name := "book", desc := "(III)I" } : Jvm.MethodName)) ∈ sn_gw := sn_in 899 (by decide +kernel) (by decide +kernel)
theorem tw_900 : (Jvm.Cond.instanceMethod ({ cls := "SureNoesModel", name := "book", desc := "(III)I" } : Jvm.MethodName)) ∈ sn_gw := sn_in 900 (by decide +kernel) (by decide +kernel)
theorem tw_901 : (Jvm.Cond.selects "SureNoesModel" ({ cls := "SureNoesModel", name := "book", desc := "(III)I" } : Jvm.MethodName) ({ cls := "SureNoesModel", name := "book", desc := "(III)I" } : Jvm.MethodName)) ∈ sn_gw := sn_in 901 (by decide +kernel) (by decide +kernel)
theorem tw_902 : (Jvm.Cond.code ({ cls := "SureNoesModel", name := "book", desc := "(III)I" } : Jvm.MethodName) prog_12_method_19_code (7 : Nat) (Option.some Jvm.ClassFile.FieldType.int)) ∈ sn_gw := sn_in 902 (by decide +kernel) (by decide +kernel)
theorem tw_903 : (Jvm.Cond.constantLong "SureNoesModel" (123 : Nat) (5 : Int64)) ∈ sn_gw := sn_in 903 (by decide +kernel) (by decide +kernel)
theorem tw_904 : (Jvm.Cond.constantLong "SureNoesModel" (125 : Nat) (3 : Int64)) ∈ sn_gw := sn_in 904 (by decide +kernel) (by decide +kernel)
theorem tw_905 : (Jvm.Cond.methodLink "SureNoesModel" (127 : Nat) ({ cls := "SureNoesModel", name := "ones", desc := "(J)I" } : Jvm.MethodName)) ∈ sn_gw := sn_in 905 (by decide +kernel) (by decide +kernel)
theorem tw_906 : (Jvm.Cond.static ({ cls := "SureNoesModel", name := "ones", desc := "(J)I" } : Jvm.MethodName)) ∈ sn_gw := sn_in 906 (by decide +kernel) (by decide +kernel)
theorem tw_907 : (Jvm.Cond.code ({ cls := "SureNoesModel", name := "ones", desc := "(J)I" } : Jvm.MethodName) prog_12_method_6_code (5 : Nat) (Option.some Jvm.ClassFile.FieldType.int)) ∈ sn_gw := sn_in 907 (by decide +kernel) (by decide +kernel)
theorem tw_908 : (Jvm.Cond.methodLink "SureNoesLaw" (46 : Nat) ({ cls := "SureNoesModel", name := "as", desc := "(II)I" } : Jvm.MethodName)) ∈ sn_gw := sn_in 908 (by decide +kernel) (by decide +kernel)
theorem tw_909 : (Jvm.Cond.instanceMethod ({ cls := "SureNoesModel", name := "as", desc := "(II)I" } : Jvm.MethodName)) ∈ sn_gw := sn_in 909 (by decide +kernel) (by decide +kernel)
theorem tw_910 : (Jvm.Cond.selects "SureNoesModel" ({ cls := "SureNoesModel", name := "as", desc := "(II)I" } : Jvm.MethodName) ({ cls := "SureNoesModel", name := "as", desc := "(II)I" } : Jvm.MethodName)) ∈ sn_gw := sn_in 910 (by decide +kernel) (by decide +kernel)
theorem tw_911 : (Jvm.Cond.code ({ cls := "SureNoesModel", name := "as", desc := "(II)I" } : Jvm.MethodName) prog_12_method_20_code (5 : Nat) (Option.some Jvm.ClassFile.FieldType.int)) ∈ sn_gw := sn_in 911 (by decide +kernel) (by decide +kernel)
theorem tw_912 : (Jvm.Cond.methodLink "SureNoesModel" (131 : Nat) ({ cls := "SureNoesModel", name := "isBook", desc := "(I)Z" } : Jvm.MethodName)) ∈ sn_gw := sn_in 912 (by decide +kernel) (by decide +kernel)
theorem tw_914 : (Jvm.Cond.instanceMethod ({ cls := "SureNoesModel", name := "isBook", desc := "(I)Z" } : Jvm.MethodName)) ∈ sn_gw := sn_in 914 (by decide +kernel) (by decide +kernel)
theorem tw_915 : (Jvm.Cond.code ({ cls := "SureNoesModel", name := "isBook", desc := "(I)Z" } : Jvm.MethodName) prog_12_method_17_code (2 : Nat) (Option.some Jvm.ClassFile.FieldType.boolean)) ∈ sn_gw := sn_in 915 (by decide +kernel) (by decide +kernel)
theorem tw_916 : (Jvm.Cond.methodLink "SureNoesLaw" (50 : Nat) ({ cls := "SureNoesModel", name := "about", desc := "(II)I" } : Jvm.MethodName)) ∈ sn_gw := sn_in 916 (by decide +kernel) (by decide +kernel)
theorem tw_917 : (Jvm.Cond.instanceMethod ({ cls := "SureNoesModel", name := "about", desc := "(II)I" } : Jvm.MethodName)) ∈ sn_gw := sn_in 917 (by decide +kernel) (by decide +kernel)
theorem tw_918 : (Jvm.Cond.selects "SureNoesModel" ({ cls := "SureNoesModel", name := "about", desc := "(II)I" } : Jvm.MethodName) ({ cls := "SureNoesModel", name := "about", desc := "(II)I" } : Jvm.MethodName)) ∈ sn_gw := sn_in 918 (by decide +kernel) (by decide +kernel)
theorem tw_919 : (Jvm.Cond.code ({ cls := "SureNoesModel", name := "about", desc := "(II)I" } : Jvm.MethodName) prog_12_method_24_code (3 : Nat) (Option.some Jvm.ClassFile.FieldType.int)) ∈ sn_gw := sn_in 919 (by decide +kernel) (by decide +kernel)
theorem tw_920 : (Jvm.Cond.methodLink "SureNoesModel" (142 : Nat) ({ cls := "SureNoesModel", name := "aboutOf", desc := "(II)I" } : Jvm.MethodName)) ∈ sn_gw := sn_in 920 (by decide +kernel) (by decide +kernel)
theorem tw_922 : (Jvm.Cond.instanceMethod ({ cls := "SureNoesModel", name := "aboutOf", desc := "(II)I" } : Jvm.MethodName)) ∈ sn_gw := sn_in 922 (by decide +kernel) (by decide +kernel)
theorem tw_923 : (Jvm.Cond.code ({ cls := "SureNoesModel", name := "aboutOf", desc := "(II)I" } : Jvm.MethodName) prog_12_method_23_code (3 : Nat) (Option.some Jvm.ClassFile.FieldType.int)) ∈ sn_gw := sn_in 923 (by decide +kernel) (by decide +kernel)
theorem tw_924 : (Jvm.Cond.methodLink "SureNoesModel" (134 : Nat) ({ cls := "SureNoesModel", name := "numbersAbove", desc := "(I)I" } : Jvm.MethodName)) ∈ sn_gw := sn_in 924 (by decide +kernel) (by decide +kernel)
theorem tw_926 : (Jvm.Cond.instanceMethod ({ cls := "SureNoesModel", name := "numbersAbove", desc := "(I)I" } : Jvm.MethodName)) ∈ sn_gw := sn_in 926 (by decide +kernel) (by decide +kernel)
theorem tw_927 : (Jvm.Cond.code ({ cls := "SureNoesModel", name := "numbersAbove", desc := "(I)I" } : Jvm.MethodName) prog_12_method_21_code (4 : Nat) (Option.some Jvm.ClassFile.FieldType.int)) ∈ sn_gw := sn_in 927 (by decide +kernel) (by decide +kernel)
theorem tw_928 : (Jvm.Cond.methodLink "SureNoesModel" (138 : Nat) ({ cls := "SureNoesModel", name := "reallyIn", desc := "(I)J" } : Jvm.MethodName)) ∈ sn_gw := sn_in 928 (by decide +kernel) (by decide +kernel)
theorem tw_930 : (Jvm.Cond.instanceMethod ({ cls := "SureNoesModel", name := "reallyIn", desc := "(I)J" } : Jvm.MethodName)) ∈ sn_gw := sn_in 930 (by decide +kernel) (by decide +kernel)
theorem tw_931 : (Jvm.Cond.code ({ cls := "SureNoesModel", name := "reallyIn", desc := "(I)J" } : Jvm.MethodName) prog_12_method_22_code (5 : Nat) (Option.some Jvm.ClassFile.FieldType.long)) ∈ sn_gw := sn_in 931 (by decide +kernel) (by decide +kernel)
theorem tw_932 : (Jvm.Cond.methodLink "SureNoesLaw" (54 : Nat) ({ cls := "SureNoesModel", name := "at", desc := "(II)I" } : Jvm.MethodName)) ∈ sn_gw := sn_in 932 (by decide +kernel) (by decide +kernel)
theorem tw_933 : (Jvm.Cond.instanceMethod ({ cls := "SureNoesModel", name := "at", desc := "(II)I" } : Jvm.MethodName)) ∈ sn_gw := sn_in 933 (by decide +kernel) (by decide +kernel)
theorem tw_934 : (Jvm.Cond.selects "SureNoesModel" ({ cls := "SureNoesModel", name := "at", desc := "(II)I" } : Jvm.MethodName) ({ cls := "SureNoesModel", name := "at", desc := "(II)I" } : Jvm.MethodName)) ∈ sn_gw := sn_in 934 (by decide +kernel) (by decide +kernel)
theorem tw_935 : (Jvm.Cond.code ({ cls := "SureNoesModel", name := "at", desc := "(II)I" } : Jvm.MethodName) prog_12_method_25_code (3 : Nat) (Option.some Jvm.ClassFile.FieldType.int)) ∈ sn_gw := sn_in 935 (by decide +kernel) (by decide +kernel)
theorem tw_936 : (Jvm.Cond.methodLink "SureNoesLaw" (59 : Nat) ({ cls := "SureNoesModel", name := "row", desc := "(II)J" } : Jvm.MethodName)) ∈ sn_gw := sn_in 936 (by decide +kernel) (by decide +kernel)
theorem tw_937 : (Jvm.Cond.instanceMethod ({ cls := "SureNoesModel", name := "row", desc := "(II)J" } : Jvm.MethodName)) ∈ sn_gw := sn_in 937 (by decide +kernel) (by decide +kernel)
theorem tw_938 : (Jvm.Cond.selects "SureNoesModel" ({ cls := "SureNoesModel", name := "row", desc := "(II)J" } : Jvm.MethodName) ({ cls := "SureNoesModel", name := "row", desc := "(II)J" } : Jvm.MethodName)) ∈ sn_gw := sn_in 938 (by decide +kernel) (by decide +kernel)
theorem tw_939 : (Jvm.Cond.code ({ cls := "SureNoesModel", name := "row", desc := "(II)J" } : Jvm.MethodName) prog_12_method_26_code (3 : Nat) (Option.some Jvm.ClassFile.FieldType.long)) ∈ sn_gw := sn_in 939 (by decide +kernel) (by decide +kernel)
theorem tw_940 : (Jvm.Cond.constantLong "SureNoesModel" (145 : Nat) (-101 : Int64)) ∈ sn_gw := sn_in 940 (by decide +kernel) (by decide +kernel)
theorem tw_941 : (Jvm.Cond.methodLink "SureNoesLaw" (63 : Nat) ({ cls := "SureNoesModel", name := "places", desc := "(II)J" } : Jvm.MethodName)) ∈ sn_gw := sn_in 941 (by decide +kernel) (by decide +kernel)
theorem tw_942 : (Jvm.Cond.instanceMethod ({ cls := "SureNoesModel", name := "places", desc := "(II)J" } : Jvm.MethodName)) ∈ sn_gw := sn_in 942 (by decide +kernel) (by decide +kernel)
theorem tw_943 : (Jvm.Cond.selects "SureNoesModel" ({ cls := "SureNoesModel", name := "places", desc := "(II)J" } : Jvm.MethodName) ({ cls := "SureNoesModel", name := "places", desc := "(II)J" } : Jvm.MethodName)) ∈ sn_gw := sn_in 943 (by decide +kernel) (by decide +kernel)
theorem tw_944 : (Jvm.Cond.code ({ cls := "SureNoesModel", name := "places", desc := "(II)J" } : Jvm.MethodName) prog_12_method_33_code (3 : Nat) (Option.some Jvm.ClassFile.FieldType.long)) ∈ sn_gw := sn_in 944 (by decide +kernel) (by decide +kernel)
theorem tw_945 : (Jvm.Cond.methodLink "SureNoesModel" (166 : Nat) ({ cls := "SureNoesModel", name := "placesOf", desc := "(II)J" } : Jvm.MethodName)) ∈ sn_gw := sn_in 945 (by decide +kernel) (by decide +kernel)
theorem tw_947 : (Jvm.Cond.instanceMethod ({ cls := "SureNoesModel", name := "placesOf", desc := "(II)J" } : Jvm.MethodName)) ∈ sn_gw := sn_in 947 (by decide +kernel) (by decide +kernel)
theorem tw_948 : (Jvm.Cond.code ({ cls := "SureNoesModel", name := "placesOf", desc := "(II)J" } : Jvm.MethodName) prog_12_method_32_code (6 : Nat) (Option.some Jvm.ClassFile.FieldType.long)) ∈ sn_gw := sn_in 948 (by decide +kernel) (by decide +kernel)
theorem tw_949 : (Jvm.Cond.methodLink "SureNoesModel" (153 : Nat) ({ cls := "SureNoesModel", name := "firstPlace", desc := "(II)I" } : Jvm.MethodName)) ∈ sn_gw := sn_in 949 (by decide +kernel) (by decide +kernel)
theorem tw_951 : (Jvm.Cond.instanceMethod ({ cls := "SureNoesModel", name := "firstPlace", desc := "(II)I" } : Jvm.MethodName)) ∈ sn_gw := sn_in 951 (by decide +kernel) (by decide +kernel)
theorem tw_952 : (Jvm.Cond.code ({ cls := "SureNoesModel", name := "firstPlace", desc := "(II)I" } : Jvm.MethodName) prog_12_method_28_code (3 : Nat) (Option.some Jvm.ClassFile.FieldType.int)) ∈ sn_gw := sn_in 952 (by decide +kernel) (by decide +kernel)
theorem tw_953 : (Jvm.Cond.methodLink "SureNoesModel" (147 : Nat) ({ cls := "SureNoesModel", name := "lawAt", desc := "(II)I" } : Jvm.MethodName)) ∈ sn_gw := sn_in 953 (by decide +kernel) (by decide +kernel)
theorem tw_955 : (Jvm.Cond.instanceMethod ({ cls := "SureNoesModel", name := "lawAt", desc := "(II)I" } : Jvm.MethodName)) ∈ sn_gw := sn_in 955 (by decide +kernel) (by decide +kernel)
theorem tw_956 : (Jvm.Cond.code ({ cls := "SureNoesModel", name := "lawAt", desc := "(II)I" } : Jvm.MethodName) prog_12_method_18_code (6 : Nat) (Option.some Jvm.ClassFile.FieldType.int)) ∈ sn_gw := sn_in 956 (by decide +kernel) (by decide +kernel)
theorem tw_957 : (Jvm.Cond.methodLink "SureNoesModel" (156 : Nat) ({ cls := "SureNoesModel", name := "pushedMark", desc := "(II)I" } : Jvm.MethodName)) ∈ sn_gw := sn_in 957 (by decide +kernel) (by decide +kernel)
theorem tw_959 : (Jvm.Cond.instanceMethod ({ cls := "SureNoesModel", name := "pushedMark", desc := "(II)I" } : Jvm.MethodName)) ∈ sn_gw := sn_in 959 (by decide +kernel) (by decide +kernel)
theorem tw_960 : (Jvm.Cond.code ({ cls := "SureNoesModel", name := "pushedMark", desc := "(II)I" } : Jvm.MethodName) prog_12_method_29_code (3 : Nat) (Option.some Jvm.ClassFile.FieldType.int)) ∈ sn_gw := sn_in 960 (by decide +kernel) (by decide +kernel)
theorem tw_961 : (Jvm.Cond.methodLink "SureNoesModel" (150 : Nat) ({ cls := "SureNoesModel", name := "markOf", desc := "(I)I" } : Jvm.MethodName)) ∈ sn_gw := sn_in 961 (by decide +kernel) (by decide +kernel)
theorem tw_962 : (Jvm.Cond.static ({ cls := "SureNoesModel", name := "markOf", desc := "(I)I" } : Jvm.MethodName)) ∈ sn_gw := sn_in 962 (by decide +kernel) (by decide +kernel)
theorem tw_963 : (Jvm.Cond.code ({ cls := "SureNoesModel", name := "markOf", desc := "(I)I" } : Jvm.MethodName) prog_12_method_27_code (1 : Nat) (Option.some Jvm.ClassFile.FieldType.int)) ∈ sn_gw := sn_in 963 (by decide +kernel) (by decide +kernel)
theorem tw_964 : (Jvm.Cond.methodLink "SureNoesModel" (159 : Nat) ({ cls := "SureNoesModel", name := "otherPlace", desc := "(III)I" } : Jvm.MethodName)) ∈ sn_gw := sn_in 964 (by decide +kernel) (by decide +kernel)
theorem tw_966 : (Jvm.Cond.instanceMethod ({ cls := "SureNoesModel", name := "otherPlace", desc := "(III)I" } : Jvm.MethodName)) ∈ sn_gw := sn_in 966 (by decide +kernel) (by decide +kernel)
theorem tw_967 : (Jvm.Cond.code ({ cls := "SureNoesModel", name := "otherPlace", desc := "(III)I" } : Jvm.MethodName) prog_12_method_30_code (5 : Nat) (Option.some Jvm.ClassFile.FieldType.int)) ∈ sn_gw := sn_in 967 (by decide +kernel) (by decide +kernel)
theorem tw_968 : (Jvm.Cond.methodLink "SureNoesModel" (163 : Nat) ({ cls := "SureNoesModel", name := "placeBy", desc := "(III)I" } : Jvm.MethodName)) ∈ sn_gw := sn_in 968 (by decide +kernel) (by decide +kernel)
theorem tw_970 : (Jvm.Cond.instanceMethod ({ cls := "SureNoesModel", name := "placeBy", desc := "(III)I" } : Jvm.MethodName)) ∈ sn_gw := sn_in 970 (by decide +kernel) (by decide +kernel)
theorem tw_971 : (Jvm.Cond.code ({ cls := "SureNoesModel", name := "placeBy", desc := "(III)I" } : Jvm.MethodName) prog_12_method_31_code (6 : Nat) (Option.some Jvm.ClassFile.FieldType.int)) ∈ sn_gw := sn_in 971 (by decide +kernel) (by decide +kernel)
theorem tw_972 : (Jvm.Cond.methodLink "SureNoesLaw" (67 : Nat) ({ cls := "SureNoesModel", name := "put", desc := "(II)I" } : Jvm.MethodName)) ∈ sn_gw := sn_in 972 (by decide +kernel) (by decide +kernel)
theorem tw_973 : (Jvm.Cond.instanceMethod ({ cls := "SureNoesModel", name := "put", desc := "(II)I" } : Jvm.MethodName)) ∈ sn_gw := sn_in 973 (by decide +kernel) (by decide +kernel)
theorem tw_974 : (Jvm.Cond.selects "SureNoesModel" ({ cls := "SureNoesModel", name := "put", desc := "(II)I" } : Jvm.MethodName) ({ cls := "SureNoesModel", name := "put", desc := "(II)I" } : Jvm.MethodName)) ∈ sn_gw := sn_in 974 (by decide +kernel) (by decide +kernel)
theorem tw_975 : (Jvm.Cond.code ({ cls := "SureNoesModel", name := "put", desc := "(II)I" } : Jvm.MethodName) prog_12_method_39_code (10 : Nat) (Option.some Jvm.ClassFile.FieldType.int)) ∈ sn_gw := sn_in 975 (by decide +kernel) (by decide +kernel)
theorem tw_976 : (Jvm.Cond.methodLink "SureNoesModel" (181 : Nat) ({ cls := "SureNoesModel", name := "isIn", desc := "(II)Z" } : Jvm.MethodName)) ∈ sn_gw := sn_in 976 (by decide +kernel) (by decide +kernel)
theorem tw_978 : (Jvm.Cond.instanceMethod ({ cls := "SureNoesModel", name := "isIn", desc := "(II)Z" } : Jvm.MethodName)) ∈ sn_gw := sn_in 978 (by decide +kernel) (by decide +kernel)
theorem tw_979 : (Jvm.Cond.code ({ cls := "SureNoesModel", name := "isIn", desc := "(II)Z" } : Jvm.MethodName) prog_12_method_35_code (5 : Nat) (Option.some Jvm.ClassFile.FieldType.boolean)) ∈ sn_gw := sn_in 979 (by decide +kernel) (by decide +kernel)
theorem tw_980 : (Jvm.Cond.methodLink "SureNoesModel" (170 : Nat) ({ cls := "SureNoesModel", name := "together", desc := "(II)I" } : Jvm.MethodName)) ∈ sn_gw := sn_in 980 (by decide +kernel) (by decide +kernel)
theorem tw_982 : (Jvm.Cond.instanceMethod ({ cls := "SureNoesModel", name := "together", desc := "(II)I" } : Jvm.MethodName)) ∈ sn_gw := sn_in 982 (by decide +kernel) (by decide +kernel)
theorem tw_983 : (Jvm.Cond.code ({ cls := "SureNoesModel", name := "together", desc := "(II)I" } : Jvm.MethodName) prog_12_method_37_code (5 : Nat) (Option.some Jvm.ClassFile.FieldType.int)) ∈ sn_gw := sn_in 983 (by decide +kernel) (by decide +kernel)
theorem tw_984 : (Jvm.Cond.methodLink "SureNoesModel" (173 : Nat) ({ cls := "SureNoesModel", name := "layerPlace", desc := "(III)I" } : Jvm.MethodName)) ∈ sn_gw := sn_in 984 (by decide +kernel) (by decide +kernel)
theorem tw_986 : (Jvm.Cond.instanceMethod ({ cls := "SureNoesModel", name := "layerPlace", desc := "(III)I" } : Jvm.MethodName)) ∈ sn_gw := sn_in 986 (by decide +kernel) (by decide +kernel)
theorem tw_987 : (Jvm.Cond.code ({ cls := "SureNoesModel", name := "layerPlace", desc := "(III)I" } : Jvm.MethodName) prog_12_method_36_code (4 : Nat) (Option.some Jvm.ClassFile.FieldType.int)) ∈ sn_gw := sn_in 987 (by decide +kernel) (by decide +kernel)
theorem tw_988 : (Jvm.Cond.methodLink "SureNoesModel" (176 : Nat) ({ cls := "SureNoesModel", name := "filled", desc := "(I)J" } : Jvm.MethodName)) ∈ sn_gw := sn_in 988 (by decide +kernel) (by decide +kernel)
theorem tw_990 : (Jvm.Cond.instanceMethod ({ cls := "SureNoesModel", name := "filled", desc := "(I)J" } : Jvm.MethodName)) ∈ sn_gw := sn_in 990 (by decide +kernel) (by decide +kernel)
theorem tw_991 : (Jvm.Cond.code ({ cls := "SureNoesModel", name := "filled", desc := "(I)J" } : Jvm.MethodName) prog_12_method_34_code (5 : Nat) (Option.some Jvm.ClassFile.FieldType.long)) ∈ sn_gw := sn_in 991 (by decide +kernel) (by decide +kernel)
theorem tw_992 : (Jvm.Cond.constantLong "SureNoesModel" (179 : Nat) (-1 : Int64)) ∈ sn_gw := sn_in 992 (by decide +kernel) (by decide +kernel)
theorem tw_993 : (Jvm.Cond.methodLink "SureNoesModel" (185 : Nat) ({ cls := "SureNoesModel", name := "push", desc := "(II)Z" } : Jvm.MethodName)) ∈ sn_gw := sn_in 993 (by decide +kernel) (by decide +kernel)
theorem tw_995 : (Jvm.Cond.instanceMethod ({ cls := "SureNoesModel", name := "push", desc := "(II)Z" } : Jvm.MethodName)) ∈ sn_gw := sn_in 995 (by decide +kernel) (by decide +kernel)
theorem tw_996 : (Jvm.Cond.code ({ cls := "SureNoesModel", name := "push", desc := "(II)Z" } : Jvm.MethodName) prog_12_method_38_code (10 : Nat) (Option.some Jvm.ClassFile.FieldType.boolean)) ∈ sn_gw := sn_in 996 (by decide +kernel) (by decide +kernel)
theorem tw_997 : (Jvm.Cond.methodLink "SureNoesLaw" (71 : Nat) ({ cls := "SureNoesModel", name := "take", desc := "(II)I" } : Jvm.MethodName)) ∈ sn_gw := sn_in 997 (by decide +kernel) (by decide +kernel)
theorem tw_998 : (Jvm.Cond.instanceMethod ({ cls := "SureNoesModel", name := "take", desc := "(II)I" } : Jvm.MethodName)) ∈ sn_gw := sn_in 998 (by decide +kernel) (by decide +kernel)
theorem tw_999 : (Jvm.Cond.selects "SureNoesModel" ({ cls := "SureNoesModel", name := "take", desc := "(II)I" } : Jvm.MethodName) ({ cls := "SureNoesModel", name := "take", desc := "(II)I" } : Jvm.MethodName)) ∈ sn_gw := sn_in 999 (by decide +kernel) (by decide +kernel)
theorem tw_1000 : (Jvm.Cond.code ({ cls := "SureNoesModel", name := "take", desc := "(II)I" } : Jvm.MethodName) prog_12_method_40_code (8 : Nat) (Option.some Jvm.ClassFile.FieldType.int)) ∈ sn_gw := sn_in 1000 (by decide +kernel) (by decide +kernel)
theorem tw_1001 : (Jvm.Cond.methodLink "SureNoesLaw" (76 : Nat) ({ cls := "SureNoesModel", name := "build", desc := "(IJJ)I" } : Jvm.MethodName)) ∈ sn_gw := sn_in 1001 (by decide +kernel) (by decide +kernel)
theorem tw_1002 : (Jvm.Cond.instanceMethod ({ cls := "SureNoesModel", name := "build", desc := "(IJJ)I" } : Jvm.MethodName)) ∈ sn_gw := sn_in 1002 (by decide +kernel) (by decide +kernel)
theorem tw_1003 : (Jvm.Cond.selects "SureNoesModel" ({ cls := "SureNoesModel", name := "build", desc := "(IJJ)I" } : Jvm.MethodName) ({ cls := "SureNoesModel", name := "build", desc := "(IJJ)I" } : Jvm.MethodName)) ∈ sn_gw := sn_in 1003 (by decide +kernel) (by decide +kernel)
theorem tw_1004 : (Jvm.Cond.code ({ cls := "SureNoesModel", name := "build", desc := "(IJJ)I" } : Jvm.MethodName) prog_12_method_45_code (9 : Nat) (Option.some Jvm.ClassFile.FieldType.int)) ∈ sn_gw := sn_in 1004 (by decide +kernel) (by decide +kernel)
theorem tw_1005 : (Jvm.Cond.methodLink "SureNoesModel" (199 : Nat) ({ cls := "SureNoesModel", name := "fold", desc := "(IJ)Z" } : Jvm.MethodName)) ∈ sn_gw := sn_in 1005 (by decide +kernel) (by decide +kernel)
theorem tw_1007 : (Jvm.Cond.instanceMethod ({ cls := "SureNoesModel", name := "fold", desc := "(IJ)Z" } : Jvm.MethodName)) ∈ sn_gw := sn_in 1007 (by decide +kernel) (by decide +kernel)
theorem tw_1008 : (Jvm.Cond.code ({ cls := "SureNoesModel", name := "fold", desc := "(IJ)Z" } : Jvm.MethodName) prog_12_method_42_code (8 : Nat) (Option.some Jvm.ClassFile.FieldType.boolean)) ∈ sn_gw := sn_in 1008 (by decide +kernel) (by decide +kernel)
theorem tw_1009 : (Jvm.Cond.methodLink "SureNoesModel" (191 : Nat) ({ cls := "SureNoesModel", name := "lonePlace", desc := "(IJ)I" } : Jvm.MethodName)) ∈ sn_gw := sn_in 1009 (by decide +kernel) (by decide +kernel)
theorem tw_1011 : (Jvm.Cond.instanceMethod ({ cls := "SureNoesModel", name := "lonePlace", desc := "(IJ)I" } : Jvm.MethodName)) ∈ sn_gw := sn_in 1011 (by decide +kernel) (by decide +kernel)
theorem tw_1012 : (Jvm.Cond.code ({ cls := "SureNoesModel", name := "lonePlace", desc := "(IJ)I" } : Jvm.MethodName) prog_12_method_41_code (7 : Nat) (Option.some Jvm.ClassFile.FieldType.int)) ∈ sn_gw := sn_in 1012 (by decide +kernel) (by decide +kernel)
theorem tw_1013 : (Jvm.Cond.methodLink "SureNoesModel" (203 : Nat) ({ cls := "SureNoesModel", name := "layer", desc := "(IJJ)Z" } : Jvm.MethodName)) ∈ sn_gw := sn_in 1013 (by decide +kernel) (by decide +kernel)
theorem tw_1015 : (Jvm.Cond.instanceMethod ({ cls := "SureNoesModel", name := "layer", desc := "(IJJ)Z" } : Jvm.MethodName)) ∈ sn_gw := sn_in 1015 (by decide +kernel) (by decide +kernel)
theorem tw_1016 : (Jvm.Cond.code ({ cls := "SureNoesModel", name := "layer", desc := "(IJJ)Z" } : Jvm.MethodName) prog_12_method_43_code (15 : Nat) (Option.some Jvm.ClassFile.FieldType.boolean)) ∈ sn_gw := sn_in 1016 (by decide +kernel) (by decide +kernel)
theorem tw_1017 : (Jvm.Cond.methodLink "SureNoesModel" (195 : Nat) ({ cls := "SureNoesModel", name := "thoseIn", desc := "(IIJ)J" } : Jvm.MethodName)) ∈ sn_gw := sn_in 1017 (by decide +kernel) (by decide +kernel)
theorem tw_1019 : (Jvm.Cond.instanceMethod ({ cls := "SureNoesModel", name := "thoseIn", desc := "(IIJ)J" } : Jvm.MethodName)) ∈ sn_gw := sn_in 1019 (by decide +kernel) (by decide +kernel)
theorem tw_1020 : (Jvm.Cond.code ({ cls := "SureNoesModel", name := "thoseIn", desc := "(IIJ)J" } : Jvm.MethodName) prog_12_method_44_code (8 : Nat) (Option.some Jvm.ClassFile.FieldType.long)) ∈ sn_gw := sn_in 1020 (by decide +kernel) (by decide +kernel)
theorem tw_1021 : (Jvm.Cond.methodLink "SureNoesLaw" (80 : Nat) ({ cls := "SureNoesModel", name := "real", desc := "(II)I" } : Jvm.MethodName)) ∈ sn_gw := sn_in 1021 (by decide +kernel) (by decide +kernel)
theorem tw_1022 : (Jvm.Cond.instanceMethod ({ cls := "SureNoesModel", name := "real", desc := "(II)I" } : Jvm.MethodName)) ∈ sn_gw := sn_in 1022 (by decide +kernel) (by decide +kernel)
theorem tw_1023 : (Jvm.Cond.selects "SureNoesModel" ({ cls := "SureNoesModel", name := "real", desc := "(II)I" } : Jvm.MethodName) ({ cls := "SureNoesModel", name := "real", desc := "(II)I" } : Jvm.MethodName)) ∈ sn_gw := sn_in 1023 (by decide +kernel) (by decide +kernel)
theorem tw_1024 : (Jvm.Cond.code ({ cls := "SureNoesModel", name := "real", desc := "(II)I" } : Jvm.MethodName) prog_12_method_46_code (3 : Nat) (Option.some Jvm.ClassFile.FieldType.int)) ∈ sn_gw := sn_in 1024 (by decide +kernel) (by decide +kernel)
theorem tw_1025 : (Jvm.Cond.methodLink "SureNoesLaw" (84 : Nat) ({ cls := "SureNoesModel", name := "keys", desc := "(II)J" } : Jvm.MethodName)) ∈ sn_gw := sn_in 1025 (by decide +kernel) (by decide +kernel)
theorem tw_1026 : (Jvm.Cond.instanceMethod ({ cls := "SureNoesModel", name := "keys", desc := "(II)J" } : Jvm.MethodName)) ∈ sn_gw := sn_in 1026 (by decide +kernel) (by decide +kernel)
theorem tw_1027 : (Jvm.Cond.selects "SureNoesModel" ({ cls := "SureNoesModel", name := "keys", desc := "(II)J" } : Jvm.MethodName) ({ cls := "SureNoesModel", name := "keys", desc := "(II)J" } : Jvm.MethodName)) ∈ sn_gw := sn_in 1027 (by decide +kernel) (by decide +kernel)
theorem tw_1028 : (Jvm.Cond.code ({ cls := "SureNoesModel", name := "keys", desc := "(II)J" } : Jvm.MethodName) prog_12_method_49_code (3 : Nat) (Option.some Jvm.ClassFile.FieldType.long)) ∈ sn_gw := sn_in 1028 (by decide +kernel) (by decide +kernel)
theorem tw_1029 : (Jvm.Cond.methodLink "SureNoesModel" (210 : Nat) ({ cls := "SureNoesModel", name := "keysOf", desc := "(II)J" } : Jvm.MethodName)) ∈ sn_gw := sn_in 1029 (by decide +kernel) (by decide +kernel)
theorem tw_1031 : (Jvm.Cond.instanceMethod ({ cls := "SureNoesModel", name := "keysOf", desc := "(II)J" } : Jvm.MethodName)) ∈ sn_gw := sn_in 1031 (by decide +kernel) (by decide +kernel)
theorem tw_1032 : (Jvm.Cond.code ({ cls := "SureNoesModel", name := "keysOf", desc := "(II)J" } : Jvm.MethodName) prog_12_method_48_code (7 : Nat) (Option.some Jvm.ClassFile.FieldType.long)) ∈ sn_gw := sn_in 1032 (by decide +kernel) (by decide +kernel)
theorem tw_1033 : (Jvm.Cond.methodLink "SureNoesModel" (207 : Nat) ({ cls := "SureNoesModel", name := "allIn", desc := "(I)J" } : Jvm.MethodName)) ∈ sn_gw := sn_in 1033 (by decide +kernel) (by decide +kernel)
theorem tw_1035 : (Jvm.Cond.instanceMethod ({ cls := "SureNoesModel", name := "allIn", desc := "(I)J" } : Jvm.MethodName)) ∈ sn_gw := sn_in 1035 (by decide +kernel) (by decide +kernel)
theorem tw_1036 : (Jvm.Cond.code ({ cls := "SureNoesModel", name := "allIn", desc := "(I)J" } : Jvm.MethodName) prog_12_method_47_code (5 : Nat) (Option.some Jvm.ClassFile.FieldType.long)) ∈ sn_gw := sn_in 1036 (by decide +kernel) (by decide +kernel)
theorem tw_1037 : (Jvm.Cond.constantLong "SureNoesModel" (213 : Nat) (-102 : Int64)) ∈ sn_gw := sn_in 1037 (by decide +kernel) (by decide +kernel)
theorem tw_1038 : (Jvm.Cond.methodLink "SureNoesLaw" (89 : Nat) ({ cls := "SureNoesModel", name := "join", desc := "(IIZ)I" } : Jvm.MethodName)) ∈ sn_gw := sn_in 1038 (by decide +kernel) (by decide +kernel)
theorem tw_1039 : (Jvm.Cond.instanceMethod ({ cls := "SureNoesModel", name := "join", desc := "(IIZ)I" } : Jvm.MethodName)) ∈ sn_gw := sn_in 1039 (by decide +kernel) (by decide +kernel)
theorem tw_1040 : (Jvm.Cond.selects "SureNoesModel" ({ cls := "SureNoesModel", name := "join", desc := "(IIZ)I" } : Jvm.MethodName) ({ cls := "SureNoesModel", name := "join", desc := "(IIZ)I" } : Jvm.MethodName)) ∈ sn_gw := sn_in 1040 (by decide +kernel) (by decide +kernel)
theorem tw_1041 : (Jvm.Cond.code ({ cls := "SureNoesModel", name := "join", desc := "(IIZ)I" } : Jvm.MethodName) prog_12_method_51_code (6 : Nat) (Option.some Jvm.ClassFile.FieldType.int)) ∈ sn_gw := sn_in 1041 (by decide +kernel) (by decide +kernel)
theorem tw_1042 : (Jvm.Cond.methodLink "SureNoesModel" (215 : Nat) ({ cls := "SureNoesModel", name := "chosen", desc := "(IIZ)I" } : Jvm.MethodName)) ∈ sn_gw := sn_in 1042 (by decide +kernel) (by decide +kernel)
theorem tw_1043 : (Jvm.Cond.static ({ cls := "SureNoesModel", name := "chosen", desc := "(IIZ)I" } : Jvm.MethodName)) ∈ sn_gw := sn_in 1043 (by decide +kernel) (by decide +kernel)
theorem tw_1044 : (Jvm.Cond.code ({ cls := "SureNoesModel", name := "chosen", desc := "(IIZ)I" } : Jvm.MethodName) prog_12_method_50_code (3 : Nat) (Option.some Jvm.ClassFile.FieldType.int)) ∈ sn_gw := sn_in 1044 (by decide +kernel) (by decide +kernel)
theorem tw_1045 : (Jvm.Cond.methodLink "SureNoesLaw" (94 : Nat) ({ cls := "SureNoesModel", name := "halve", desc := "(I)I" } : Jvm.MethodName)) ∈ sn_gw := sn_in 1045 (by decide +kernel) (by decide +kernel)
theorem tw_1046 : (Jvm.Cond.instanceMethod ({ cls := "SureNoesModel", name := "halve", desc := "(I)I" } : Jvm.MethodName)) ∈ sn_gw := sn_in 1046 (by decide +kernel) (by decide +kernel)
theorem tw_1047 : (Jvm.Cond.selects "SureNoesModel" ({ cls := "SureNoesModel", name := "halve", desc := "(I)I" } : Jvm.MethodName) ({ cls := "SureNoesModel", name := "halve", desc := "(I)I" } : Jvm.MethodName)) ∈ sn_gw := sn_in 1047 (by decide +kernel) (by decide +kernel)
theorem tw_1048 : (Jvm.Cond.code ({ cls := "SureNoesModel", name := "halve", desc := "(I)I" } : Jvm.MethodName) prog_12_method_52_code (4 : Nat) (Option.some Jvm.ClassFile.FieldType.int)) ∈ sn_gw := sn_in 1048 (by decide +kernel) (by decide +kernel)
theorem tw_1049 : (Jvm.Cond.methodLink "SureNoesLaw" (98 : Nat) ({ cls := "SureNoesModel", name := "spoil", desc := "(II)J" } : Jvm.MethodName)) ∈ sn_gw := sn_in 1049 (by decide +kernel) (by decide +kernel)
theorem tw_1050 : (Jvm.Cond.instanceMethod ({ cls := "SureNoesModel", name := "spoil", desc := "(II)J" } : Jvm.MethodName)) ∈ sn_gw := sn_in 1050 (by decide +kernel) (by decide +kernel)
theorem tw_1051 : (Jvm.Cond.selects "SureNoesModel" ({ cls := "SureNoesModel", name := "spoil", desc := "(II)J" } : Jvm.MethodName) ({ cls := "SureNoesModel", name := "spoil", desc := "(II)J" } : Jvm.MethodName)) ∈ sn_gw := sn_in 1051 (by decide +kernel) (by decide +kernel)
theorem tw_1052 : (Jvm.Cond.code ({ cls := "SureNoesModel", name := "spoil", desc := "(II)J" } : Jvm.MethodName) prog_12_method_54_code (8 : Nat) (Option.some Jvm.ClassFile.FieldType.long)) ∈ sn_gw := sn_in 1052 (by decide +kernel) (by decide +kernel)
theorem tw_1053 : (Jvm.Cond.constantLong "SureNoesModel" (219 : Nat) (-103 : Int64)) ∈ sn_gw := sn_in 1053 (by decide +kernel) (by decide +kernel)
theorem tw_1054 : (Jvm.Cond.methodLink "SureNoesModel" (221 : Nat) ({ cls := "SureNoesModel", name := "layPlaces", desc := "(I)V" } : Jvm.MethodName)) ∈ sn_gw := sn_in 1054 (by decide +kernel) (by decide +kernel)
theorem tw_1056 : (Jvm.Cond.instanceMethod ({ cls := "SureNoesModel", name := "layPlaces", desc := "(I)V" } : Jvm.MethodName)) ∈ sn_gw := sn_in 1056 (by decide +kernel) (by decide +kernel)
theorem tw_1057 : (Jvm.Cond.code ({ cls := "SureNoesModel", name := "layPlaces", desc := "(I)V" } : Jvm.MethodName) prog_12_method_53_code (3 : Nat) (Option.none : Option Jvm.ClassFile.FieldType)) ∈ sn_gw := sn_in 1057 (by decide +kernel) (by decide +kernel)
theorem tw_1058 : (Jvm.Cond.methodLink "SureNoesModel" (225 : Nat) ({ cls := "SureNoesModel", name := "spoilBy", desc := "(IJI)J" } : Jvm.MethodName)) ∈ sn_gw := sn_in 1058 (by decide +kernel) (by decide +kernel)
theorem tw_1060 : (Jvm.Cond.instanceMethod ({ cls := "SureNoesModel", name := "spoilBy", desc := "(IJI)J" } : Jvm.MethodName)) ∈ sn_gw := sn_in 1060 (by decide +kernel) (by decide +kernel)
theorem tw_1061 : (Jvm.Cond.code ({ cls := "SureNoesModel", name := "spoilBy", desc := "(IJI)J" } : Jvm.MethodName) prog_12_method_55_code (13 : Nat) (Option.some Jvm.ClassFile.FieldType.long)) ∈ sn_gw := sn_in 1061 (by decide +kernel) (by decide +kernel)
theorem tw_1062 : (Jvm.Cond.methodLink "SureNoesLaw" (102 : Nat) ({ cls := "SureNoesModel", name := "made", desc := "(II)J" } : Jvm.MethodName)) ∈ sn_gw := sn_in 1062 (by decide +kernel) (by decide +kernel)
theorem tw_1063 : (Jvm.Cond.instanceMethod ({ cls := "SureNoesModel", name := "made", desc := "(II)J" } : Jvm.MethodName)) ∈ sn_gw := sn_in 1063 (by decide +kernel) (by decide +kernel)
theorem tw_1064 : (Jvm.Cond.selects "SureNoesModel" ({ cls := "SureNoesModel", name := "made", desc := "(II)J" } : Jvm.MethodName) ({ cls := "SureNoesModel", name := "made", desc := "(II)J" } : Jvm.MethodName)) ∈ sn_gw := sn_in 1064 (by decide +kernel) (by decide +kernel)
theorem tw_1065 : (Jvm.Cond.code ({ cls := "SureNoesModel", name := "made", desc := "(II)J" } : Jvm.MethodName) prog_12_method_59_code (11 : Nat) (Option.some Jvm.ClassFile.FieldType.long)) ∈ sn_gw := sn_in 1065 (by decide +kernel) (by decide +kernel)
theorem tw_1066 : (Jvm.Cond.methodLink "SureNoesModel" (233 : Nat) ({ cls := "SureNoesModel", name := "unionOf", desc := "(JI)J" } : Jvm.MethodName)) ∈ sn_gw := sn_in 1066 (by decide +kernel) (by decide +kernel)
theorem tw_1068 : (Jvm.Cond.instanceMethod ({ cls := "SureNoesModel", name := "unionOf", desc := "(JI)J" } : Jvm.MethodName)) ∈ sn_gw := sn_in 1068 (by decide +kernel) (by decide +kernel)
theorem tw_1069 : (Jvm.Cond.code ({ cls := "SureNoesModel", name := "unionOf", desc := "(JI)J" } : Jvm.MethodName) prog_12_method_58_code (7 : Nat) (Option.some Jvm.ClassFile.FieldType.long)) ∈ sn_gw := sn_in 1069 (by decide +kernel) (by decide +kernel)
theorem tw_1070 : (Jvm.Cond.constantLong "SureNoesModel" (237 : Nat) (-2 : Int64)) ∈ sn_gw := sn_in 1070 (by decide +kernel) (by decide +kernel)
theorem tw_1071 : (Jvm.Cond.methodLink "SureNoesModel" (239 : Nat) ({ cls := "SureNoesModel", name := "cover", desc := "(JJ)V" } : Jvm.MethodName)) ∈ sn_gw := sn_in 1071 (by decide +kernel) (by decide +kernel)
theorem tw_1073 : (Jvm.Cond.instanceMethod ({ cls := "SureNoesModel", name := "cover", desc := "(JJ)V" } : Jvm.MethodName)) ∈ sn_gw := sn_in 1073 (by decide +kernel) (by decide +kernel)
theorem tw_1074 : (Jvm.Cond.code ({ cls := "SureNoesModel", name := "cover", desc := "(JJ)V" } : Jvm.MethodName) prog_12_method_57_code (13 : Nat) (Option.none : Option Jvm.ClassFile.FieldType)) ∈ sn_gw := sn_in 1074 (by decide +kernel) (by decide +kernel)
theorem tw_1075 : (Jvm.Cond.methodLink "SureNoesModel" (229 : Nat) ({ cls := "SureNoesModel", name := "folded", desc := "(JJ)I" } : Jvm.MethodName)) ∈ sn_gw := sn_in 1075 (by decide +kernel) (by decide +kernel)
theorem tw_1076 : (Jvm.Cond.static ({ cls := "SureNoesModel", name := "folded", desc := "(JJ)I" } : Jvm.MethodName)) ∈ sn_gw := sn_in 1076 (by decide +kernel) (by decide +kernel)
theorem tw_1077 : (Jvm.Cond.code ({ cls := "SureNoesModel", name := "folded", desc := "(JJ)I" } : Jvm.MethodName) prog_12_method_56_code (7 : Nat) (Option.some Jvm.ClassFile.FieldType.int)) ∈ sn_gw := sn_in 1077 (by decide +kernel) (by decide +kernel)
theorem tw_1078 : (Jvm.Cond.methodLink "SureNoesLaw" (107 : Nat) ({ cls := "SureNoesModel", name := "order", desc := "(IJI)I" } : Jvm.MethodName)) ∈ sn_gw := sn_in 1078 (by decide +kernel) (by decide +kernel)
theorem tw_1079 : (Jvm.Cond.instanceMethod ({ cls := "SureNoesModel", name := "order", desc := "(IJI)I" } : Jvm.MethodName)) ∈ sn_gw := sn_in 1079 (by decide +kernel) (by decide +kernel)
theorem tw_1080 : (Jvm.Cond.selects "SureNoesModel" ({ cls := "SureNoesModel", name := "order", desc := "(IJI)I" } : Jvm.MethodName) ({ cls := "SureNoesModel", name := "order", desc := "(IJI)I" } : Jvm.MethodName)) ∈ sn_gw := sn_in 1080 (by decide +kernel) (by decide +kernel)
theorem tw_1081 : (Jvm.Cond.code ({ cls := "SureNoesModel", name := "order", desc := "(IJI)I" } : Jvm.MethodName) prog_12_method_62_code (8 : Nat) (Option.some Jvm.ClassFile.FieldType.int)) ∈ sn_gw := sn_in 1081 (by decide +kernel) (by decide +kernel)
theorem tw_1082 : (Jvm.Cond.methodLink "SureNoesModel" (243 : Nat) ({ cls := "SureNoesModel", name := "layOrder", desc := "(II)V" } : Jvm.MethodName)) ∈ sn_gw := sn_in 1082 (by decide +kernel) (by decide +kernel)
theorem tw_1084 : (Jvm.Cond.instanceMethod ({ cls := "SureNoesModel", name := "layOrder", desc := "(II)V" } : Jvm.MethodName)) ∈ sn_gw := sn_in 1084 (by decide +kernel) (by decide +kernel)
theorem tw_1085 : (Jvm.Cond.code ({ cls := "SureNoesModel", name := "layOrder", desc := "(II)V" } : Jvm.MethodName) prog_12_method_60_code (9 : Nat) (Option.none : Option Jvm.ClassFile.FieldType)) ∈ sn_gw := sn_in 1085 (by decide +kernel) (by decide +kernel)
theorem tw_1086 : (Jvm.Cond.methodLink "SureNoesModel" (247 : Nat) ({ cls := "SureNoesModel", name := "goes", desc := "(II)Z" } : Jvm.MethodName)) ∈ sn_gw := sn_in 1086 (by decide +kernel) (by decide +kernel)
theorem tw_1088 : (Jvm.Cond.instanceMethod ({ cls := "SureNoesModel", name := "goes", desc := "(II)Z" } : Jvm.MethodName)) ∈ sn_gw := sn_in 1088 (by decide +kernel) (by decide +kernel)
theorem tw_1089 : (Jvm.Cond.code ({ cls := "SureNoesModel", name := "goes", desc := "(II)Z" } : Jvm.MethodName) prog_12_method_61_code (5 : Nat) (Option.some Jvm.ClassFile.FieldType.boolean)) ∈ sn_gw := sn_in 1089 (by decide +kernel) (by decide +kernel)
theorem tw_1090 : (Jvm.Cond.methodLink "SureNoesLaw" (112 : Nat) ({ cls := "SureNoesModel", name := "most", desc := "(IJ)I" } : Jvm.MethodName)) ∈ sn_gw := sn_in 1090 (by decide +kernel) (by decide +kernel)
theorem tw_1091 : (Jvm.Cond.instanceMethod ({ cls := "SureNoesModel", name := "most", desc := "(IJ)I" } : Jvm.MethodName)) ∈ sn_gw := sn_in 1091 (by decide +kernel) (by decide +kernel)
theorem tw_1092 : (Jvm.Cond.selects "SureNoesModel" ({ cls := "SureNoesModel", name := "most", desc := "(IJ)I" } : Jvm.MethodName) ({ cls := "SureNoesModel", name := "most", desc := "(IJ)I" } : Jvm.MethodName)) ∈ sn_gw := sn_in 1092 (by decide +kernel) (by decide +kernel)
theorem tw_1093 : (Jvm.Cond.code ({ cls := "SureNoesModel", name := "most", desc := "(IJ)I" } : Jvm.MethodName) prog_12_method_64_code (9 : Nat) (Option.some Jvm.ClassFile.FieldType.int)) ∈ sn_gw := sn_in 1093 (by decide +kernel) (by decide +kernel)
theorem tw_1094 : (Jvm.Cond.methodLink "SureNoesModel" (250 : Nat) ({ cls := "SureNoesModel", name := "head", desc := "(I)I" } : Jvm.MethodName)) ∈ sn_gw := sn_in 1094 (by decide +kernel) (by decide +kernel)
theorem tw_1096 : (Jvm.Cond.instanceMethod ({ cls := "SureNoesModel", name := "head", desc := "(I)I" } : Jvm.MethodName)) ∈ sn_gw := sn_in 1096 (by decide +kernel) (by decide +kernel)
theorem tw_1097 : (Jvm.Cond.code ({ cls := "SureNoesModel", name := "head", desc := "(I)I" } : Jvm.MethodName) prog_12_method_63_code (3 : Nat) (Option.some Jvm.ClassFile.FieldType.int)) ∈ sn_gw := sn_in 1097 (by decide +kernel) (by decide +kernel)
theorem tw_1098 : (Jvm.Cond.methodLink "SureNoesLaw" (116 : Nat) ({ cls := "SureNoesModel", name := "count", desc := "(I)I" } : Jvm.MethodName)) ∈ sn_gw := sn_in 1098 (by decide +kernel) (by decide +kernel)
theorem tw_1099 : (Jvm.Cond.instanceMethod ({ cls := "SureNoesModel", name := "count", desc := "(I)I" } : Jvm.MethodName)) ∈ sn_gw := sn_in 1099 (by decide +kernel) (by decide +kernel)
theorem tw_1100 : (Jvm.Cond.selects "SureNoesModel" ({ cls := "SureNoesModel", name := "count", desc := "(I)I" } : Jvm.MethodName) ({ cls := "SureNoesModel", name := "count", desc := "(I)I" } : Jvm.MethodName)) ∈ sn_gw := sn_in 1100 (by decide +kernel) (by decide +kernel)
theorem tw_1101 : (Jvm.Cond.code ({ cls := "SureNoesModel", name := "count", desc := "(I)I" } : Jvm.MethodName) prog_12_method_66_code (2 : Nat) (Option.some Jvm.ClassFile.FieldType.int)) ∈ sn_gw := sn_in 1101 (by decide +kernel) (by decide +kernel)
theorem tw_1102 : (Jvm.Cond.methodLink "SureNoesModel" (253 : Nat) ({ cls := "SureNoesModel", name := "howMany", desc := "(I)I" } : Jvm.MethodName)) ∈ sn_gw := sn_in 1102 (by decide +kernel) (by decide +kernel)
theorem tw_1104 : (Jvm.Cond.instanceMethod ({ cls := "SureNoesModel", name := "howMany", desc := "(I)I" } : Jvm.MethodName)) ∈ sn_gw := sn_in 1104 (by decide +kernel) (by decide +kernel)
theorem tw_1105 : (Jvm.Cond.code ({ cls := "SureNoesModel", name := "howMany", desc := "(I)I" } : Jvm.MethodName) prog_12_method_65_code (7 : Nat) (Option.some Jvm.ClassFile.FieldType.int)) ∈ sn_gw := sn_in 1105 (by decide +kernel) (by decide +kernel)
theorem tw_1106 : (Jvm.Cond.methodLink "SureNoesLaw" (121 : Nat) ({ cls := "SureNoesModel", name := "digest", desc := "()J" } : Jvm.MethodName)) ∈ sn_gw := sn_in 1106 (by decide +kernel) (by decide +kernel)
theorem tw_1107 : (Jvm.Cond.instanceMethod ({ cls := "SureNoesModel", name := "digest", desc := "()J" } : Jvm.MethodName)) ∈ sn_gw := sn_in 1107 (by decide +kernel) (by decide +kernel)
theorem tw_1108 : (Jvm.Cond.selects "SureNoesModel" ({ cls := "SureNoesModel", name := "digest", desc := "()J" } : Jvm.MethodName) ({ cls := "SureNoesModel", name := "digest", desc := "()J" } : Jvm.MethodName)) ∈ sn_gw := sn_in 1108 (by decide +kernel) (by decide +kernel)
theorem tw_1109 : (Jvm.Cond.code ({ cls := "SureNoesModel", name := "digest", desc := "()J" } : Jvm.MethodName) prog_12_method_68_code (3 : Nat) (Option.some Jvm.ClassFile.FieldType.long)) ∈ sn_gw := sn_in 1109 (by decide +kernel) (by decide +kernel)
theorem tw_1110 : (Jvm.Cond.constantLong "SureNoesModel" (260 : Nat) (367 : Int64)) ∈ sn_gw := sn_in 1110 (by decide +kernel) (by decide +kernel)
theorem tw_1111 : (Jvm.Cond.methodLink "SureNoesModel" (262 : Nat) ({ cls := "SureNoesModel", name := "mix", desc := "(J)V" } : Jvm.MethodName)) ∈ sn_gw := sn_in 1111 (by decide +kernel) (by decide +kernel)
theorem tw_1113 : (Jvm.Cond.instanceMethod ({ cls := "SureNoesModel", name := "mix", desc := "(J)V" } : Jvm.MethodName)) ∈ sn_gw := sn_in 1113 (by decide +kernel) (by decide +kernel)
theorem tw_1114 : (Jvm.Cond.code ({ cls := "SureNoesModel", name := "mix", desc := "(J)V" } : Jvm.MethodName) prog_12_method_67_code (3 : Nat) (Option.none : Option Jvm.ClassFile.FieldType)) ∈ sn_gw := sn_in 1114 (by decide +kernel) (by decide +kernel)
theorem tw_1115 : (Jvm.Cond.constantLong "SureNoesLaw" (22 : Nat) (4294967295 : Int64)) ∈ sn_gw := sn_in 1115 (by decide +kernel) (by decide +kernel)
theorem tw_1116 : (Jvm.Cond.sameMethod "SureNoes$Plain" "SureNoes$Plain" "placeBits" "(I)J") ∈ sn_gw := sn_in 1116 (by decide +kernel) (by decide +kernel)
theorem tw_1117 : (Jvm.Cond.selects "SureNoes$Counted" ({ cls := "SureNoes$Plain", name := "placeBits", desc := "(I)J" } : Jvm.MethodName) ({ cls := "SureNoes$Plain", name := "placeBits", desc := "(I)J" } : Jvm.MethodName)) ∈ sn_gw := sn_in 1117 (by decide +kernel) (by decide +kernel)
theorem tw_1118 : (Jvm.Cond.selects "SureNoes$Folded" ({ cls := "SureNoes$Plain", name := "placeBits", desc := "(I)J" } : Jvm.MethodName) ({ cls := "SureNoes$Parted", name := "placeBits", desc := "(I)J" } : Jvm.MethodName)) ∈ sn_gw := sn_in 1118 (by decide +kernel) (by decide +kernel)
theorem tw_1119 : (Jvm.Cond.selects "SureNoes$Layered" ({ cls := "SureNoes$Plain", name := "placeBits", desc := "(I)J" } : Jvm.MethodName) ({ cls := "SureNoes$Plain", name := "placeBits", desc := "(I)J" } : Jvm.MethodName)) ∈ sn_gw := sn_in 1119 (by decide +kernel) (by decide +kernel)
theorem tw_1120 : (Jvm.Cond.selects "SureNoes$Parted" ({ cls := "SureNoes$Plain", name := "placeBits", desc := "(I)J" } : Jvm.MethodName) ({ cls := "SureNoes$Parted", name := "placeBits", desc := "(I)J" } : Jvm.MethodName)) ∈ sn_gw := sn_in 1120 (by decide +kernel) (by decide +kernel)
theorem tw_1121 : (Jvm.Cond.selects "SureNoes$Plain" ({ cls := "SureNoes$Plain", name := "placeBits", desc := "(I)J" } : Jvm.MethodName) ({ cls := "SureNoes$Plain", name := "placeBits", desc := "(I)J" } : Jvm.MethodName)) ∈ sn_gw := sn_in 1121 (by decide +kernel) (by decide +kernel)
theorem tn_1122 : (Jvm.Cond.castable "SureNoes$Counted" "SureNoes$Plain") ∈ lw_tbl := sn_inN 1122 (by decide +kernel)
theorem tn_1123 : (Jvm.Cond.castable "SureNoes$Folded" "SureNoes$Plain") ∈ lw_tbl := sn_inN 1123 (by decide +kernel)
theorem tn_1124 : (Jvm.Cond.castable "SureNoes$Layered" "SureNoes$Plain") ∈ lw_tbl := sn_inN 1124 (by decide +kernel)
theorem tn_1125 : (Jvm.Cond.castable "SureNoes$Parted" "SureNoes$Plain") ∈ lw_tbl := sn_inN 1125 (by decide +kernel)
theorem tn_1126 : (Jvm.Cond.castable "SureNoes$Folded" "SureNoes$Parted") ∈ lw_tbl := sn_inN 1126 (by decide +kernel)
theorem tn_1127 : (Jvm.Cond.castable "SureNoes$Plain" "SureNoes$Book") ∈ lw_tbl := sn_inN 1127 (by decide +kernel)
theorem tn_1128 : (Jvm.Cond.castable "SureNoes$Counted" "SureNoes$Book") ∈ lw_tbl := sn_inN 1128 (by decide +kernel)
theorem tn_1129 : (Jvm.Cond.castable "SureNoes$Parted" "SureNoes$Book") ∈ lw_tbl := sn_inN 1129 (by decide +kernel)
theorem tn_1130 : (Jvm.Cond.castable "SureNoes$Pushed" "SureNoes$Book") ∈ lw_tbl := sn_inN 1130 (by decide +kernel)
theorem tn_1131 : (Jvm.Cond.castable "SureNoes$Folded" "SureNoes$Book") ∈ lw_tbl := sn_inN 1131 (by decide +kernel)
theorem tn_1132 : (Jvm.Cond.castable "SureNoes$Layered" "SureNoes$Book") ∈ lw_tbl := sn_inN 1132 (by decide +kernel)
theorem tp_0 : (Jvm.Cond.selects "SureNoes" ⟨"SureNoes", "isLaw", "(I)Z"⟩ ⟨"SureNoes", "isLaw", "(I)Z"⟩) ∈ sn_gw := sn_inP 0 (by decide +kernel) (by decide +kernel)
theorem tp_1 : (Jvm.Cond.selects "SureNoes" ⟨"SureNoes", "areLawsFor", "(II)Z"⟩ ⟨"SureNoes", "areLawsFor", "(II)Z"⟩) ∈ sn_gw := sn_inP 1 (by decide +kernel) (by decide +kernel)
theorem tp_2 : (Jvm.Cond.selects "SureNoes" ⟨"SureNoes", "lawsOf", "(I)[LSureNoes$Law;"⟩ ⟨"SureNoes", "lawsOf", "(I)[LSureNoes$Law;"⟩) ∈ sn_gw := sn_inP 2 (by decide +kernel) (by decide +kernel)
theorem tp_3 : (Jvm.Cond.selects "SureNoes" ⟨"SureNoes", "keep", "(LSureNoes$Book;)I"⟩ ⟨"SureNoes", "keep", "(LSureNoes$Book;)I"⟩) ∈ sn_gw := sn_inP 3 (by decide +kernel) (by decide +kernel)
theorem tp_4 : (Jvm.Cond.selects "SureNoes" ⟨"SureNoes", "find", "(I)LSureNoes$Book;"⟩ ⟨"SureNoes", "find", "(I)LSureNoes$Book;"⟩) ∈ sn_gw := sn_inP 4 (by decide +kernel) (by decide +kernel)
theorem tp_5 : (Jvm.Cond.selects "SureNoes$Pushed" ⟨"SureNoes$Pushed", "firstPlace", "(I)I"⟩ ⟨"SureNoes$Pushed", "firstPlace", "(I)I"⟩) ∈ sn_gw := sn_inP 5 (by decide +kernel) (by decide +kernel)
theorem tp_6 : (Jvm.Cond.selects "SureNoes$Pushed" ⟨"SureNoes$Pushed", "markOf", "(I)I"⟩ ⟨"SureNoes$Pushed", "markOf", "(I)I"⟩) ∈ sn_gw := sn_inP 6 (by decide +kernel) (by decide +kernel)
theorem tp_7 : (Jvm.Cond.selects "SureNoes$Pushed" ⟨"SureNoes$Pushed", "otherPlace", "(II)I"⟩ ⟨"SureNoes$Pushed", "otherPlace", "(II)I"⟩) ∈ sn_gw := sn_inP 7 (by decide +kernel) (by decide +kernel)
theorem tp_8 : (Jvm.Cond.selects "SureNoes$Folded" ⟨"SureNoes$Folded", "together", "(J)I"⟩ ⟨"SureNoes$Folded", "together", "(J)I"⟩) ∈ sn_gw := sn_inP 8 (by decide +kernel) (by decide +kernel)
theorem tp_9 : (Jvm.Cond.selects "SureNoes$Folded" ⟨"SureNoes$Folded", "markOf", "(I)I"⟩ ⟨"SureNoes$Folded", "markOf", "(I)I"⟩) ∈ sn_gw := sn_inP 9 (by decide +kernel) (by decide +kernel)
theorem tp_10 : (Jvm.Cond.selects "SureNoes$Layered" ⟨"SureNoes$Layered", "placeInRow", "(II)I"⟩ ⟨"SureNoes$Layered", "placeInRow", "(II)I"⟩) ∈ sn_gw := sn_inP 10 (by decide +kernel) (by decide +kernel)
theorem tp_11 : (Jvm.Cond.selects "SureNoes$Pushed" ⟨"SureNoes$Pushed", "pushInto", "([II)Z"⟩ ⟨"SureNoes$Pushed", "pushInto", "([II)Z"⟩) ∈ sn_gw := sn_inP 11 (by decide +kernel) (by decide +kernel)
theorem tp_12 : (Jvm.Cond.selects "SureNoes$Folded" ⟨"SureNoes$Folded", "peel", "(J)Z"⟩ ⟨"SureNoes$Folded", "peel", "(J)Z"⟩) ∈ sn_gw := sn_inP 12 (by decide +kernel) (by decide +kernel)
theorem tp_13 : (Jvm.Cond.selects "SureNoes$Folded" ⟨"SureNoes$Folded", "placesOfOneKey", "(J)J"⟩ ⟨"SureNoes$Folded", "placesOfOneKey", "(J)J"⟩) ∈ sn_gw := sn_inP 13 (by decide +kernel) (by decide +kernel)
theorem tp_14 : (Jvm.Cond.selects "SureNoes$Folded" ⟨"SureNoes$Folded", "keyAt", "(JI)I"⟩ ⟨"SureNoes$Folded", "keyAt", "(JI)I"⟩) ∈ sn_gw := sn_inP 14 (by decide +kernel) (by decide +kernel)
theorem tp_15 : (Jvm.Cond.selects "SureNoes$Layered" ⟨"SureNoes$Layered", "placesInRow", "(IJ)J"⟩ ⟨"SureNoes$Layered", "placesInRow", "(IJ)J"⟩) ∈ sn_gw := sn_inP 15 (by decide +kernel) (by decide +kernel)
theorem tp_16 : (Jvm.Cond.selects "SureNoes$Layered" ⟨"SureNoes$Layered", "thoseInRow", "(IJ)J"⟩ ⟨"SureNoes$Layered", "thoseInRow", "(IJ)J"⟩) ∈ sn_gw := sn_inP 16 (by decide +kernel) (by decide +kernel)
theorem tp_17 : (Jvm.Cond.selects "SureNoes" ⟨"SureNoes", "noteSpots", "(LSureNoes$Book;)V"⟩ ⟨"SureNoes", "noteSpots", "(LSureNoes$Book;)V"⟩) ∈ sn_gw := sn_inP 17 (by decide +kernel) (by decide +kernel)
theorem tp_18 : (Jvm.Cond.selects "SureNoes" ⟨"SureNoes", "sureMakers", "(J)J"⟩ ⟨"SureNoes", "sureMakers", "(J)J"⟩) ∈ sn_gw := sn_inP 18 (by decide +kernel) (by decide +kernel)
theorem tp_19 : (Jvm.Cond.selects "SureNoes" ⟨"SureNoes", "makers", "(J)J"⟩ ⟨"SureNoes", "makers", "(J)J"⟩) ∈ sn_gw := sn_inP 19 (by decide +kernel) (by decide +kernel)
theorem tp_20 : (Jvm.Cond.selects "SureNoes$Cover" ⟨"SureNoes$Cover", "letKeyHelp", "(III)V"⟩ ⟨"SureNoes$Cover", "letKeyHelp", "(III)V"⟩) ∈ sn_gw := sn_inP 20 (by decide +kernel) (by decide +kernel)
theorem tp_21 : (Jvm.Cond.selects "SureNoes$Pushed" ⟨"SureNoes$Pushed", "allFindPlaces", "(I)Z"⟩ ⟨"SureNoes$Pushed", "allFindPlaces", "(I)Z"⟩) ∈ sn_gw := sn_inP 21 (by decide +kernel) (by decide +kernel)
theorem tp_22 : (Jvm.Cond.selects "SureNoes$Pushed" ⟨"SureNoes$Pushed", "nextLine", "(I)Z"⟩ ⟨"SureNoes$Pushed", "nextLine", "(I)Z"⟩) ∈ sn_gw := sn_inP 22 (by decide +kernel) (by decide +kernel)
theorem tp_23 : (Jvm.Cond.selects "SureNoes$Pushed" ⟨"SureNoes$Pushed", "swapInLine", "(II)V"⟩ ⟨"SureNoes$Pushed", "swapInLine", "(II)V"⟩) ∈ sn_gw := sn_inP 23 (by decide +kernel) (by decide +kernel)
theorem tp_24 : (Jvm.Cond.selects "SureNoes$Pushed" ⟨"SureNoes$Pushed", "tieGroups", "(J)V"⟩ ⟨"SureNoes$Pushed", "tieGroups", "(J)V"⟩) ∈ sn_gw := sn_inP 24 (by decide +kernel) (by decide +kernel)
theorem tp_25 : (Jvm.Cond.selects "SureNoes$Pushed" ⟨"SureNoes$Pushed", "renameGroup", "(II)V"⟩ ⟨"SureNoes$Pushed", "renameGroup", "(II)V"⟩) ∈ sn_gw := sn_inP 25 (by decide +kernel) (by decide +kernel)
theorem tp_26 : (Jvm.Cond.selects "SureNoes" ⟨"SureNoes", "keysReallySomewhere", "()J"⟩ ⟨"SureNoes", "keysReallySomewhere", "()J"⟩) ∈ sn_gw := sn_inP 26 (by decide +kernel) (by decide +kernel)
theorem tp_27 : (Jvm.Cond.selects "SureNoes" ⟨"SureNoes", "keysHeldEverywhere", "()J"⟩ ⟨"SureNoes", "keysHeldEverywhere", "()J"⟩) ∈ sn_gw := sn_inP 27 (by decide +kernel) (by decide +kernel)
theorem tp_28 : (Jvm.Cond.selects "SureNoes" ⟨"SureNoes", "digestOfBook", "(JI)J"⟩ ⟨"SureNoes", "digestOfBook", "(JI)J"⟩) ∈ sn_gw := sn_inP 28 (by decide +kernel) (by decide +kernel)
theorem tp_29 : (Jvm.Cond.selects "SureNoesModel" ⟨"SureNoesModel", "isLaw", "(I)Z"⟩ ⟨"SureNoesModel", "isLaw", "(I)Z"⟩) ∈ sn_gw := sn_inP 29 (by decide +kernel) (by decide +kernel)
theorem tp_30 : (Jvm.Cond.selects "SureNoesModel" ⟨"SureNoesModel", "valueOf", "(II)I"⟩ ⟨"SureNoesModel", "valueOf", "(II)I"⟩) ∈ sn_gw := sn_inP 30 (by decide +kernel) (by decide +kernel)
theorem tp_31 : (Jvm.Cond.selects "SureNoesModel" ⟨"SureNoesModel", "isBook", "(I)Z"⟩ ⟨"SureNoesModel", "isBook", "(I)Z"⟩) ∈ sn_gw := sn_inP 31 (by decide +kernel) (by decide +kernel)
theorem tp_32 : (Jvm.Cond.selects "SureNoesModel" ⟨"SureNoesModel", "aboutOf", "(II)I"⟩ ⟨"SureNoesModel", "aboutOf", "(II)I"⟩) ∈ sn_gw := sn_inP 32 (by decide +kernel) (by decide +kernel)
theorem tp_33 : (Jvm.Cond.selects "SureNoesModel" ⟨"SureNoesModel", "numbersAbove", "(I)I"⟩ ⟨"SureNoesModel", "numbersAbove", "(I)I"⟩) ∈ sn_gw := sn_inP 33 (by decide +kernel) (by decide +kernel)
theorem tp_34 : (Jvm.Cond.selects "SureNoesModel" ⟨"SureNoesModel", "reallyIn", "(I)J"⟩ ⟨"SureNoesModel", "reallyIn", "(I)J"⟩) ∈ sn_gw := sn_inP 34 (by decide +kernel) (by decide +kernel)
theorem tp_35 : (Jvm.Cond.selects "SureNoesModel" ⟨"SureNoesModel", "placesOf", "(II)J"⟩ ⟨"SureNoesModel", "placesOf", "(II)J"⟩) ∈ sn_gw := sn_inP 35 (by decide +kernel) (by decide +kernel)
theorem tp_36 : (Jvm.Cond.selects "SureNoesModel" ⟨"SureNoesModel", "firstPlace", "(II)I"⟩ ⟨"SureNoesModel", "firstPlace", "(II)I"⟩) ∈ sn_gw := sn_inP 36 (by decide +kernel) (by decide +kernel)
theorem tp_37 : (Jvm.Cond.selects "SureNoesModel" ⟨"SureNoesModel", "lawAt", "(II)I"⟩ ⟨"SureNoesModel", "lawAt", "(II)I"⟩) ∈ sn_gw := sn_inP 37 (by decide +kernel) (by decide +kernel)
theorem tp_38 : (Jvm.Cond.selects "SureNoesModel" ⟨"SureNoesModel", "pushedMark", "(II)I"⟩ ⟨"SureNoesModel", "pushedMark", "(II)I"⟩) ∈ sn_gw := sn_inP 38 (by decide +kernel) (by decide +kernel)
theorem tp_39 : (Jvm.Cond.selects "SureNoesModel" ⟨"SureNoesModel", "otherPlace", "(III)I"⟩ ⟨"SureNoesModel", "otherPlace", "(III)I"⟩) ∈ sn_gw := sn_inP 39 (by decide +kernel) (by decide +kernel)
theorem tp_40 : (Jvm.Cond.selects "SureNoesModel" ⟨"SureNoesModel", "placeBy", "(III)I"⟩ ⟨"SureNoesModel", "placeBy", "(III)I"⟩) ∈ sn_gw := sn_inP 40 (by decide +kernel) (by decide +kernel)
theorem tp_41 : (Jvm.Cond.selects "SureNoesModel" ⟨"SureNoesModel", "isIn", "(II)Z"⟩ ⟨"SureNoesModel", "isIn", "(II)Z"⟩) ∈ sn_gw := sn_inP 41 (by decide +kernel) (by decide +kernel)
theorem tp_42 : (Jvm.Cond.selects "SureNoesModel" ⟨"SureNoesModel", "together", "(II)I"⟩ ⟨"SureNoesModel", "together", "(II)I"⟩) ∈ sn_gw := sn_inP 42 (by decide +kernel) (by decide +kernel)
theorem tp_43 : (Jvm.Cond.selects "SureNoesModel" ⟨"SureNoesModel", "layerPlace", "(III)I"⟩ ⟨"SureNoesModel", "layerPlace", "(III)I"⟩) ∈ sn_gw := sn_inP 43 (by decide +kernel) (by decide +kernel)
theorem tp_44 : (Jvm.Cond.selects "SureNoesModel" ⟨"SureNoesModel", "filled", "(I)J"⟩ ⟨"SureNoesModel", "filled", "(I)J"⟩) ∈ sn_gw := sn_inP 44 (by decide +kernel) (by decide +kernel)
theorem tp_45 : (Jvm.Cond.selects "SureNoesModel" ⟨"SureNoesModel", "push", "(II)Z"⟩ ⟨"SureNoesModel", "push", "(II)Z"⟩) ∈ sn_gw := sn_inP 45 (by decide +kernel) (by decide +kernel)
theorem tp_46 : (Jvm.Cond.selects "SureNoesModel" ⟨"SureNoesModel", "fold", "(IJ)Z"⟩ ⟨"SureNoesModel", "fold", "(IJ)Z"⟩) ∈ sn_gw := sn_inP 46 (by decide +kernel) (by decide +kernel)
theorem tp_47 : (Jvm.Cond.selects "SureNoesModel" ⟨"SureNoesModel", "lonePlace", "(IJ)I"⟩ ⟨"SureNoesModel", "lonePlace", "(IJ)I"⟩) ∈ sn_gw := sn_inP 47 (by decide +kernel) (by decide +kernel)
theorem tp_48 : (Jvm.Cond.selects "SureNoesModel" ⟨"SureNoesModel", "layer", "(IJJ)Z"⟩ ⟨"SureNoesModel", "layer", "(IJJ)Z"⟩) ∈ sn_gw := sn_inP 48 (by decide +kernel) (by decide +kernel)
theorem tp_49 : (Jvm.Cond.selects "SureNoesModel" ⟨"SureNoesModel", "thoseIn", "(IIJ)J"⟩ ⟨"SureNoesModel", "thoseIn", "(IIJ)J"⟩) ∈ sn_gw := sn_inP 49 (by decide +kernel) (by decide +kernel)
theorem tp_50 : (Jvm.Cond.selects "SureNoesModel" ⟨"SureNoesModel", "keysOf", "(II)J"⟩ ⟨"SureNoesModel", "keysOf", "(II)J"⟩) ∈ sn_gw := sn_inP 50 (by decide +kernel) (by decide +kernel)
theorem tp_51 : (Jvm.Cond.selects "SureNoesModel" ⟨"SureNoesModel", "allIn", "(I)J"⟩ ⟨"SureNoesModel", "allIn", "(I)J"⟩) ∈ sn_gw := sn_inP 51 (by decide +kernel) (by decide +kernel)
theorem tp_52 : (Jvm.Cond.selects "SureNoesModel" ⟨"SureNoesModel", "layPlaces", "(I)V"⟩ ⟨"SureNoesModel", "layPlaces", "(I)V"⟩) ∈ sn_gw := sn_inP 52 (by decide +kernel) (by decide +kernel)
theorem tp_53 : (Jvm.Cond.selects "SureNoesModel" ⟨"SureNoesModel", "spoilBy", "(IJI)J"⟩ ⟨"SureNoesModel", "spoilBy", "(IJI)J"⟩) ∈ sn_gw := sn_inP 53 (by decide +kernel) (by decide +kernel)
theorem tp_54 : (Jvm.Cond.selects "SureNoesModel" ⟨"SureNoesModel", "unionOf", "(JI)J"⟩ ⟨"SureNoesModel", "unionOf", "(JI)J"⟩) ∈ sn_gw := sn_inP 54 (by decide +kernel) (by decide +kernel)
theorem tp_55 : (Jvm.Cond.selects "SureNoesModel" ⟨"SureNoesModel", "cover", "(JJ)V"⟩ ⟨"SureNoesModel", "cover", "(JJ)V"⟩) ∈ sn_gw := sn_inP 55 (by decide +kernel) (by decide +kernel)
theorem tp_56 : (Jvm.Cond.selects "SureNoesModel" ⟨"SureNoesModel", "layOrder", "(II)V"⟩ ⟨"SureNoesModel", "layOrder", "(II)V"⟩) ∈ sn_gw := sn_inP 56 (by decide +kernel) (by decide +kernel)
theorem tp_57 : (Jvm.Cond.selects "SureNoesModel" ⟨"SureNoesModel", "goes", "(II)Z"⟩ ⟨"SureNoesModel", "goes", "(II)Z"⟩) ∈ sn_gw := sn_inP 57 (by decide +kernel) (by decide +kernel)
theorem tp_58 : (Jvm.Cond.selects "SureNoesModel" ⟨"SureNoesModel", "head", "(I)I"⟩ ⟨"SureNoesModel", "head", "(I)I"⟩) ∈ sn_gw := sn_inP 58 (by decide +kernel) (by decide +kernel)
theorem tp_59 : (Jvm.Cond.selects "SureNoesModel" ⟨"SureNoesModel", "howMany", "(I)I"⟩ ⟨"SureNoesModel", "howMany", "(I)I"⟩) ∈ sn_gw := sn_inP 59 (by decide +kernel) (by decide +kernel)
theorem tp_60 : (Jvm.Cond.selects "SureNoesModel" ⟨"SureNoesModel", "mix", "(J)V"⟩ ⟨"SureNoesModel", "mix", "(J)V"⟩) ∈ sn_gw := sn_inP 60 (by decide +kernel) (by decide +kernel)
end
section
def R_0 : String := "SureNoes"
def T_0 : u_T := fun k => match k with
  | 0 => ("SureNoes", "toldLaws", "[LSureNoes$Law;", true)
  | 1 => ("SureNoes", "lawCount", "I", false)
  | 2 => ("SureNoes", "toldBooks", "[LSureNoes$Book;", true)
  | 3 => ("SureNoes", "bookCount", "I", false)
  | 4 => ("SureNoes", "spots", "[J", true)
  | _ => ("SureNoes", "cover", "LSureNoes$Cover;", false)
def ty_0 : Nat → FieldType := fun k => match k with
  | 0 => .array (.object "SureNoes$Law")
  | 1 => .int
  | 2 => .array (.object "SureNoes$Book")
  | 3 => .int
  | 4 => .array .long
  | _ => .object "SureNoes$Cover"
theorem nm_0 : ∀ a, a < 6 → ∀ b, b < 6 → a ≠ b → (T_0 a).2.1 ≠ (T_0 b).2.1 := by decide +kernel
theorem tk_0 : ∀ k, k < 6 → parseFieldDescriptor (T_0 k).2.2.1 = some (ty_0 k) := by decide +kernel
def R_1 : String := "SureNoesModel"
def T_1 : u_T := fun k => match k with
  | 0 => ("SureNoesModel", "laws", "I", false)
  | 1 => ("SureNoesModel", "lawA", "[I", true)
  | 2 => ("SureNoesModel", "lawB", "[I", true)
  | 3 => ("SureNoesModel", "books", "I", false)
  | 4 => ("SureNoesModel", "kindOf", "[I", true)
  | 5 => ("SureNoesModel", "sizeOf", "[I", true)
  | 6 => ("SureNoesModel", "lawsOf", "[I", true)
  | 7 => ("SureNoesModel", "numberAt", "[I", true)
  | 8 => ("SureNoesModel", "realOf", "[I", true)
  | 9 => ("SureNoesModel", "rowMany", "[I", true)
  | 10 => ("SureNoesModel", "rowOf", "[J", true)
  | 11 => ("SureNoesModel", "was", "[I", true)
  | 12 => ("SureNoesModel", "takenMany", "I", false)
  | 13 => ("SureNoesModel", "takenKey", "[I", true)
  | 14 => ("SureNoesModel", "takenPlace", "[I", true)
  | 15 => ("SureNoesModel", "newRow", "[J", true)
  | 16 => ("SureNoesModel", "placesNow", "[J", true)
  | 17 => ("SureNoesModel", "moreKeys", "[B", true)
  | 18 => ("SureNoesModel", "whichKeys", "[J", true)
  | 19 => ("SureNoesModel", "soughtOf", "[I", true)
  | 20 => ("SureNoesModel", "keyAt", "[I", true)
  | 21 => ("SureNoesModel", "orderOf", "[I", true)
  | 22 => ("SureNoesModel", "kept", "[I", true)
  | 23 => ("SureNoesModel", "headOf", "[I", true)
  | _ => ("SureNoesModel", "h", "J", false)
def ty_1 : Nat → FieldType := fun k => match k with
  | 0 => .int
  | 1 => .array .int
  | 2 => .array .int
  | 3 => .int
  | 4 => .array .int
  | 5 => .array .int
  | 6 => .array .int
  | 7 => .array .int
  | 8 => .array .int
  | 9 => .array .int
  | 10 => .array .long
  | 11 => .array .int
  | 12 => .int
  | 13 => .array .int
  | 14 => .array .int
  | 15 => .array .long
  | 16 => .array .long
  | 17 => .array .byte
  | 18 => .array .long
  | 19 => .array .int
  | 20 => .array .int
  | 21 => .array .int
  | 22 => .array .int
  | 23 => .array .int
  | _ => .long
theorem nm_1 : ∀ a, a < 25 → ∀ b, b < 25 → a ≠ b → (T_1 a).2.1 ≠ (T_1 b).2.1 := by decide +kernel
theorem tk_1 : ∀ k, k < 25 → parseFieldDescriptor (T_1 k).2.2.1 = some (ty_1 k) := by decide +kernel
def R_2 : String := "SureNoes$Law"
def T_2 : u_T := fun k => match k with
  | 0 => ("SureNoes$Law", "a", "I", true)
  | _ => ("SureNoes$Law", "b", "I", true)
def ty_2 : Nat → FieldType := fun k => match k with
  | 0 => .int
  | _ => .int
theorem nm_2 : ∀ a, a < 2 → ∀ b, b < 2 → a ≠ b → (T_2 a).2.1 ≠ (T_2 b).2.1 := by decide +kernel
theorem tk_2 : ∀ k, k < 2 → parseFieldDescriptor (T_2 k).2.2.1 = some (ty_2 k) := by decide +kernel
def R_3 : String := "SureNoes$Plain"
def T_3 : u_T := fun k => match k with
  | 0 => ("SureNoes$Book", "kind", "I", true)
  | 1 => ("SureNoes$Book", "size", "I", true)
  | 2 => ("SureNoes$Book", "lawBits", "I", true)
  | 3 => ("SureNoes$Book", "ruling", "[LSureNoes$Law;", true)
  | 4 => ("SureNoes$Book", "numbers", "[I", true)
  | _ => ("SureNoes$Book", "times", "[I", true)
def ty_3 : Nat → FieldType := fun k => match k with
  | 0 => .int
  | 1 => .int
  | 2 => .int
  | 3 => .array (.object "SureNoes$Law")
  | 4 => .array .int
  | _ => .array .int
theorem nm_3 : ∀ a, a < 6 → ∀ b, b < 6 → a ≠ b → (T_3 a).2.1 ≠ (T_3 b).2.1 := by decide +kernel
theorem tk_3 : ∀ k, k < 6 → parseFieldDescriptor (T_3 k).2.2.1 = some (ty_3 k) := by decide +kernel
def R_4 : String := "SureNoes$Counted"
def T_4 : u_T := fun k => match k with
  | 0 => ("SureNoes$Book", "kind", "I", true)
  | 1 => ("SureNoes$Book", "size", "I", true)
  | 2 => ("SureNoes$Book", "lawBits", "I", true)
  | 3 => ("SureNoes$Book", "ruling", "[LSureNoes$Law;", true)
  | 4 => ("SureNoes$Book", "numbers", "[I", true)
  | _ => ("SureNoes$Book", "times", "[I", true)
def ty_4 : Nat → FieldType := fun k => match k with
  | 0 => .int
  | 1 => .int
  | 2 => .int
  | 3 => .array (.object "SureNoes$Law")
  | 4 => .array .int
  | _ => .array .int
theorem nm_4 : ∀ a, a < 6 → ∀ b, b < 6 → a ≠ b → (T_4 a).2.1 ≠ (T_4 b).2.1 := by decide +kernel
theorem tk_4 : ∀ k, k < 6 → parseFieldDescriptor (T_4 k).2.2.1 = some (ty_4 k) := by decide +kernel
def R_5 : String := "SureNoes$Parted"
def T_5 : u_T := fun k => match k with
  | 0 => ("SureNoes$Book", "kind", "I", true)
  | 1 => ("SureNoes$Book", "size", "I", true)
  | 2 => ("SureNoes$Book", "lawBits", "I", true)
  | 3 => ("SureNoes$Book", "ruling", "[LSureNoes$Law;", true)
  | 4 => ("SureNoes$Book", "numbers", "[I", true)
  | _ => ("SureNoes$Book", "times", "[I", true)
def ty_5 : Nat → FieldType := fun k => match k with
  | 0 => .int
  | 1 => .int
  | 2 => .int
  | 3 => .array (.object "SureNoes$Law")
  | 4 => .array .int
  | _ => .array .int
theorem nm_5 : ∀ a, a < 6 → ∀ b, b < 6 → a ≠ b → (T_5 a).2.1 ≠ (T_5 b).2.1 := by decide +kernel
theorem tk_5 : ∀ k, k < 6 → parseFieldDescriptor (T_5 k).2.2.1 = some (ty_5 k) := by decide +kernel
def R_6 : String := "SureNoes$Pushed"
def T_6 : u_T := fun k => match k with
  | 0 => ("SureNoes$Book", "kind", "I", true)
  | 1 => ("SureNoes$Book", "size", "I", true)
  | 2 => ("SureNoes$Book", "lawBits", "I", true)
  | 3 => ("SureNoes$Book", "ruling", "[LSureNoes$Law;", true)
  | 4 => ("SureNoes$Book", "numbers", "[I", true)
  | 5 => ("SureNoes$Book", "times", "[I", true)
  | 6 => ("SureNoes$Pushed", "before", "[I", true)
  | 7 => ("SureNoes$Pushed", "trial", "[I", true)
  | 8 => ("SureNoes$Pushed", "line", "[I", true)
  | _ => ("SureNoes$Pushed", "group", "[I", true)
def ty_6 : Nat → FieldType := fun k => match k with
  | 0 => .int
  | 1 => .int
  | 2 => .int
  | 3 => .array (.object "SureNoes$Law")
  | 4 => .array .int
  | 5 => .array .int
  | 6 => .array .int
  | 7 => .array .int
  | 8 => .array .int
  | _ => .array .int
theorem nm_6 : ∀ a, a < 10 → ∀ b, b < 10 → a ≠ b → (T_6 a).2.1 ≠ (T_6 b).2.1 := by decide +kernel
theorem tk_6 : ∀ k, k < 10 → parseFieldDescriptor (T_6 k).2.2.1 = some (ty_6 k) := by decide +kernel
def R_7 : String := "SureNoes$Folded"
def T_7 : u_T := fun k => match k with
  | 0 => ("SureNoes$Book", "kind", "I", true)
  | 1 => ("SureNoes$Book", "size", "I", true)
  | 2 => ("SureNoes$Book", "lawBits", "I", true)
  | 3 => ("SureNoes$Book", "ruling", "[LSureNoes$Law;", true)
  | 4 => ("SureNoes$Book", "numbers", "[I", true)
  | 5 => ("SureNoes$Book", "times", "[I", true)
  | 6 => ("SureNoes$Folded", "bitsOf", "[J", true)
  | 7 => ("SureNoes$Folded", "peeledKey", "[I", true)
  | _ => ("SureNoes$Folded", "peeledPlace", "[I", true)
def ty_7 : Nat → FieldType := fun k => match k with
  | 0 => .int
  | 1 => .int
  | 2 => .int
  | 3 => .array (.object "SureNoes$Law")
  | 4 => .array .int
  | 5 => .array .int
  | 6 => .array .long
  | 7 => .array .int
  | _ => .array .int
theorem nm_7 : ∀ a, a < 9 → ∀ b, b < 9 → a ≠ b → (T_7 a).2.1 ≠ (T_7 b).2.1 := by decide +kernel
theorem tk_7 : ∀ k, k < 9 → parseFieldDescriptor (T_7 k).2.2.1 = some (ty_7 k) := by decide +kernel
def R_8 : String := "SureNoes$Layered"
def T_8 : u_T := fun k => match k with
  | 0 => ("SureNoes$Book", "kind", "I", true)
  | 1 => ("SureNoes$Book", "size", "I", true)
  | 2 => ("SureNoes$Book", "lawBits", "I", true)
  | 3 => ("SureNoes$Book", "ruling", "[LSureNoes$Law;", true)
  | 4 => ("SureNoes$Book", "numbers", "[I", true)
  | 5 => ("SureNoes$Book", "times", "[I", true)
  | 6 => ("SureNoes$Layered", "rows", "[J", true)
  | 7 => ("SureNoes$Layered", "fresh", "[J", true)
  | _ => ("SureNoes$Layered", "rowsHeld", "I", false)
def ty_8 : Nat → FieldType := fun k => match k with
  | 0 => .int
  | 1 => .int
  | 2 => .int
  | 3 => .array (.object "SureNoes$Law")
  | 4 => .array .int
  | 5 => .array .int
  | 6 => .array .long
  | 7 => .array .long
  | _ => .int
theorem nm_8 : ∀ a, a < 9 → ∀ b, b < 9 → a ≠ b → (T_8 a).2.1 ≠ (T_8 b).2.1 := by decide +kernel
theorem tk_8 : ∀ k, k < 9 → parseFieldDescriptor (T_8 k).2.2.1 = some (ty_8 k) := by decide +kernel
def R_9 : String := "SureNoes$Cover"
def T_9 : u_T := fun k => match k with
  | _ => ("SureNoes$Cover", "bestFor", "[J", true)
def ty_9 : Nat → FieldType := fun k => match k with
  | _ => .array .long
theorem nm_9 : ∀ a, a < 1 → ∀ b, b < 1 → a ≠ b → (T_9 a).2.1 ≠ (T_9 b).2.1 := by decide +kernel
theorem tk_9 : ∀ k, k < 1 → parseFieldDescriptor (T_9 k).2.2.1 = some (ty_9 k) := by decide +kernel
def sn_cls : List vw_C := [(R_0, T_0, 6), (R_1, T_1, 25), (R_2, T_2, 2), (R_3, T_3, 6), (R_4, T_4, 6), (R_5, T_5, 6), (R_6, T_6, 10), (R_7, T_7, 9), (R_8, T_8, 9), (R_9, T_9, 1)]
def sn_rn : Nat → String := fun k => match k with
  | 0 => "SureNoes"
  | 1 => "SureNoesModel"
  | 2 => "SureNoes$Law"
  | 3 => "SureNoes$Plain"
  | 4 => "SureNoes$Counted"
  | 5 => "SureNoes$Parted"
  | 6 => "SureNoes$Pushed"
  | 7 => "SureNoes$Folded"
  | 8 => "SureNoes$Layered"
  | 9 => "SureNoes$Cover"
  | 10 => "SureNoes$Book"
  | 11 => "SureNoesLaw"
  | 12 => "java/lang/Integer"
  | 13 => "java/lang/Long"
  | _ => "java/lang/Math"
theorem sn_uws {C : String} {T : u_T} {N : Nat} (h : ∀ k, k < N → u_lay C T k ∈ sn_gw) : ∀ w ∈ u_ws C T N, w ∈ sn_gw := by
  intro w hw
  obtain ⟨k, hk, rfl⟩ := List.mem_map.mp hw
  exact h k (List.mem_range.mp hk)
theorem uw_0 : ∀ w ∈ u_ws R_0 T_0 6, w ∈ sn_gw := sn_uws (fun k hk => match k, hk with
  | 0, _ => tw_34
  | 1, _ => tw_36
  | 2, _ => tw_38
  | 3, _ => tw_40
  | 4, _ => tw_42
  | 5, _ => tw_44
  | k + 6, hk => absurd hk (by omega))
theorem uw_1 : ∀ w ∈ u_ws R_1 T_1 25, w ∈ sn_gw := sn_uws (fun k hk => match k, hk with
  | 0, _ => tw_796
  | 1, _ => tw_798
  | 2, _ => tw_800
  | 3, _ => tw_802
  | 4, _ => tw_804
  | 5, _ => tw_806
  | 6, _ => tw_808
  | 7, _ => tw_810
  | 8, _ => tw_812
  | 9, _ => tw_814
  | 10, _ => tw_816
  | 11, _ => tw_818
  | 12, _ => tw_820
  | 13, _ => tw_822
  | 14, _ => tw_824
  | 15, _ => tw_826
  | 16, _ => tw_828
  | 17, _ => tw_830
  | 18, _ => tw_832
  | 19, _ => tw_834
  | 20, _ => tw_836
  | 21, _ => tw_838
  | 22, _ => tw_840
  | 23, _ => tw_842
  | 24, _ => tw_844
  | k + 25, hk => absurd hk (by omega))
theorem uw_2 : ∀ w ∈ u_ws R_2 T_2 2, w ∈ sn_gw := sn_uws (fun k hk => match k, hk with
  | 0, _ => tw_61
  | 1, _ => tw_63
  | k + 2, hk => absurd hk (by omega))
theorem uw_3 : ∀ w ∈ u_ws R_3 T_3 6, w ∈ sn_gw := sn_uws (fun k hk => match k, hk with
  | 0, _ => tw_193
  | 1, _ => tw_195
  | 2, _ => tw_197
  | 3, _ => tw_199
  | 4, _ => tw_201
  | 5, _ => tw_203
  | k + 6, hk => absurd hk (by omega))
theorem uw_4 : ∀ w ∈ u_ws R_4 T_4 6, w ∈ sn_gw := sn_uws (fun k hk => match k, hk with
  | 0, _ => tw_213
  | 1, _ => tw_214
  | 2, _ => tw_215
  | 3, _ => tw_216
  | 4, _ => tw_217
  | 5, _ => tw_218
  | k + 6, hk => absurd hk (by omega))
theorem uw_5 : ∀ w ∈ u_ws R_5 T_5 6, w ∈ sn_gw := sn_uws (fun k hk => match k, hk with
  | 0, _ => tw_226
  | 1, _ => tw_227
  | 2, _ => tw_228
  | 3, _ => tw_229
  | 4, _ => tw_230
  | 5, _ => tw_231
  | k + 6, hk => absurd hk (by omega))
theorem uw_6 : ∀ w ∈ u_ws R_6 T_6 10, w ∈ sn_gw := sn_uws (fun k hk => match k, hk with
  | 0, _ => tw_251
  | 1, _ => tw_252
  | 2, _ => tw_253
  | 3, _ => tw_254
  | 4, _ => tw_255
  | 5, _ => tw_256
  | 6, _ => tw_243
  | 7, _ => tw_245
  | 8, _ => tw_247
  | 9, _ => tw_249
  | k + 10, hk => absurd hk (by omega))
theorem uw_7 : ∀ w ∈ u_ws R_7 T_7 9, w ∈ sn_gw := sn_uws (fun k hk => match k, hk with
  | 0, _ => tw_273
  | 1, _ => tw_274
  | 2, _ => tw_275
  | 3, _ => tw_276
  | 4, _ => tw_277
  | 5, _ => tw_278
  | 6, _ => tw_267
  | 7, _ => tw_269
  | 8, _ => tw_271
  | k + 9, hk => absurd hk (by omega))
theorem uw_8 : ∀ w ∈ u_ws R_8 T_8 9, w ∈ sn_gw := sn_uws (fun k hk => match k, hk with
  | 0, _ => tw_295
  | 1, _ => tw_296
  | 2, _ => tw_297
  | 3, _ => tw_298
  | 4, _ => tw_299
  | 5, _ => tw_300
  | 6, _ => tw_289
  | 7, _ => tw_291
  | 8, _ => tw_293
  | k + 9, hk => absurd hk (by omega))
theorem uw_9 : ∀ w ∈ u_ws R_9 T_9 1, w ∈ sn_gw := sn_uws (fun k hk => match k, hk with
  | 0, _ => tw_675
  | k + 1, hk => absurd hk (by omega))
-- a method: its name, its bytes, its size of room, its answer
abbrev sn_Md : Type := MethodName × ByteArray × Nat × Option FieldType
-- a row of an instruction table: where, what, how long, the next one, where it may lead
abbrev sn_Rw : Type := Nat × Instr × Nat × Nat × Nat
abbrev sn_Tb : Type := List sn_Rw
def sn_len (i : Instr) : Nat := match i with
  | .bipush _ | .ldc _ | .iload _ | .lload _ | .aload _ | .istore _ | .lstore _ | .astore _ | .newarray _ => 2
  | .sipush _ | .ldc_w _ | .ldc2_w _ | .iinc _ _ | .ifCond _ _ | .if_icmp _ _ | .goto _ | .ifnull _ | .ifnonnull _ | .getfield _ | .putfield _ | .invokevirtual _ | .invokespecial _ | .invokestatic _ | .new _ | .anewarray _ | .checkcast _ | .instanceof _ => 3
  | .tableswitch _ _ _ _ => 0
  | _ => 1
def sn_off (i : Instr) : Option Int := match i with
  | .ifCond _ o | .if_icmp _ o | .goto o | .ifnull o | .ifnonnull o => some o
  | _ => none
def sn_con (i : Instr) : Option Int := match i with
  | .iconst c => some c
  | .bipush c => some c
  | .sipush c => some c
  | .iinc _ c => some c
  | _ => none
def sn_jok (q : sn_Rw) : Bool := (match sn_con q.2.1 with
  | some c => c.natAbs == q.2.2.2.2
  | none => true) && (q.2.2.2.1 == q.1 + q.2.2.1) && (sn_len q.2.1 == 0 || sn_len q.2.1 == q.2.2.1) && (match sn_off q.2.1 with
  | some o => (q.1 : Int) + o == (q.2.2.2.2 : Int)
  | none => true)
def sn_tabOk (b : ByteArray) (t : sn_Tb) : Prop := ∀ q ∈ t, decode b q.1 = .ok (q.2.1, q.2.2.1) ∧ sn_jok q = true
theorem sn_tabOk.app {b : ByteArray} {t u : sn_Tb} (h : sn_tabOk b t) (k : sn_tabOk b u) : sn_tabOk b (t ++ u) := fun q hq => (List.mem_append.mp hq).elim (h q) (k q)
def md_X_init : sn_Md := (⟨"SureNoes", "<init>", "()V"⟩, prog_1_method_1_code, 1, (Option.none : Option FieldType))
def tb_X_init : sn_Tb := [(0, .aload_n 0, 1, 1, 0), (1, .invokespecial 1, 3, 4, 0), (4, .aload_n 0, 1, 5, 0), (5, .bipush 8, 2, 7, 8), (7, .anewarray 9, 3, 10, 0), (10, .putfield 11, 3, 13, 0), (13, .aload_n 0, 1, 14, 0), (14, .iconst 0, 1, 15, 0), (15, .putfield 15, 3, 18, 0), (18, .aload_n 0, 1, 19, 0), (19, .bipush 8, 2, 21, 8), (21, .anewarray 19, 3, 24, 0), (24, .putfield 21, 3, 27, 0), (27, .aload_n 0, 1, 28, 0), (28, .iconst 0, 1, 29, 0), (29, .putfield 25, 3, 32, 0), (32, .aload_n 0, 1, 33, 0), (33, .bipush 32, 2, 35, 32), (35, .newarray .long, 2, 37, 0), (37, .putfield 28, 3, 40, 0), (40, .aload_n 0, 1, 41, 0), (41, .aconst_null, 1, 42, 0), (42, .putfield 32, 3, 45, 0), (45, .return_, 1, 46, 0)]
theorem dk_X_init : sn_tabOk prog_1_method_1_code tb_X_init := by unfold sn_tabOk; decide +kernel
def md_X_law : sn_Md := (⟨"SureNoes", "law", "(II)I"⟩, prog_1_method_2_code, 3, (Option.some FieldType.int))
def tb_X_law : sn_Tb := [(0, .iload_n 1, 1, 1, 0), (1, .iconst 1, 1, 2, 1), (2, .if_icmp .lt 19, 3, 5, 21), (5, .iload_n 1, 1, 6, 0), (6, .bipush 37, 2, 8, 37), (8, .if_icmp .ge 13, 3, 11, 21), (11, .iload_n 2, 1, 12, 0), (12, .ifCond .lt 9, 3, 15, 21), (15, .iload_n 2, 1, 16, 0), (16, .bipush 37, 2, 18, 37), (18, .if_icmp .lt 6, 3, 21, 24), (21, .bipush (-102), 2, 23, 102), (23, .ireturn, 1, 24, 0), (24, .aload_n 0, 1, 25, 0), (25, .getfield 15, 3, 28, 0), (28, .bipush 8, 2, 30, 8), (30, .if_icmp .lt 6, 3, 33, 36), (33, .bipush (-104), 2, 35, 104), (35, .ireturn, 1, 36, 0), (36, .aload_n 0, 1, 37, 0), (37, .getfield 11, 3, 40, 0), (40, .aload_n 0, 1, 41, 0), (41, .getfield 15, 3, 44, 0), (44, .new 9, 3, 47, 0), (47, .dup, 1, 48, 0), (48, .iload_n 1, 1, 49, 0), (49, .iload_n 2, 1, 50, 0), (50, .invokespecial 36, 3, 53, 0), (53, .aastore, 1, 54, 0), (54, .aload_n 0, 1, 55, 0), (55, .dup, 1, 56, 0), (56, .getfield 15, 3, 59, 0), (59, .iconst 1, 1, 60, 1), (60, .iadd, 1, 61, 0), (61, .putfield 15, 3, 64, 0), (64, .aload_n 0, 1, 65, 0), (65, .getfield 15, 3, 68, 0), (68, .iconst 1, 1, 69, 1), (69, .isub, 1, 70, 0), (70, .ireturn, 1, 71, 0)]
theorem dk_X_law : sn_tabOk prog_1_method_2_code tb_X_law := by unfold sn_tabOk; decide +kernel
def md_W_init : sn_Md := (⟨"SureNoes$Law", "<init>", "(II)V"⟩, prog_6_method_1_code, 3, (Option.none : Option FieldType))
def tb_W_init : sn_Tb := [(0, .aload_n 0, 1, 1, 0), (1, .invokespecial 3, 3, 4, 0), (4, .aload_n 0, 1, 5, 0), (5, .iload_n 1, 1, 6, 0), (6, .putfield 9, 3, 9, 0), (9, .aload_n 0, 1, 10, 0), (10, .iload_n 2, 1, 11, 0), (11, .putfield 15, 3, 14, 0), (14, .return_, 1, 15, 0)]
theorem dk_W_init : sn_tabOk prog_6_method_1_code tb_W_init := by unfold sn_tabOk; decide +kernel
def md_X_value : sn_Md := (⟨"SureNoes", "value", "(II)I"⟩, prog_1_method_3_code, 3, (Option.some FieldType.int))
def tb_X_value : sn_Tb := [(0, .aload_n 0, 1, 1, 0), (1, .iload_n 1, 1, 2, 0), (2, .invokevirtual 39, 3, 5, 0), (5, .ifCond .eq 10, 3, 8, 15), (8, .iload_n 2, 1, 9, 0), (9, .invokestatic 43, 3, 12, 0), (12, .ifCond .ne 6, 3, 15, 18), (15, .bipush (-101), 2, 17, 101), (17, .ireturn, 1, 18, 0), (18, .aload_n 0, 1, 19, 0), (19, .getfield 11, 3, 22, 0), (22, .iload_n 1, 1, 23, 0), (23, .aaload, 1, 24, 0), (24, .iload_n 2, 1, 25, 0), (25, .invokevirtual 46, 3, 28, 0), (28, .ireturn, 1, 29, 0)]
theorem dk_X_value : sn_tabOk prog_1_method_3_code tb_X_value := by unfold sn_tabOk; decide +kernel
def md_X_isLaw : sn_Md := (⟨"SureNoes", "isLaw", "(I)Z"⟩, prog_1_method_30_code, 2, (Option.some FieldType.boolean))
def tb_X_isLaw : sn_Tb := [(0, .iload_n 1, 1, 1, 0), (1, .ifCond .lt 15, 3, 4, 16), (4, .iload_n 1, 1, 5, 0), (5, .aload_n 0, 1, 6, 0), (6, .getfield 15, 3, 9, 0), (9, .if_icmp .ge 7, 3, 12, 16), (12, .iconst 1, 1, 13, 1), (13, .goto 4, 3, 16, 17), (16, .iconst 0, 1, 17, 0), (17, .ireturn, 1, 18, 0)]
theorem dk_X_isLaw : sn_tabOk prog_1_method_30_code tb_X_isLaw := by unfold sn_tabOk; decide +kernel
def md_X_isKey : sn_Md := (⟨"SureNoes", "isKey", "(I)Z"⟩, prog_1_method_26_code, 1, (Option.some FieldType.boolean))
def tb_X_isKey : sn_Tb := [(0, .iload_n 0, 1, 1, 0), (1, .ifCond .lt 13, 3, 4, 14), (4, .iload_n 0, 1, 5, 0), (5, .bipush 32, 2, 7, 32), (7, .if_icmp .ge 7, 3, 10, 14), (10, .iconst 1, 1, 11, 1), (11, .goto 4, 3, 14, 15), (14, .iconst 0, 1, 15, 0), (15, .ireturn, 1, 16, 0)]
theorem dk_X_isKey : sn_tabOk prog_1_method_26_code tb_X_isKey := by unfold sn_tabOk; decide +kernel
def md_W_valueFor : sn_Md := (⟨"SureNoes$Law", "valueFor", "(I)I"⟩, prog_6_method_2_code, 2, (Option.some FieldType.int))
def tb_W_valueFor : sn_Tb := [(0, .aload_n 0, 1, 1, 0), (1, .getfield 9, 3, 4, 0), (4, .iload_n 1, 1, 5, 0), (5, .imul, 1, 6, 0), (6, .aload_n 0, 1, 7, 0), (7, .getfield 15, 3, 10, 0), (10, .iadd, 1, 11, 0), (11, .bipush 37, 2, 13, 37), (13, .irem, 1, 14, 0), (14, .ireturn, 1, 15, 0)]
theorem dk_W_valueFor : sn_tabOk prog_6_method_2_code tb_W_valueFor := by unfold sn_tabOk; decide +kernel
def md_X_odds : sn_Md := (⟨"SureNoes", "odds", "(JIII)I"⟩, prog_1_method_4_code, 10, (Option.some FieldType.int))
def tb_X_odds : sn_Tb := [(0, .lload_n 1, 1, 1, 0), (1, .invokestatic 50, 3, 4, 0), (4, .ifCond .eq 22, 3, 7, 26), (7, .iload 4, 2, 9, 0), (9, .invokestatic 54, 3, 12, 0), (12, .ifCond .eq 14, 3, 15, 26), (15, .iload 5, 2, 17, 0), (17, .ifCond .lt 9, 3, 20, 26), (20, .iload 5, 2, 22, 0), (22, .iconst 1, 1, 23, 1), (23, .if_icmp .le 6, 3, 26, 29), (26, .bipush (-102), 2, 28, 102), (28, .ireturn, 1, 29, 0), (29, .iload_n 3, 1, 30, 0), (30, .invokestatic 43, 3, 33, 0), (33, .ifCond .eq 11, 3, 36, 44), (36, .lload_n 1, 1, 37, 0), (37, .iload_n 3, 1, 38, 0), (38, .invokestatic 57, 3, 41, 0), (41, .ifCond .eq 6, 3, 44, 47), (44, .bipush (-101), 2, 46, 101), (46, .ireturn, 1, 47, 0), (47, .iconst 0, 1, 48, 0), (48, .istore 6, 2, 50, 0), (50, .iconst 0, 1, 51, 0), (51, .istore 7, 2, 53, 0), (53, .iconst 1, 1, 54, 1), (54, .istore 8, 2, 56, 0), (56, .iload 8, 2, 58, 0), (58, .bipush 37, 2, 60, 37), (60, .if_icmp .ge 57, 3, 63, 117), (63, .iconst 0, 1, 64, 0), (64, .istore 9, 2, 66, 0), (66, .iload 9, 2, 68, 0), (68, .bipush 37, 2, 70, 37), (70, .if_icmp .ge 41, 3, 73, 111), (73, .iinc 7 1, 3, 76, 1), (76, .lload_n 1, 1, 77, 0), (77, .iload 8, 2, 79, 0), (79, .iload 9, 2, 81, 0), (81, .iload 4, 2, 83, 0), (83, .invokestatic 61, 3, 86, 0), (86, .iload 8, 2, 88, 0), (88, .iload 9, 2, 90, 0), (90, .iload_n 3, 1, 91, 0), (91, .iload 4, 2, 93, 0), (93, .invokestatic 65, 3, 96, 0), (96, .invokestatic 57, 3, 99, 0), (99, .ifCond .eq 6, 3, 102, 105), (102, .iinc 6 1, 3, 105, 1), (105, .iinc 9 1, 3, 108, 1), (108, .goto (-42), 3, 111, 66), (111, .iinc 8 1, 3, 114, 1), (114, .goto (-58), 3, 117, 56), (117, .iload 7, 2, 119, 0), (119, .iload 6, 2, 121, 0), (121, .invokestatic 69, 3, 124, 0), (124, .istore 8, 2, 126, 0), (126, .iload 5, 2, 128, 0), (128, .ifCond .ne 8, 3, 131, 136), (131, .iload 6, 2, 133, 0), (133, .goto 5, 3, 136, 138), (136, .iload 7, 2, 138, 0), (138, .istore 9, 2, 140, 0), (140, .iload 8, 2, 142, 0), (142, .ifCond .le 11, 3, 145, 153), (145, .iload 9, 2, 147, 0), (147, .iload 8, 2, 149, 0), (149, .idiv, 1, 150, 0), (150, .goto 5, 3, 153, 155), (153, .iload 9, 2, 155, 0), (155, .ireturn, 1, 156, 0)]
theorem dk_X_odds : sn_tabOk prog_1_method_4_code tb_X_odds := by unfold sn_tabOk; decide +kernel
def md_X_isSet : sn_Md := (⟨"SureNoes", "isSet", "(J)Z"⟩, prog_1_method_27_code, 2, (Option.some FieldType.boolean))
def tb_X_isSet : sn_Tb := [(0, .lload_n 0, 1, 1, 0), (1, .lconst 0, 1, 2, 0), (2, .lcmp, 1, 3, 0), (3, .ifCond .lt 15, 3, 6, 18), (6, .lload_n 0, 1, 7, 0), (7, .ldc2_w 232, 3, 10, 0), (10, .lcmp, 1, 11, 0), (11, .ifCond .gt 7, 3, 14, 18), (14, .iconst 1, 1, 15, 1), (15, .goto 4, 3, 18, 19), (18, .iconst 0, 1, 19, 0), (19, .ireturn, 1, 20, 0)]
theorem dk_X_isSet : sn_tabOk prog_1_method_27_code tb_X_isSet := by unfold sn_tabOk; decide +kernel
def md_X_isSize : sn_Md := (⟨"SureNoes", "isSize", "(I)Z"⟩, prog_1_method_28_code, 1, (Option.some FieldType.boolean))
def tb_X_isSize : sn_Tb := [(0, .iload_n 0, 1, 1, 0), (1, .iconst 2, 1, 2, 2), (2, .if_icmp .lt 13, 3, 5, 15), (5, .iload_n 0, 1, 6, 0), (6, .bipush 32, 2, 8, 32), (8, .if_icmp .gt 7, 3, 11, 15), (11, .iconst 1, 1, 12, 1), (12, .goto 4, 3, 15, 16), (15, .iconst 0, 1, 16, 0), (16, .ireturn, 1, 17, 0)]
theorem dk_X_isSize : sn_tabOk prog_1_method_28_code tb_X_isSize := by unfold sn_tabOk; decide +kernel
def md_X_has : sn_Md := (⟨"SureNoes", "has", "(JI)Z"⟩, prog_1_method_35_code, 3, (Option.some FieldType.boolean))
def tb_X_has : sn_Tb := [(0, .lload_n 0, 1, 1, 0), (1, .iload_n 2, 1, 2, 0), (2, .lshr, 1, 3, 0), (3, .lconst 1, 1, 4, 0), (4, .land, 1, 5, 0), (5, .lconst 0, 1, 6, 0), (6, .lcmp, 1, 7, 0), (7, .ifCond .eq 7, 3, 10, 14), (10, .iconst 1, 1, 11, 1), (11, .goto 4, 3, 14, 15), (14, .iconst 0, 1, 15, 0), (15, .ireturn, 1, 16, 0)]
theorem dk_X_has : sn_tabOk prog_1_method_35_code tb_X_has := by unfold sn_tabOk; decide +kernel
def md_X_placesOfSet : sn_Md := (⟨"SureNoes", "placesOfSet", "(JIII)J"⟩, prog_1_method_40_code, 8, (Option.some FieldType.long))
def tb_X_placesOfSet : sn_Tb := [(0, .lconst 0, 1, 1, 0), (1, .lstore 5, 2, 3, 0), (3, .iconst 0, 1, 4, 0), (4, .istore 7, 2, 6, 0), (6, .iload 7, 2, 8, 0), (8, .bipush 32, 2, 10, 32), (10, .if_icmp .ge 34, 3, 13, 44), (13, .lload_n 0, 1, 14, 0), (14, .iload 7, 2, 16, 0), (16, .invokestatic 57, 3, 19, 0), (19, .ifCond .eq 19, 3, 22, 38), (22, .lload 5, 2, 24, 0), (24, .lconst 1, 1, 25, 0), (25, .iload_n 2, 1, 26, 0), (26, .iload_n 3, 1, 27, 0), (27, .iload 7, 2, 29, 0), (29, .iload 4, 2, 31, 0), (31, .invokestatic 65, 3, 34, 0), (34, .lshl, 1, 35, 0), (35, .lor, 1, 36, 0), (36, .lstore 5, 2, 38, 0), (38, .iinc 7 1, 3, 41, 1), (41, .goto (-35), 3, 44, 6), (44, .lload 5, 2, 46, 0), (46, .lreturn, 1, 47, 0)]
theorem dk_X_placesOfSet : sn_tabOk prog_1_method_40_code tb_X_placesOfSet := by unfold sn_tabOk; decide +kernel
def md_X_placeBy : sn_Md := (⟨"SureNoes", "placeBy", "(IIII)I"⟩, prog_1_method_39_code, 4, (Option.some FieldType.int))
def tb_X_placeBy : sn_Tb := [(0, .iload_n 3, 1, 1, 0), (1, .ifCond .le 16, 3, 4, 17), (4, .iload_n 0, 1, 5, 0), (5, .iload_n 2, 1, 6, 0), (6, .imul, 1, 7, 0), (7, .iload_n 1, 1, 8, 0), (8, .iadd, 1, 9, 0), (9, .bipush 37, 2, 11, 37), (11, .irem, 1, 12, 0), (12, .iload_n 3, 1, 13, 0), (13, .irem, 1, 14, 0), (14, .goto 4, 3, 17, 18), (17, .iconst 0, 1, 18, 0), (18, .ireturn, 1, 19, 0)]
theorem dk_X_placeBy : sn_tabOk prog_1_method_39_code tb_X_placeBy := by unfold sn_tabOk; decide +kernel
def md_X_commonDivisor : sn_Md := (⟨"SureNoes", "commonDivisor", "(II)I"⟩, prog_1_method_38_code, 6, (Option.some FieldType.int))
def tb_X_commonDivisor : sn_Tb := [(0, .iload_n 0, 1, 1, 0), (1, .istore_n 2, 1, 2, 0), (2, .iload_n 1, 1, 3, 0), (3, .istore_n 3, 1, 4, 0), (4, .iconst 0, 1, 5, 0), (5, .istore 4, 2, 7, 0), (7, .iload 4, 2, 9, 0), (9, .bipush 64, 2, 11, 64), (11, .if_icmp .ge 25, 3, 14, 36), (14, .iload_n 3, 1, 15, 0), (15, .ifCond .le 21, 3, 18, 36), (18, .iload_n 2, 1, 19, 0), (19, .iload_n 3, 1, 20, 0), (20, .invokestatic 280, 3, 23, 0), (23, .istore 5, 2, 25, 0), (25, .iload_n 3, 1, 26, 0), (26, .istore_n 2, 1, 27, 0), (27, .iload 5, 2, 29, 0), (29, .istore_n 3, 1, 30, 0), (30, .iinc 4 1, 3, 33, 1), (33, .goto (-26), 3, 36, 7), (36, .iload_n 2, 1, 37, 0), (37, .ireturn, 1, 38, 0)]
theorem dk_X_commonDivisor : sn_tabOk prog_1_method_38_code tb_X_commonDivisor := by unfold sn_tabOk; decide +kernel
def md_X_rest : sn_Md := (⟨"SureNoes", "rest", "(II)I"⟩, prog_1_method_36_code, 3, (Option.some FieldType.int))
def tb_X_rest : sn_Tb := [(0, .iload_n 1, 1, 1, 0), (1, .ifCond .gt 5, 3, 4, 6), (4, .iconst 0, 1, 5, 0), (5, .ireturn, 1, 6, 0), (6, .iload_n 0, 1, 7, 0), (7, .iload_n 1, 1, 8, 0), (8, .irem, 1, 9, 0), (9, .istore_n 2, 1, 10, 0), (10, .iload_n 2, 1, 11, 0), (11, .ifCond .ge 9, 3, 14, 20), (14, .iload_n 2, 1, 15, 0), (15, .iload_n 1, 1, 16, 0), (16, .iadd, 1, 17, 0), (17, .goto 4, 3, 20, 21), (20, .iload_n 2, 1, 21, 0), (21, .ireturn, 1, 22, 0)]
theorem dk_X_rest : sn_tabOk prog_1_method_36_code tb_X_rest := by unfold sn_tabOk; decide +kernel
def md_X_best : sn_Md := (⟨"SureNoes", "best", "(JII)I"⟩, prog_1_method_5_code, 11, (Option.some FieldType.int))
def tb_X_best : sn_Tb := [(0, .lload_n 1, 1, 1, 0), (1, .invokestatic 50, 3, 4, 0), (4, .ifCond .eq 21, 3, 7, 25), (7, .iload_n 3, 1, 8, 0), (8, .invokestatic 54, 3, 11, 0), (11, .ifCond .eq 14, 3, 14, 25), (14, .iload 4, 2, 16, 0), (16, .ifCond .lt 9, 3, 19, 25), (19, .iload 4, 2, 21, 0), (21, .iconst 2, 1, 22, 2), (22, .if_icmp .le 6, 3, 25, 28), (25, .bipush (-102), 2, 27, 102), (27, .ireturn, 1, 28, 0), (28, .bipush 33, 2, 30, 33), (30, .istore 5, 2, 32, 0), (32, .iconst 0, 1, 33, 0), (33, .istore 6, 2, 35, 0), (35, .iconst 0, 1, 36, 0), (36, .istore 7, 2, 38, 0), (38, .iconst 1, 1, 39, 1), (39, .istore 8, 2, 41, 0), (41, .iload 8, 2, 43, 0), (43, .bipush 37, 2, 45, 37), (45, .if_icmp .ge 55, 3, 48, 100), (48, .iconst 0, 1, 49, 0), (49, .istore 9, 2, 51, 0), (51, .iload 9, 2, 53, 0), (53, .bipush 37, 2, 55, 37), (55, .if_icmp .ge 39, 3, 58, 94), (58, .lload_n 1, 1, 59, 0), (59, .iload 8, 2, 61, 0), (61, .iload 9, 2, 63, 0), (63, .iload_n 3, 1, 64, 0), (64, .invokestatic 73, 3, 67, 0), (67, .istore 10, 2, 69, 0), (69, .iload 10, 2, 71, 0), (71, .iload 5, 2, 73, 0), (73, .if_icmp .ge 15, 3, 76, 88), (76, .iload 10, 2, 78, 0), (78, .istore 5, 2, 80, 0), (80, .iload 8, 2, 82, 0), (82, .istore 6, 2, 84, 0), (84, .iload 9, 2, 86, 0), (86, .istore 7, 2, 88, 0), (88, .iinc 9 1, 3, 91, 1), (91, .goto (-40), 3, 94, 51), (94, .iinc 8 1, 3, 97, 1), (97, .goto (-56), 3, 100, 41), (100, .iload 4, 2, 102, 0), (102, .ifCond .ne 8, 3, 105, 110), (105, .iload 5, 2, 107, 0), (107, .goto 16, 3, 110, 123), (110, .iload 4, 2, 112, 0), (112, .iconst 1, 1, 113, 1), (113, .if_icmp .ne 8, 3, 116, 121), (116, .iload 6, 2, 118, 0), (118, .goto 5, 3, 121, 123), (121, .iload 7, 2, 123, 0), (123, .ireturn, 1, 124, 0)]
theorem dk_X_best : sn_tabOk prog_1_method_5_code tb_X_best := by unfold sn_tabOk; decide +kernel
def md_X_strangersMet : sn_Md := (⟨"SureNoes", "strangersMet", "(JIII)I"⟩, prog_1_method_41_code, 9, (Option.some FieldType.int))
def tb_X_strangersMet : sn_Tb := [(0, .lload_n 0, 1, 1, 0), (1, .iload_n 2, 1, 2, 0), (2, .iload_n 3, 1, 3, 0), (3, .iload 4, 2, 5, 0), (5, .invokestatic 61, 3, 8, 0), (8, .lstore 5, 2, 10, 0), (10, .iconst 0, 1, 11, 0), (11, .istore 7, 2, 13, 0), (13, .iconst 0, 1, 14, 0), (14, .istore 8, 2, 16, 0), (16, .iload 8, 2, 18, 0), (18, .bipush 32, 2, 20, 32), (20, .if_icmp .ge 38, 3, 23, 58), (23, .lload_n 0, 1, 24, 0), (24, .iload 8, 2, 26, 0), (26, .invokestatic 57, 3, 29, 0), (29, .ifCond .ne 23, 3, 32, 52), (32, .lload 5, 2, 34, 0), (34, .iload_n 2, 1, 35, 0), (35, .iload_n 3, 1, 36, 0), (36, .iload 8, 2, 38, 0), (38, .iload 4, 2, 40, 0), (40, .invokestatic 65, 3, 43, 0), (43, .invokestatic 57, 3, 46, 0), (46, .ifCond .eq 6, 3, 49, 52), (49, .iinc 7 1, 3, 52, 1), (52, .iinc 8 1, 3, 55, 1), (55, .goto (-39), 3, 58, 16), (58, .iload 7, 2, 60, 0), (60, .ireturn, 1, 61, 0)]
theorem dk_X_strangersMet : sn_tabOk prog_1_method_41_code tb_X_strangersMet := by unfold sn_tabOk; decide +kernel
def md_X_fewest : sn_Md := (⟨"SureNoes", "fewest", "(JII)I"⟩, prog_1_method_6_code, 7, (Option.some FieldType.int))
def tb_X_fewest : sn_Tb := [(0, .aload_n 0, 1, 1, 0), (1, .iload_n 3, 1, 2, 0), (2, .invokevirtual 39, 3, 5, 0), (5, .ifCond .ne 6, 3, 8, 11), (8, .bipush (-101), 2, 10, 101), (10, .ireturn, 1, 11, 0), (11, .lload_n 1, 1, 12, 0), (12, .invokestatic 50, 3, 15, 0), (15, .ifCond .eq 15, 3, 18, 30), (18, .iload 4, 2, 20, 0), (20, .ifCond .lt 10, 3, 23, 30), (23, .iload 4, 2, 25, 0), (25, .bipush 32, 2, 27, 32), (27, .if_icmp .lt 6, 3, 30, 33), (30, .bipush (-102), 2, 32, 102), (32, .ireturn, 1, 33, 0), (33, .aload_n 0, 1, 34, 0), (34, .getfield 11, 3, 37, 0), (37, .iload_n 3, 1, 38, 0), (38, .aaload, 1, 39, 0), (39, .astore 5, 2, 41, 0), (41, .iconst 2, 1, 42, 2), (42, .istore 6, 2, 44, 0), (44, .iload 6, 2, 46, 0), (46, .bipush 32, 2, 48, 32), (48, .if_icmp .gt 33, 3, 51, 81), (51, .lload_n 1, 1, 52, 0), (52, .aload 5, 2, 54, 0), (54, .getfield 77, 3, 57, 0), (57, .aload 5, 2, 59, 0), (59, .getfield 80, 3, 62, 0), (62, .iload 6, 2, 64, 0), (64, .invokestatic 73, 3, 67, 0), (67, .iload 4, 2, 69, 0), (69, .if_icmp .gt 6, 3, 72, 75), (72, .iload 6, 2, 74, 0), (74, .ireturn, 1, 75, 0), (75, .iinc 6 1, 3, 78, 1), (78, .goto (-34), 3, 81, 44), (81, .iconst (-1), 1, 82, 1), (82, .ireturn, 1, 83, 0)]
theorem dk_X_fewest : sn_tabOk prog_1_method_6_code tb_X_fewest := by unfold sn_tabOk; decide +kernel
def md_X_book : sn_Md := (⟨"SureNoes", "book", "(III)I"⟩, prog_1_method_7_code, 4, (Option.some FieldType.int))
def tb_X_book : sn_Tb := [(0, .iload_n 1, 1, 1, 0), (1, .invokestatic 83, 3, 4, 0), (4, .ifCond .eq 20, 3, 7, 24), (7, .iload_n 2, 1, 8, 0), (8, .invokestatic 54, 3, 11, 0), (11, .ifCond .eq 13, 3, 14, 24), (14, .iload_n 1, 1, 15, 0), (15, .iconst 4, 1, 16, 4), (16, .if_icmp .ne 11, 3, 19, 27), (19, .iload_n 2, 1, 20, 0), (20, .iconst 3, 1, 21, 3), (21, .if_icmp .ge 6, 3, 24, 27), (24, .bipush (-102), 2, 26, 102), (26, .ireturn, 1, 27, 0), (27, .aload_n 0, 1, 28, 0), (28, .iload_n 1, 1, 29, 0), (29, .iload_n 3, 1, 30, 0), (30, .invokevirtual 86, 3, 33, 0), (33, .ifCond .ne 6, 3, 36, 39), (36, .bipush (-101), 2, 38, 101), (38, .ireturn, 1, 39, 0), (39, .aload_n 0, 1, 40, 0), (40, .getfield 25, 3, 43, 0), (43, .bipush 8, 2, 45, 8), (45, .if_icmp .lt 6, 3, 48, 51), (48, .bipush (-104), 2, 50, 104), (50, .ireturn, 1, 51, 0), (51, .aload_n 0, 1, 52, 0), (52, .iload_n 1, 1, 53, 0), (53, .iload_n 2, 1, 54, 0), (54, .iload_n 3, 1, 55, 0), (55, .aload_n 0, 1, 56, 0), (56, .iload_n 3, 1, 57, 0), (57, .invokevirtual 90, 3, 60, 0), (60, .invokestatic 94, 3, 63, 0), (63, .invokevirtual 98, 3, 66, 0), (66, .ireturn, 1, 67, 0)]
theorem dk_X_book : sn_tabOk prog_1_method_7_code tb_X_book := by unfold sn_tabOk; decide +kernel
def md_X_isKind : sn_Md := (⟨"SureNoes", "isKind", "(I)Z"⟩, prog_1_method_29_code, 1, (Option.some FieldType.boolean))
def tb_X_isKind : sn_Tb := [(0, .iload_n 0, 1, 1, 0), (1, .ifCond .lt 12, 3, 4, 13), (4, .iload_n 0, 1, 5, 0), (5, .iconst 5, 1, 6, 5), (6, .if_icmp .gt 7, 3, 9, 13), (9, .iconst 1, 1, 10, 1), (10, .goto 4, 3, 13, 14), (13, .iconst 0, 1, 14, 0), (14, .ireturn, 1, 15, 0)]
theorem dk_X_isKind : sn_tabOk prog_1_method_29_code tb_X_isKind := by unfold sn_tabOk; decide +kernel
def md_X_areLawsFor : sn_Md := (⟨"SureNoes", "areLawsFor", "(II)Z"⟩, prog_1_method_31_code, 4, (Option.some FieldType.boolean))
def tb_X_areLawsFor : sn_Tb := [(0, .iload_n 2, 1, 1, 0), (1, .ifCond .lt 13, 3, 4, 14), (4, .iload_n 2, 1, 5, 0), (5, .iconst 1, 1, 6, 1), (6, .aload_n 0, 1, 7, 0), (7, .getfield 15, 3, 10, 0), (10, .ishl, 1, 11, 0), (11, .if_icmp .lt 5, 3, 14, 16), (14, .iconst 0, 1, 15, 0), (15, .ireturn, 1, 16, 0), (16, .iload_n 2, 1, 17, 0), (17, .invokestatic 263, 3, 20, 0), (20, .istore_n 3, 1, 21, 0), (21, .iload_n 1, 1, 22, 0), (22, .iconst 3, 1, 23, 3), (23, .if_icmp .ne 14, 3, 26, 37), (26, .iload_n 3, 1, 27, 0), (27, .iconst 2, 1, 28, 2), (28, .if_icmp .ne 7, 3, 31, 35), (31, .iconst 1, 1, 32, 1), (32, .goto 4, 3, 35, 36), (35, .iconst 0, 1, 36, 0), (36, .ireturn, 1, 37, 0), (37, .iload_n 1, 1, 38, 0), (38, .iconst 4, 1, 39, 4), (39, .if_icmp .ne 14, 3, 42, 53), (42, .iload_n 3, 1, 43, 0), (43, .iconst 3, 1, 44, 3), (44, .if_icmp .ne 7, 3, 47, 51), (47, .iconst 1, 1, 48, 1), (48, .goto 4, 3, 51, 52), (51, .iconst 0, 1, 52, 0), (52, .ireturn, 1, 53, 0), (53, .iload_n 3, 1, 54, 0), (54, .iconst 1, 1, 55, 1), (55, .if_icmp .lt 12, 3, 58, 67), (58, .iload_n 3, 1, 59, 0), (59, .iconst 3, 1, 60, 3), (60, .if_icmp .gt 7, 3, 63, 67), (63, .iconst 1, 1, 64, 1), (64, .goto 4, 3, 67, 68), (67, .iconst 0, 1, 68, 0), (68, .ireturn, 1, 69, 0)]
theorem dk_X_areLawsFor : sn_tabOk prog_1_method_31_code tb_X_areLawsFor := by unfold sn_tabOk; decide +kernel
def md_JI_bitCount : sn_Md := (⟨"java/lang/Integer", "bitCount", "(I)I"⟩, prog_13_method_49_code, 1, (Option.some FieldType.int))
def tb_JI_bitCount : sn_Tb := [(0, .iload_n 0, 1, 1, 0), (1, .iload_n 0, 1, 2, 0), (2, .iconst 1, 1, 3, 1), (3, .iushr, 1, 4, 0), (4, .ldc_w 265, 3, 7, 0), (7, .iand, 1, 8, 0), (8, .isub, 1, 9, 0), (9, .istore_n 0, 1, 10, 0), (10, .iload_n 0, 1, 11, 0), (11, .ldc_w 266, 3, 14, 0), (14, .iand, 1, 15, 0), (15, .iload_n 0, 1, 16, 0), (16, .iconst 2, 1, 17, 2), (17, .iushr, 1, 18, 0), (18, .ldc_w 266, 3, 21, 0), (21, .iand, 1, 22, 0), (22, .iadd, 1, 23, 0), (23, .istore_n 0, 1, 24, 0), (24, .iload_n 0, 1, 25, 0), (25, .iload_n 0, 1, 26, 0), (26, .iconst 4, 1, 27, 4), (27, .iushr, 1, 28, 0), (28, .iadd, 1, 29, 0), (29, .ldc_w 267, 3, 32, 0), (32, .iand, 1, 33, 0), (33, .istore_n 0, 1, 34, 0), (34, .iload_n 0, 1, 35, 0), (35, .iload_n 0, 1, 36, 0), (36, .bipush 8, 2, 38, 8), (38, .iushr, 1, 39, 0), (39, .iadd, 1, 40, 0), (40, .istore_n 0, 1, 41, 0), (41, .iload_n 0, 1, 42, 0), (42, .iload_n 0, 1, 43, 0), (43, .bipush 16, 2, 45, 16), (45, .iushr, 1, 46, 0), (46, .iadd, 1, 47, 0), (47, .istore_n 0, 1, 48, 0), (48, .iload_n 0, 1, 49, 0), (49, .bipush 63, 2, 51, 63), (51, .iand, 1, 52, 0), (52, .ireturn, 1, 53, 0)]
theorem dk_JI_bitCount : sn_tabOk prog_13_method_49_code tb_JI_bitCount := by unfold sn_tabOk; decide +kernel
def md_X_lawsOf : sn_Md := (⟨"SureNoes", "lawsOf", "(I)[LSureNoes$Law;"⟩, prog_1_method_42_code, 5, (Option.some (FieldType.array (FieldType.object "SureNoes$Law"))))
def tb_X_lawsOf : sn_Tb := [(0, .iload_n 1, 1, 1, 0), (1, .invokestatic 263, 3, 4, 0), (4, .anewarray 9, 3, 7, 0), (7, .astore_n 2, 1, 8, 0), (8, .iconst 0, 1, 9, 0), (9, .istore_n 3, 1, 10, 0), (10, .iconst 0, 1, 11, 0), (11, .istore 4, 2, 13, 0), (13, .iload 4, 2, 15, 0), (15, .aload_n 0, 1, 16, 0), (16, .getfield 15, 3, 19, 0), (19, .if_icmp .ge 38, 3, 22, 57), (22, .iload_n 1, 1, 23, 0), (23, .i2l, 1, 24, 0), (24, .iload 4, 2, 26, 0), (26, .invokestatic 57, 3, 29, 0), (29, .ifCond .eq 22, 3, 32, 51), (32, .iload_n 3, 1, 33, 0), (33, .aload_n 2, 1, 34, 0), (34, .arraylength, 1, 35, 0), (35, .if_icmp .ge 16, 3, 38, 51), (38, .aload_n 2, 1, 39, 0), (39, .iload_n 3, 1, 40, 0), (40, .aload_n 0, 1, 41, 0), (41, .getfield 11, 3, 44, 0), (44, .iload 4, 2, 46, 0), (46, .aaload, 1, 47, 0), (47, .aastore, 1, 48, 0), (48, .iinc 3 1, 3, 51, 1), (51, .iinc 4 1, 3, 54, 1), (54, .goto (-41), 3, 57, 13), (57, .aload_n 2, 1, 58, 0), (58, .areturn, 1, 59, 0)]
theorem dk_X_lawsOf : sn_tabOk prog_1_method_42_code tb_X_lawsOf := by unfold sn_tabOk; decide +kernel
def md_X_newBook : sn_Md := (⟨"SureNoes", "newBook", "(III[LSureNoes$Law;)LSureNoes$Book;"⟩, prog_1_method_43_code, 4, (Option.some (FieldType.object "SureNoes$Book")))
def tb_X_newBook : sn_Tb := [(0, .iload_n 0, 1, 1, 0), (1, .tableswitch 92 0 4 #[35, 47, 58, 70, 81], 35, 36, 0), (36, .new 267, 3, 39, 0), (39, .dup, 1, 40, 0), (40, .iconst 0, 1, 41, 0), (41, .iload_n 1, 1, 42, 0), (42, .iload_n 2, 1, 43, 0), (43, .aload_n 3, 1, 44, 0), (44, .invokespecial 283, 3, 47, 0), (47, .areturn, 1, 48, 0), (48, .new 269, 3, 51, 0), (51, .dup, 1, 52, 0), (52, .iload_n 1, 1, 53, 0), (53, .iload_n 2, 1, 54, 0), (54, .aload_n 3, 1, 55, 0), (55, .invokespecial 286, 3, 58, 0), (58, .areturn, 1, 59, 0), (59, .new 271, 3, 62, 0), (62, .dup, 1, 63, 0), (63, .iconst 2, 1, 64, 2), (64, .iload_n 1, 1, 65, 0), (65, .iload_n 2, 1, 66, 0), (66, .aload_n 3, 1, 67, 0), (67, .invokespecial 289, 3, 70, 0), (70, .areturn, 1, 71, 0), (71, .new 234, 3, 74, 0), (74, .dup, 1, 75, 0), (75, .iload_n 1, 1, 76, 0), (76, .iload_n 2, 1, 77, 0), (77, .aload_n 3, 1, 78, 0), (78, .invokespecial 290, 3, 81, 0), (81, .areturn, 1, 82, 0), (82, .new 273, 3, 85, 0), (85, .dup, 1, 86, 0), (86, .iload_n 1, 1, 87, 0), (87, .iload_n 2, 1, 88, 0), (88, .aload_n 3, 1, 89, 0), (89, .invokespecial 291, 3, 92, 0), (92, .areturn, 1, 93, 0), (93, .new 275, 3, 96, 0), (96, .dup, 1, 97, 0), (97, .iload_n 1, 1, 98, 0), (98, .iload_n 2, 1, 99, 0), (99, .aload_n 3, 1, 100, 0), (100, .invokespecial 292, 3, 103, 0), (103, .areturn, 1, 104, 0)]
theorem dk_X_newBook : sn_tabOk prog_1_method_43_code tb_X_newBook := by unfold sn_tabOk; decide +kernel
def md_P_init : sn_Md := (⟨"SureNoes$Plain", "<init>", "(III[LSureNoes$Law;)V"⟩, prog_9_method_1_code, 5, (Option.none : Option FieldType))
def tb_P_init : sn_Tb := [(0, .aload_n 0, 1, 1, 0), (1, .iload_n 1, 1, 2, 0), (2, .iload_n 2, 1, 3, 0), (3, .iload_n 3, 1, 4, 0), (4, .aload 4, 2, 6, 0), (6, .invokespecial 1, 3, 9, 0), (9, .return_, 1, 10, 0)]
theorem dk_P_init : sn_tabOk prog_9_method_1_code tb_P_init := by unfold sn_tabOk; decide +kernel
def md_B_init : sn_Md := (⟨"SureNoes$Book", "<init>", "(III[LSureNoes$Law;)V"⟩, prog_2_method_1_code, 5, (Option.none : Option FieldType))
def tb_B_init : sn_Tb := [(0, .aload_n 0, 1, 1, 0), (1, .invokespecial 3, 3, 4, 0), (4, .aload_n 0, 1, 5, 0), (5, .iload_n 1, 1, 6, 0), (6, .putfield 9, 3, 9, 0), (9, .aload_n 0, 1, 10, 0), (10, .iload_n 2, 1, 11, 0), (11, .putfield 15, 3, 14, 0), (14, .aload_n 0, 1, 15, 0), (15, .iload_n 3, 1, 16, 0), (16, .putfield 18, 3, 19, 0), (19, .aload_n 0, 1, 20, 0), (20, .aload 4, 2, 22, 0), (22, .putfield 21, 3, 25, 0), (25, .aload_n 0, 1, 26, 0), (26, .bipush 32, 2, 28, 32), (28, .newarray .int, 2, 30, 0), (30, .putfield 25, 3, 33, 0), (33, .aload_n 0, 1, 34, 0), (34, .bipush 32, 2, 36, 32), (36, .newarray .int, 2, 38, 0), (38, .putfield 29, 3, 41, 0), (41, .return_, 1, 42, 0)]
theorem dk_B_init : sn_tabOk prog_2_method_1_code tb_B_init := by unfold sn_tabOk; decide +kernel
def md_C_init : sn_Md := (⟨"SureNoes$Counted", "<init>", "(II[LSureNoes$Law;)V"⟩, prog_3_method_1_code, 4, (Option.none : Option FieldType))
def tb_C_init : sn_Tb := [(0, .aload_n 0, 1, 1, 0), (1, .iconst 1, 1, 2, 1), (2, .iload_n 1, 1, 3, 0), (3, .iload_n 2, 1, 4, 0), (4, .aload_n 3, 1, 5, 0), (5, .invokespecial 3, 3, 8, 0), (8, .return_, 1, 9, 0)]
theorem dk_C_init : sn_tabOk prog_3_method_1_code tb_C_init := by unfold sn_tabOk; decide +kernel
def md_A_init : sn_Md := (⟨"SureNoes$Parted", "<init>", "(III[LSureNoes$Law;)V"⟩, prog_8_method_1_code, 5, (Option.none : Option FieldType))
def tb_A_init : sn_Tb := [(0, .aload_n 0, 1, 1, 0), (1, .iload_n 1, 1, 2, 0), (2, .iload_n 2, 1, 3, 0), (3, .iload_n 3, 1, 4, 0), (4, .aload 4, 2, 6, 0), (6, .invokespecial 1, 3, 9, 0), (9, .return_, 1, 10, 0)]
theorem dk_A_init : sn_tabOk prog_8_method_1_code tb_A_init := by unfold sn_tabOk; decide +kernel
def md_U_init : sn_Md := (⟨"SureNoes$Pushed", "<init>", "(II[LSureNoes$Law;)V"⟩, prog_10_method_1_code, 4, (Option.none : Option FieldType))
def tb_U_init : sn_Tb := [(0, .aload_n 0, 1, 1, 0), (1, .iconst 3, 1, 2, 3), (2, .iload_n 1, 1, 3, 0), (3, .iload_n 2, 1, 4, 0), (4, .aload_n 3, 1, 5, 0), (5, .invokespecial 3, 3, 8, 0), (8, .aload_n 0, 1, 9, 0), (9, .bipush 32, 2, 11, 32), (11, .newarray .int, 2, 13, 0), (13, .putfield 9, 3, 16, 0), (16, .aload_n 0, 1, 17, 0), (17, .bipush 32, 2, 19, 32), (19, .newarray .int, 2, 21, 0), (21, .putfield 15, 3, 24, 0), (24, .aload_n 0, 1, 25, 0), (25, .bipush 6, 2, 27, 6), (27, .newarray .int, 2, 29, 0), (29, .putfield 18, 3, 32, 0), (32, .aload_n 0, 1, 33, 0), (33, .bipush 32, 2, 35, 32), (35, .newarray .int, 2, 37, 0), (37, .putfield 21, 3, 40, 0), (40, .return_, 1, 41, 0)]
theorem dk_U_init : sn_tabOk prog_10_method_1_code tb_U_init := by unfold sn_tabOk; decide +kernel
def md_F_init : sn_Md := (⟨"SureNoes$Folded", "<init>", "(II[LSureNoes$Law;)V"⟩, prog_5_method_1_code, 4, (Option.none : Option FieldType))
def tb_F_init : sn_Tb := [(0, .aload_n 0, 1, 1, 0), (1, .iconst 4, 1, 2, 4), (2, .iload_n 1, 1, 3, 0), (3, .iload_n 2, 1, 4, 0), (4, .aload_n 3, 1, 5, 0), (5, .invokespecial 3, 3, 8, 0), (8, .aload_n 0, 1, 9, 0), (9, .bipush 32, 2, 11, 32), (11, .newarray .long, 2, 13, 0), (13, .putfield 9, 3, 16, 0), (16, .aload_n 0, 1, 17, 0), (17, .bipush 32, 2, 19, 32), (19, .newarray .int, 2, 21, 0), (21, .putfield 15, 3, 24, 0), (24, .aload_n 0, 1, 25, 0), (25, .bipush 32, 2, 27, 32), (27, .newarray .int, 2, 29, 0), (29, .putfield 19, 3, 32, 0), (32, .return_, 1, 33, 0)]
theorem dk_F_init : sn_tabOk prog_5_method_1_code tb_F_init := by unfold sn_tabOk; decide +kernel
def md_L_init : sn_Md := (⟨"SureNoes$Layered", "<init>", "(II[LSureNoes$Law;)V"⟩, prog_7_method_1_code, 4, (Option.none : Option FieldType))
def tb_L_init : sn_Tb := [(0, .aload_n 0, 1, 1, 0), (1, .iconst 5, 1, 2, 5), (2, .iload_n 1, 1, 3, 0), (3, .iload_n 2, 1, 4, 0), (4, .aload_n 3, 1, 5, 0), (5, .invokespecial 3, 3, 8, 0), (8, .aload_n 0, 1, 9, 0), (9, .bipush 6, 2, 11, 6), (11, .newarray .long, 2, 13, 0), (13, .putfield 11, 3, 16, 0), (16, .aload_n 0, 1, 17, 0), (17, .bipush 6, 2, 19, 6), (19, .newarray .long, 2, 21, 0), (21, .putfield 15, 3, 24, 0), (24, .aload_n 0, 1, 25, 0), (25, .iconst 0, 1, 26, 0), (26, .putfield 18, 3, 29, 0), (29, .return_, 1, 30, 0)]
theorem dk_L_init : sn_tabOk prog_7_method_1_code tb_L_init := by unfold sn_tabOk; decide +kernel
def md_X_keep : sn_Md := (⟨"SureNoes", "keep", "(LSureNoes$Book;)I"⟩, prog_1_method_44_code, 2, (Option.some FieldType.int))
def tb_X_keep : sn_Tb := [(0, .aload_n 0, 1, 1, 0), (1, .getfield 25, 3, 4, 0), (4, .bipush 8, 2, 6, 8), (6, .if_icmp .lt 6, 3, 9, 12), (9, .bipush (-104), 2, 11, 104), (11, .ireturn, 1, 12, 0), (12, .aload_n 0, 1, 13, 0), (13, .getfield 21, 3, 16, 0), (16, .aload_n 0, 1, 17, 0), (17, .getfield 25, 3, 20, 0), (20, .aload_n 1, 1, 21, 0), (21, .aastore, 1, 22, 0), (22, .aload_n 0, 1, 23, 0), (23, .dup, 1, 24, 0), (24, .getfield 25, 3, 27, 0), (27, .iconst 1, 1, 28, 1), (28, .iadd, 1, 29, 0), (29, .putfield 25, 3, 32, 0), (32, .aload_n 0, 1, 33, 0), (33, .getfield 25, 3, 36, 0), (36, .iconst 1, 1, 37, 1), (37, .isub, 1, 38, 0), (38, .ireturn, 1, 39, 0)]
theorem dk_X_keep : sn_tabOk prog_1_method_44_code tb_X_keep := by unfold sn_tabOk; decide +kernel
def md_X_as : sn_Md := (⟨"SureNoes", "as", "(II)I"⟩, prog_1_method_8_code, 4, (Option.some FieldType.int))
def tb_X_as : sn_Tb := [(0, .aload_n 0, 1, 1, 0), (1, .iload_n 1, 1, 2, 0), (2, .invokevirtual 102, 3, 5, 0), (5, .astore_n 3, 1, 6, 0), (6, .aload_n 3, 1, 7, 0), (7, .ifnonnull 6, 3, 10, 13), (10, .bipush (-101), 2, 12, 101), (12, .ireturn, 1, 13, 0), (13, .iload_n 2, 1, 14, 0), (14, .invokestatic 83, 3, 17, 0), (17, .ifCond .ne 6, 3, 20, 23), (20, .bipush (-102), 2, 22, 102), (22, .ireturn, 1, 23, 0), (23, .aload_n 3, 1, 24, 0), (24, .iload_n 2, 1, 25, 0), (25, .invokestatic 106, 3, 28, 0), (28, .ifCond .eq 7, 3, 31, 35), (31, .iload_n 1, 1, 32, 0), (32, .goto 4, 3, 35, 36), (35, .iconst (-1), 1, 36, 1), (36, .ireturn, 1, 37, 0)]
theorem dk_X_as : sn_tabOk prog_1_method_8_code tb_X_as := by unfold sn_tabOk; decide +kernel
def md_X_find : sn_Md := (⟨"SureNoes", "find", "(I)LSureNoes$Book;"⟩, prog_1_method_32_code, 2, (Option.some (FieldType.object "SureNoes$Book")))
def tb_X_find : sn_Tb := [(0, .iload_n 1, 1, 1, 0), (1, .ifCond .lt 20, 3, 4, 21), (4, .iload_n 1, 1, 5, 0), (5, .aload_n 0, 1, 6, 0), (6, .getfield 25, 3, 9, 0), (9, .if_icmp .ge 12, 3, 12, 21), (12, .aload_n 0, 1, 13, 0), (13, .getfield 21, 3, 16, 0), (16, .iload_n 1, 1, 17, 0), (17, .aaload, 1, 18, 0), (18, .goto 4, 3, 21, 22), (21, .aconst_null, 1, 22, 0), (22, .areturn, 1, 23, 0)]
theorem dk_X_find : sn_tabOk prog_1_method_32_code tb_X_find := by unfold sn_tabOk; decide +kernel
def md_X_isOfKind : sn_Md := (⟨"SureNoes", "isOfKind", "(LSureNoes$Book;I)Z"⟩, prog_1_method_34_code, 2, (Option.some FieldType.boolean))
def tb_X_isOfKind : sn_Tb := [(0, .iload_n 1, 1, 1, 0), (1, .tableswitch 60 0 4 #[35, 40, 45, 50, 55], 35, 36, 0), (36, .aload_n 0, 1, 37, 0), (37, .instanceof 267, 3, 40, 0), (40, .ireturn, 1, 41, 0), (41, .aload_n 0, 1, 42, 0), (42, .instanceof 269, 3, 45, 0), (45, .ireturn, 1, 46, 0), (46, .aload_n 0, 1, 47, 0), (47, .instanceof 271, 3, 50, 0), (50, .ireturn, 1, 51, 0), (51, .aload_n 0, 1, 52, 0), (52, .instanceof 234, 3, 55, 0), (55, .ireturn, 1, 56, 0), (56, .aload_n 0, 1, 57, 0), (57, .instanceof 273, 3, 60, 0), (60, .ireturn, 1, 61, 0), (61, .aload_n 0, 1, 62, 0), (62, .instanceof 275, 3, 65, 0), (65, .ireturn, 1, 66, 0)]
theorem dk_X_isOfKind : sn_tabOk prog_1_method_34_code tb_X_isOfKind := by unfold sn_tabOk; decide +kernel
def md_X_about : sn_Md := (⟨"SureNoes", "about", "(II)I"⟩, prog_1_method_9_code, 4, (Option.some FieldType.int))
def tb_X_about : sn_Tb := [(0, .aload_n 0, 1, 1, 0), (1, .iload_n 1, 1, 2, 0), (2, .invokevirtual 102, 3, 5, 0), (5, .astore_n 3, 1, 6, 0), (6, .aload_n 3, 1, 7, 0), (7, .ifnonnull 6, 3, 10, 13), (10, .bipush (-101), 2, 12, 101), (12, .ireturn, 1, 13, 0), (13, .iload_n 2, 1, 14, 0), (14, .tableswitch 74 0 5 #[38, 43, 48, 53, 61, 69], 38, 52, 0), (52, .aload_n 3, 1, 53, 0), (53, .getfield 110, 3, 56, 0), (56, .ireturn, 1, 57, 0), (57, .aload_n 3, 1, 58, 0), (58, .getfield 113, 3, 61, 0), (61, .ireturn, 1, 62, 0), (62, .aload_n 3, 1, 63, 0), (63, .getfield 116, 3, 66, 0), (66, .ireturn, 1, 67, 0), (67, .aload_n 3, 1, 68, 0), (68, .invokevirtual 119, 3, 71, 0), (71, .invokestatic 123, 3, 74, 0), (74, .ireturn, 1, 75, 0), (75, .aload_n 3, 1, 76, 0), (76, .invokevirtual 129, 3, 79, 0), (79, .invokestatic 123, 3, 82, 0), (82, .ireturn, 1, 83, 0), (83, .aload_n 3, 1, 84, 0), (84, .invokevirtual 132, 3, 87, 0), (87, .ireturn, 1, 88, 0), (88, .bipush (-102), 2, 90, 102), (90, .ireturn, 1, 91, 0)]
theorem dk_X_about : sn_tabOk prog_1_method_9_code tb_X_about := by unfold sn_tabOk; decide +kernel
def md_B_filledPlaces : sn_Md := (⟨"SureNoes$Book", "filledPlaces", "()J"⟩, prog_2_method_11_code, 4, (Option.some FieldType.long))
def tb_B_filledPlaces : sn_Tb := [(0, .lconst 0, 1, 1, 0), (1, .lstore_n 1, 1, 2, 0), (2, .iconst 0, 1, 3, 0), (3, .istore_n 3, 1, 4, 0), (4, .iload_n 3, 1, 5, 0), (5, .aload_n 0, 1, 6, 0), (6, .getfield 15, 3, 9, 0), (9, .if_icmp .ge 24, 3, 12, 33), (12, .aload_n 0, 1, 13, 0), (13, .getfield 25, 3, 16, 0), (16, .iload_n 3, 1, 17, 0), (17, .iaload, 1, 18, 0), (18, .ifCond .le 9, 3, 21, 27), (21, .lload_n 1, 1, 22, 0), (22, .lconst 1, 1, 23, 0), (23, .iload_n 3, 1, 24, 0), (24, .lshl, 1, 25, 0), (25, .lor, 1, 26, 0), (26, .lstore_n 1, 1, 27, 0), (27, .iinc 3 1, 3, 30, 1), (30, .goto (-26), 3, 33, 4), (33, .lload_n 1, 1, 34, 0), (34, .lreturn, 1, 35, 0)]
theorem dk_B_filledPlaces : sn_tabOk prog_2_method_11_code tb_B_filledPlaces := by unfold sn_tabOk; decide +kernel
def md_JL_bitCount : sn_Md := (⟨"java/lang/Long", "bitCount", "(J)I"⟩, prog_14_method_50_code, 2, (Option.some FieldType.int))
def tb_JL_bitCount : sn_Tb := [(0, .lload_n 0, 1, 1, 0), (1, .lload_n 0, 1, 2, 0), (2, .iconst 1, 1, 3, 1), (3, .lushr, 1, 4, 0), (4, .ldc2_w 314, 3, 7, 0), (7, .land, 1, 8, 0), (8, .lsub, 1, 9, 0), (9, .lstore_n 0, 1, 10, 0), (10, .lload_n 0, 1, 11, 0), (11, .ldc2_w 316, 3, 14, 0), (14, .land, 1, 15, 0), (15, .lload_n 0, 1, 16, 0), (16, .iconst 2, 1, 17, 2), (17, .lushr, 1, 18, 0), (18, .ldc2_w 316, 3, 21, 0), (21, .land, 1, 22, 0), (22, .ladd, 1, 23, 0), (23, .lstore_n 0, 1, 24, 0), (24, .lload_n 0, 1, 25, 0), (25, .lload_n 0, 1, 26, 0), (26, .iconst 4, 1, 27, 4), (27, .lushr, 1, 28, 0), (28, .ladd, 1, 29, 0), (29, .ldc2_w 318, 3, 32, 0), (32, .land, 1, 33, 0), (33, .lstore_n 0, 1, 34, 0), (34, .lload_n 0, 1, 35, 0), (35, .lload_n 0, 1, 36, 0), (36, .bipush 8, 2, 38, 8), (38, .lushr, 1, 39, 0), (39, .ladd, 1, 40, 0), (40, .lstore_n 0, 1, 41, 0), (41, .lload_n 0, 1, 42, 0), (42, .lload_n 0, 1, 43, 0), (43, .bipush 16, 2, 45, 16), (45, .lushr, 1, 46, 0), (46, .ladd, 1, 47, 0), (47, .lstore_n 0, 1, 48, 0), (48, .lload_n 0, 1, 49, 0), (49, .lload_n 0, 1, 50, 0), (50, .bipush 32, 2, 52, 32), (52, .lushr, 1, 53, 0), (53, .ladd, 1, 54, 0), (54, .lstore_n 0, 1, 55, 0), (55, .lload_n 0, 1, 56, 0), (56, .l2i, 1, 57, 0), (57, .bipush 127, 2, 59, 127), (59, .iand, 1, 60, 0), (60, .ireturn, 1, 61, 0)]
theorem dk_JL_bitCount : sn_tabOk prog_14_method_50_code tb_JL_bitCount := by unfold sn_tabOk; decide +kernel
def md_B_keysReally : sn_Md := (⟨"SureNoes$Book", "keysReally", "()J"⟩, prog_2_method_13_code, 4, (Option.some FieldType.long))
def tb_B_keysReally : sn_Tb := [(0, .lconst 0, 1, 1, 0), (1, .lstore_n 1, 1, 2, 0), (2, .iconst 0, 1, 3, 0), (3, .istore_n 3, 1, 4, 0), (4, .iload_n 3, 1, 5, 0), (5, .bipush 32, 2, 7, 32), (7, .if_icmp .ge 24, 3, 10, 31), (10, .aload_n 0, 1, 11, 0), (11, .getfield 29, 3, 14, 0), (14, .iload_n 3, 1, 15, 0), (15, .iaload, 1, 16, 0), (16, .ifCond .le 9, 3, 19, 25), (19, .lload_n 1, 1, 20, 0), (20, .lconst 1, 1, 21, 0), (21, .iload_n 3, 1, 22, 0), (22, .lshl, 1, 23, 0), (23, .lor, 1, 24, 0), (24, .lstore_n 1, 1, 25, 0), (25, .iinc 3 1, 3, 28, 1), (28, .goto (-24), 3, 31, 4), (31, .lload_n 1, 1, 32, 0), (32, .lreturn, 1, 33, 0)]
theorem dk_B_keysReally : sn_tabOk prog_2_method_13_code tb_B_keysReally := by unfold sn_tabOk; decide +kernel
def md_L_rowCount : sn_Md := (⟨"SureNoes$Layered", "rowCount", "()I"⟩, prog_7_method_5_code, 1, (Option.some FieldType.int))
def tb_L_rowCount : sn_Tb := [(0, .aload_n 0, 1, 1, 0), (1, .getfield 18, 3, 4, 0), (4, .ireturn, 1, 5, 0)]
theorem dk_L_rowCount : sn_tabOk prog_7_method_5_code tb_L_rowCount := by unfold sn_tabOk; decide +kernel
def md_B_rowCount : sn_Md := (⟨"SureNoes$Book", "rowCount", "()I"⟩, prog_2_method_9_code, 1, (Option.some FieldType.int))
def tb_B_rowCount : sn_Tb := [(0, .iconst 0, 1, 1, 0), (1, .ireturn, 1, 2, 0)]
theorem dk_B_rowCount : sn_tabOk prog_2_method_9_code tb_B_rowCount := by unfold sn_tabOk; decide +kernel
def md_X_at : sn_Md := (⟨"SureNoes", "at", "(II)I"⟩, prog_1_method_10_code, 4, (Option.some FieldType.int))
def tb_X_at : sn_Tb := [(0, .aload_n 0, 1, 1, 0), (1, .iload_n 1, 1, 2, 0), (2, .invokevirtual 102, 3, 5, 0), (5, .astore_n 3, 1, 6, 0), (6, .aload_n 3, 1, 7, 0), (7, .ifnull 15, 3, 10, 22), (10, .iload_n 2, 1, 11, 0), (11, .ifCond .lt 11, 3, 14, 22), (14, .iload_n 2, 1, 15, 0), (15, .aload_n 3, 1, 16, 0), (16, .getfield 113, 3, 19, 0), (19, .if_icmp .lt 6, 3, 22, 25), (22, .bipush (-101), 2, 24, 101), (24, .ireturn, 1, 25, 0), (25, .aload_n 3, 1, 26, 0), (26, .getfield 136, 3, 29, 0), (29, .iload_n 2, 1, 30, 0), (30, .iaload, 1, 31, 0), (31, .ireturn, 1, 32, 0)]
theorem dk_X_at : sn_tabOk prog_1_method_10_code tb_X_at := by unfold sn_tabOk; decide +kernel
def md_X_row : sn_Md := (⟨"SureNoes", "row", "(II)J"⟩, prog_1_method_11_code, 4, (Option.some FieldType.long))
def tb_X_row : sn_Tb := [(0, .aload_n 0, 1, 1, 0), (1, .iload_n 1, 1, 2, 0), (2, .invokevirtual 102, 3, 5, 0), (5, .astore_n 3, 1, 6, 0), (6, .aload_n 3, 1, 7, 0), (7, .ifnull 15, 3, 10, 22), (10, .iload_n 2, 1, 11, 0), (11, .ifCond .lt 11, 3, 14, 22), (14, .iload_n 2, 1, 15, 0), (15, .aload_n 3, 1, 16, 0), (16, .invokevirtual 132, 3, 19, 0), (19, .if_icmp .lt 7, 3, 22, 26), (22, .ldc2_w 140, 3, 25, 0), (25, .lreturn, 1, 26, 0), (26, .aload_n 3, 1, 27, 0), (27, .iload_n 2, 1, 28, 0), (28, .invokevirtual 142, 3, 31, 0), (31, .lreturn, 1, 32, 0)]
theorem dk_X_row : sn_tabOk prog_1_method_11_code tb_X_row := by unfold sn_tabOk; decide +kernel
def md_L_rowBits : sn_Md := (⟨"SureNoes$Layered", "rowBits", "(I)J"⟩, prog_7_method_6_code, 2, (Option.some FieldType.long))
def tb_L_rowBits : sn_Tb := [(0, .iload_n 1, 1, 1, 0), (1, .ifCond .lt 20, 3, 4, 21), (4, .iload_n 1, 1, 5, 0), (5, .aload_n 0, 1, 6, 0), (6, .getfield 18, 3, 9, 0), (9, .if_icmp .ge 12, 3, 12, 21), (12, .aload_n 0, 1, 13, 0), (13, .getfield 11, 3, 16, 0), (16, .iload_n 1, 1, 17, 0), (17, .laload, 1, 18, 0), (18, .goto 4, 3, 21, 22), (21, .lconst 0, 1, 22, 0), (22, .lreturn, 1, 23, 0)]
theorem dk_L_rowBits : sn_tabOk prog_7_method_6_code tb_L_rowBits := by unfold sn_tabOk; decide +kernel
def md_B_rowBits : sn_Md := (⟨"SureNoes$Book", "rowBits", "(I)J"⟩, prog_2_method_10_code, 2, (Option.some FieldType.long))
def tb_B_rowBits : sn_Tb := [(0, .lconst 0, 1, 1, 0), (1, .lreturn, 1, 2, 0)]
theorem dk_B_rowBits : sn_tabOk prog_2_method_10_code tb_B_rowBits := by unfold sn_tabOk; decide +kernel
def md_X_places : sn_Md := (⟨"SureNoes", "places", "(II)J"⟩, prog_1_method_12_code, 4, (Option.some FieldType.long))
def tb_X_places : sn_Tb := [(0, .aload_n 0, 1, 1, 0), (1, .iload_n 1, 1, 2, 0), (2, .invokevirtual 102, 3, 5, 0), (5, .astore_n 3, 1, 6, 0), (6, .aload_n 3, 1, 7, 0), (7, .ifnull 10, 3, 10, 17), (10, .iload_n 2, 1, 11, 0), (11, .invokestatic 43, 3, 14, 0), (14, .ifCond .ne 7, 3, 17, 21), (17, .ldc2_w 140, 3, 20, 0), (20, .lreturn, 1, 21, 0), (21, .aload_n 3, 1, 22, 0), (22, .iload_n 2, 1, 23, 0), (23, .invokevirtual 146, 3, 26, 0), (26, .lreturn, 1, 27, 0)]
theorem dk_X_places : sn_tabOk prog_1_method_12_code tb_X_places := by unfold sn_tabOk; decide +kernel
def md_P_placeBits : sn_Md := (⟨"SureNoes$Plain", "placeBits", "(I)J"⟩, prog_9_method_2_code, 5, (Option.some FieldType.long))
def tb_P_placeBits : sn_Tb := [(0, .lconst 0, 1, 1, 0), (1, .lstore_n 2, 1, 2, 0), (2, .iconst 0, 1, 3, 0), (3, .istore 4, 2, 5, 0), (5, .iload 4, 2, 7, 0), (7, .aload_n 0, 1, 8, 0), (8, .getfield 7, 3, 11, 0), (11, .arraylength, 1, 12, 0), (12, .if_icmp .ge 29, 3, 15, 41), (15, .lload_n 2, 1, 16, 0), (16, .lconst 1, 1, 17, 0), (17, .aload_n 0, 1, 18, 0), (18, .getfield 7, 3, 21, 0), (21, .iload 4, 2, 23, 0), (23, .aaload, 1, 24, 0), (24, .iload_n 1, 1, 25, 0), (25, .aload_n 0, 1, 26, 0), (26, .getfield 13, 3, 29, 0), (29, .invokevirtual 17, 3, 32, 0), (32, .lshl, 1, 33, 0), (33, .lor, 1, 34, 0), (34, .lstore_n 2, 1, 35, 0), (35, .iinc 4 1, 3, 38, 1), (38, .goto (-33), 3, 41, 5), (41, .lload_n 2, 1, 42, 0), (42, .lreturn, 1, 43, 0)]
theorem dk_P_placeBits : sn_tabOk prog_9_method_2_code tb_P_placeBits := by unfold sn_tabOk; decide +kernel
def md_W_placeFor : sn_Md := (⟨"SureNoes$Law", "placeFor", "(II)I"⟩, prog_6_method_3_code, 3, (Option.some FieldType.int))
def tb_W_placeFor : sn_Tb := [(0, .iload_n 2, 1, 1, 0), (1, .ifCond .le 22, 3, 4, 23), (4, .aload_n 0, 1, 5, 0), (5, .getfield 9, 3, 8, 0), (8, .iload_n 1, 1, 9, 0), (9, .imul, 1, 10, 0), (10, .aload_n 0, 1, 11, 0), (11, .getfield 15, 3, 14, 0), (14, .iadd, 1, 15, 0), (15, .bipush 37, 2, 17, 37), (17, .irem, 1, 18, 0), (18, .iload_n 2, 1, 19, 0), (19, .irem, 1, 20, 0), (20, .goto 4, 3, 23, 24), (23, .iconst 0, 1, 24, 0), (24, .ireturn, 1, 25, 0)]
theorem dk_W_placeFor : sn_tabOk prog_6_method_3_code tb_W_placeFor := by unfold sn_tabOk; decide +kernel
def md_A_placeBits : sn_Md := (⟨"SureNoes$Parted", "placeBits", "(I)J"⟩, prog_8_method_2_code, 6, (Option.some FieldType.long))
def tb_A_placeBits : sn_Tb := [(0, .aload_n 0, 1, 1, 0), (1, .getfield 7, 3, 4, 0), (4, .arraylength, 1, 5, 0), (5, .ifCond .le 20, 3, 8, 25), (8, .iconst 1, 1, 9, 1), (9, .aload_n 0, 1, 10, 0), (10, .getfield 13, 3, 13, 0), (13, .aload_n 0, 1, 14, 0), (14, .getfield 7, 3, 17, 0), (17, .arraylength, 1, 18, 0), (18, .idiv, 1, 19, 0), (19, .invokestatic 17, 3, 22, 0), (22, .goto 7, 3, 25, 29), (25, .aload_n 0, 1, 26, 0), (26, .getfield 13, 3, 29, 0), (29, .istore_n 2, 1, 30, 0), (30, .lconst 0, 1, 31, 0), (31, .lstore_n 3, 1, 32, 0), (32, .iconst 0, 1, 33, 0), (33, .istore 5, 2, 35, 0), (35, .iload 5, 2, 37, 0), (37, .aload_n 0, 1, 38, 0), (38, .getfield 7, 3, 41, 0), (41, .arraylength, 1, 42, 0), (42, .if_icmp .ge 38, 3, 45, 80), (45, .lload_n 3, 1, 46, 0), (46, .lconst 1, 1, 47, 0), (47, .iload 5, 2, 49, 0), (49, .iload_n 2, 1, 50, 0), (50, .imul, 1, 51, 0), (51, .aload_n 0, 1, 52, 0), (52, .getfield 7, 3, 55, 0), (55, .iload 5, 2, 57, 0), (57, .aaload, 1, 58, 0), (58, .iload_n 1, 1, 59, 0), (59, .iload_n 2, 1, 60, 0), (60, .invokevirtual 23, 3, 63, 0), (63, .iadd, 1, 64, 0), (64, .aload_n 0, 1, 65, 0), (65, .getfield 13, 3, 68, 0), (68, .invokestatic 28, 3, 71, 0), (71, .lshl, 1, 72, 0), (72, .lor, 1, 73, 0), (73, .lstore_n 3, 1, 74, 0), (74, .iinc 5 1, 3, 77, 1), (77, .goto (-42), 3, 80, 35), (80, .lload_n 3, 1, 81, 0), (81, .lreturn, 1, 82, 0)]
theorem dk_A_placeBits : sn_tabOk prog_8_method_2_code tb_A_placeBits := by unfold sn_tabOk; decide +kernel
def md_JM_max : sn_Md := (⟨"java/lang/Math", "max", "(II)I"⟩, prog_15_method_65_code, 2, (Option.some FieldType.int))
def tb_JM_max : sn_Tb := [(0, .iload_n 0, 1, 1, 0), (1, .iload_n 1, 1, 2, 0), (2, .if_icmp .lt 7, 3, 5, 9), (5, .iload_n 0, 1, 6, 0), (6, .goto 4, 3, 9, 10), (9, .iload_n 1, 1, 10, 0), (10, .ireturn, 1, 11, 0)]
theorem dk_JM_max : sn_tabOk prog_15_method_65_code tb_JM_max := by unfold sn_tabOk; decide +kernel
def md_U_placeBits : sn_Md := (⟨"SureNoes$Pushed", "placeBits", "(I)J"⟩, prog_10_method_5_code, 3, (Option.some FieldType.long))
def tb_U_placeBits : sn_Tb := [(0, .aload_n 0, 1, 1, 0), (1, .iload_n 1, 1, 2, 0), (2, .invokevirtual 45, 3, 5, 0), (5, .istore_n 2, 1, 6, 0), (6, .lconst 1, 1, 7, 0), (7, .iload_n 2, 1, 8, 0), (8, .lshl, 1, 9, 0), (9, .lconst 1, 1, 10, 0), (10, .aload_n 0, 1, 11, 0), (11, .iload_n 2, 1, 12, 0), (12, .aload_n 0, 1, 13, 0), (13, .iload_n 1, 1, 14, 0), (14, .invokevirtual 48, 3, 17, 0), (17, .invokevirtual 51, 3, 20, 0), (20, .lshl, 1, 21, 0), (21, .lor, 1, 22, 0), (22, .lreturn, 1, 23, 0)]
theorem dk_U_placeBits : sn_tabOk prog_10_method_5_code tb_U_placeBits := by unfold sn_tabOk; decide +kernel
def md_U_firstPlace : sn_Md := (⟨"SureNoes$Pushed", "firstPlace", "(I)I"⟩, prog_10_method_2_code, 2, (Option.some FieldType.int))
def tb_U_firstPlace : sn_Tb := [(0, .aload_n 0, 1, 1, 0), (1, .getfield 24, 3, 4, 0), (4, .arraylength, 1, 5, 0), (5, .ifCond .le 20, 3, 8, 25), (8, .aload_n 0, 1, 9, 0), (9, .getfield 24, 3, 12, 0), (12, .iconst 0, 1, 13, 0), (13, .aaload, 1, 14, 0), (14, .iload_n 1, 1, 15, 0), (15, .aload_n 0, 1, 16, 0), (16, .getfield 28, 3, 19, 0), (19, .invokevirtual 32, 3, 22, 0), (22, .goto 4, 3, 25, 26), (25, .iconst 0, 1, 26, 0), (26, .ireturn, 1, 27, 0)]
theorem dk_U_firstPlace : sn_tabOk prog_10_method_2_code tb_U_firstPlace := by unfold sn_tabOk; decide +kernel
def md_U_markOf : sn_Md := (⟨"SureNoes$Pushed", "markOf", "(I)I"⟩, prog_10_method_3_code, 2, (Option.some FieldType.int))
def tb_U_markOf : sn_Tb := [(0, .aload_n 0, 1, 1, 0), (1, .getfield 24, 3, 4, 0), (4, .arraylength, 1, 5, 0), (5, .iconst 1, 1, 6, 1), (6, .if_icmp .le 16, 3, 9, 22), (9, .aload_n 0, 1, 10, 0), (10, .getfield 24, 3, 13, 0), (13, .iconst 1, 1, 14, 1), (14, .aaload, 1, 15, 0), (15, .iload_n 1, 1, 16, 0), (16, .invokevirtual 38, 3, 19, 0), (19, .goto 4, 3, 22, 23), (22, .iconst 0, 1, 23, 0), (23, .ireturn, 1, 24, 0)]
theorem dk_U_markOf : sn_tabOk prog_10_method_3_code tb_U_markOf := by unfold sn_tabOk; decide +kernel
def md_W_markFor : sn_Md := (⟨"SureNoes$Law", "markFor", "(I)I"⟩, prog_6_method_4_code, 2, (Option.some FieldType.int))
def tb_W_markFor : sn_Tb := [(0, .aload_n 0, 1, 1, 0), (1, .getfield 9, 3, 4, 0), (4, .iload_n 1, 1, 5, 0), (5, .imul, 1, 6, 0), (6, .aload_n 0, 1, 7, 0), (7, .getfield 15, 3, 10, 0), (10, .iadd, 1, 11, 0), (11, .bipush 37, 2, 13, 37), (13, .irem, 1, 14, 0), (14, .bipush 7, 2, 16, 7), (16, .irem, 1, 17, 0), (17, .iconst 1, 1, 18, 1), (18, .iadd, 1, 19, 0), (19, .ireturn, 1, 20, 0)]
theorem dk_W_markFor : sn_tabOk prog_6_method_4_code tb_W_markFor := by unfold sn_tabOk; decide +kernel
def md_U_otherPlace : sn_Md := (⟨"SureNoes$Pushed", "otherPlace", "(II)I"⟩, prog_10_method_4_code, 3, (Option.some FieldType.int))
def tb_U_otherPlace : sn_Tb := [(0, .iconst 5, 1, 1, 5), (1, .iload_n 2, 1, 2, 0), (2, .imul, 1, 3, 0), (3, .iload_n 1, 1, 4, 0), (4, .isub, 1, 5, 0), (5, .aload_n 0, 1, 6, 0), (6, .getfield 28, 3, 9, 0), (9, .invokestatic 42, 3, 12, 0), (12, .ireturn, 1, 13, 0)]
theorem dk_U_otherPlace : sn_tabOk prog_10_method_4_code tb_U_otherPlace := by unfold sn_tabOk; decide +kernel
def md_X_put : sn_Md := (⟨"SureNoes", "put", "(II)I"⟩, prog_1_method_13_code, 5, (Option.some FieldType.int))
def tb_X_put : sn_Tb := [(0, .aload_n 0, 1, 1, 0), (1, .iload_n 1, 1, 2, 0), (2, .invokevirtual 102, 3, 5, 0), (5, .astore_n 3, 1, 6, 0), (6, .aload_n 3, 1, 7, 0), (7, .ifnull 10, 3, 10, 17), (10, .iload_n 2, 1, 11, 0), (11, .invokestatic 43, 3, 14, 0), (14, .ifCond .ne 6, 3, 17, 20), (17, .bipush (-101), 2, 19, 101), (19, .ireturn, 1, 20, 0), (20, .aload_n 3, 1, 21, 0), (21, .invokevirtual 149, 3, 24, 0), (24, .ifCond .eq 14, 3, 27, 38), (27, .aload_n 3, 1, 28, 0), (28, .getfield 153, 3, 31, 0), (31, .iload_n 2, 1, 32, 0), (32, .iaload, 1, 33, 0), (33, .bipush 99, 2, 35, 99), (35, .if_icmp .lt 6, 3, 38, 41), (38, .bipush (-103), 2, 40, 103), (40, .ireturn, 1, 41, 0), (41, .aload_n 3, 1, 42, 0), (42, .iload_n 2, 1, 43, 0), (43, .invokevirtual 156, 3, 46, 0), (46, .istore 4, 2, 48, 0), (48, .aload_n 3, 1, 49, 0), (49, .iload_n 2, 1, 50, 0), (50, .invokevirtual 159, 3, 53, 0), (53, .ifCond .ne 6, 3, 56, 59), (56, .bipush (-104), 2, 58, 104), (58, .ireturn, 1, 59, 0), (59, .aload_n 3, 1, 60, 0), (60, .getfield 153, 3, 63, 0), (63, .iload_n 2, 1, 64, 0), (64, .dup2, 1, 65, 0), (65, .iaload, 1, 66, 0), (66, .iconst 1, 1, 67, 1), (67, .iadd, 1, 68, 0), (68, .iastore, 1, 69, 0), (69, .iload 4, 2, 71, 0), (71, .ifCond .eq 7, 3, 74, 78), (74, .iconst 1, 1, 75, 1), (75, .goto 4, 3, 78, 79), (78, .iconst 0, 1, 79, 0), (79, .ireturn, 1, 80, 0)]
theorem dk_X_put : sn_tabOk prog_1_method_13_code tb_X_put := by unfold sn_tabOk; decide +kernel
def md_P_letsPut : sn_Md := (⟨"SureNoes$Plain", "letsPut", "()Z"⟩, prog_9_method_4_code, 1, (Option.some FieldType.boolean))
def tb_P_letsPut : sn_Tb := [(0, .iconst 1, 1, 1, 1), (1, .ireturn, 1, 2, 0)]
theorem dk_P_letsPut : sn_tabOk prog_9_method_4_code tb_P_letsPut := by unfold sn_tabOk; decide +kernel
def md_F_letsPut : sn_Md := (⟨"SureNoes$Folded", "letsPut", "()Z"⟩, prog_5_method_5_code, 1, (Option.some FieldType.boolean))
def tb_F_letsPut : sn_Tb := [(0, .iconst 0, 1, 1, 0), (1, .ireturn, 1, 2, 0)]
theorem dk_F_letsPut : sn_tabOk prog_5_method_5_code tb_F_letsPut := by unfold sn_tabOk; decide +kernel
def md_L_letsPut : sn_Md := (⟨"SureNoes$Layered", "letsPut", "()Z"⟩, prog_7_method_4_code, 1, (Option.some FieldType.boolean))
def tb_L_letsPut : sn_Tb := [(0, .iconst 0, 1, 1, 0), (1, .ireturn, 1, 2, 0)]
theorem dk_L_letsPut : sn_tabOk prog_7_method_4_code tb_L_letsPut := by unfold sn_tabOk; decide +kernel
def md_U_letsPut : sn_Md := (⟨"SureNoes$Pushed", "letsPut", "()Z"⟩, prog_10_method_7_code, 1, (Option.some FieldType.boolean))
def tb_U_letsPut : sn_Tb := [(0, .iconst 1, 1, 1, 1), (1, .ireturn, 1, 2, 0)]
theorem dk_U_letsPut : sn_tabOk prog_10_method_7_code tb_U_letsPut := by unfold sn_tabOk; decide +kernel
def md_P_holds : sn_Md := (⟨"SureNoes$Plain", "holds", "(I)Z"⟩, prog_9_method_3_code, 2, (Option.some FieldType.boolean))
def tb_P_holds : sn_Tb := [(0, .aload_n 0, 1, 1, 0), (1, .iload_n 1, 1, 2, 0), (2, .invokevirtual 23, 3, 5, 0), (5, .aload_n 0, 1, 6, 0), (6, .invokevirtual 27, 3, 9, 0), (9, .ldc2_w 31, 3, 12, 0), (12, .lxor, 1, 13, 0), (13, .land, 1, 14, 0), (14, .lconst 0, 1, 15, 0), (15, .lcmp, 1, 16, 0), (16, .ifCond .ne 7, 3, 19, 23), (19, .iconst 1, 1, 20, 1), (20, .goto 4, 3, 23, 24), (23, .iconst 0, 1, 24, 0), (24, .ireturn, 1, 25, 0)]
theorem dk_P_holds : sn_tabOk prog_9_method_3_code tb_P_holds := by unfold sn_tabOk; decide +kernel
def md_F_holds : sn_Md := (⟨"SureNoes$Folded", "holds", "(I)Z"⟩, prog_5_method_4_code, 2, (Option.some FieldType.boolean))
def tb_F_holds : sn_Tb := [(0, .aload_n 0, 1, 1, 0), (1, .aload_n 0, 1, 2, 0), (2, .iload_n 1, 1, 3, 0), (3, .invokevirtual 43, 3, 6, 0), (6, .invokevirtual 47, 3, 9, 0), (9, .aload_n 0, 1, 10, 0), (10, .iload_n 1, 1, 11, 0), (11, .invokevirtual 51, 3, 14, 0), (14, .if_icmp .ne 7, 3, 17, 21), (17, .iconst 1, 1, 18, 1), (18, .goto 4, 3, 21, 22), (21, .iconst 0, 1, 22, 0), (22, .ireturn, 1, 23, 0)]
theorem dk_F_holds : sn_tabOk prog_5_method_4_code tb_F_holds := by unfold sn_tabOk; decide +kernel
def md_F_together : sn_Md := (⟨"SureNoes$Folded", "together", "(J)I"⟩, prog_5_method_3_code, 5, (Option.some FieldType.int))
def tb_F_together : sn_Tb := [(0, .iconst 0, 1, 1, 0), (1, .istore_n 3, 1, 2, 0), (2, .iconst 0, 1, 3, 0), (3, .istore 4, 2, 5, 0), (5, .iload 4, 2, 7, 0), (7, .aload_n 0, 1, 8, 0), (8, .getfield 32, 3, 11, 0), (11, .if_icmp .ge 28, 3, 14, 39), (14, .lload_n 1, 1, 15, 0), (15, .iload 4, 2, 17, 0), (17, .invokestatic 36, 3, 20, 0), (20, .ifCond .eq 13, 3, 23, 33), (23, .iload_n 3, 1, 24, 0), (24, .aload_n 0, 1, 25, 0), (25, .getfield 40, 3, 28, 0), (28, .iload 4, 2, 30, 0), (30, .iaload, 1, 31, 0), (31, .ixor, 1, 32, 0), (32, .istore_n 3, 1, 33, 0), (33, .iinc 4 1, 3, 36, 1), (36, .goto (-31), 3, 39, 5), (39, .iload_n 3, 1, 40, 0), (40, .ireturn, 1, 41, 0)]
theorem dk_F_together : sn_tabOk prog_5_method_3_code tb_F_together := by unfold sn_tabOk; decide +kernel
def md_F_markOf : sn_Md := (⟨"SureNoes$Folded", "markOf", "(I)I"⟩, prog_5_method_2_code, 2, (Option.some FieldType.int))
def tb_F_markOf : sn_Tb := [(0, .aload_n 0, 1, 1, 0), (1, .getfield 22, 3, 4, 0), (4, .arraylength, 1, 5, 0), (5, .ifCond .le 16, 3, 8, 21), (8, .aload_n 0, 1, 9, 0), (9, .getfield 22, 3, 12, 0), (12, .iconst 0, 1, 13, 0), (13, .aaload, 1, 14, 0), (14, .iload_n 1, 1, 15, 0), (15, .invokevirtual 26, 3, 18, 0), (18, .goto 4, 3, 21, 22), (21, .iconst 0, 1, 22, 0), (22, .ireturn, 1, 23, 0)]
theorem dk_F_markOf : sn_tabOk prog_5_method_2_code tb_F_markOf := by unfold sn_tabOk; decide +kernel
def md_L_holds : sn_Md := (⟨"SureNoes$Layered", "holds", "(I)Z"⟩, prog_7_method_3_code, 3, (Option.some FieldType.boolean))
def tb_L_holds : sn_Tb := [(0, .iconst 0, 1, 1, 0), (1, .istore_n 2, 1, 2, 0), (2, .iload_n 2, 1, 3, 0), (3, .aload_n 0, 1, 4, 0), (4, .getfield 18, 3, 7, 0), (7, .if_icmp .ge 27, 3, 10, 34), (10, .aload_n 0, 1, 11, 0), (11, .getfield 11, 3, 14, 0), (14, .iload_n 2, 1, 15, 0), (15, .laload, 1, 16, 0), (16, .aload_n 0, 1, 17, 0), (17, .iload_n 2, 1, 18, 0), (18, .iload_n 1, 1, 19, 0), (19, .invokevirtual 38, 3, 22, 0), (22, .invokestatic 41, 3, 25, 0), (25, .ifCond .eq 9, 3, 28, 34), (28, .iinc 2 1, 3, 31, 1), (31, .goto (-29), 3, 34, 2), (34, .iload_n 2, 1, 35, 0), (35, .iconst 2, 1, 36, 2), (36, .irem, 1, 37, 0), (37, .iconst 1, 1, 38, 1), (38, .if_icmp .ne 7, 3, 41, 45), (41, .iconst 1, 1, 42, 1), (42, .goto 4, 3, 45, 46), (45, .iconst 0, 1, 46, 0), (46, .ireturn, 1, 47, 0)]
theorem dk_L_holds : sn_tabOk prog_7_method_3_code tb_L_holds := by unfold sn_tabOk; decide +kernel
def md_L_placeInRow : sn_Md := (⟨"SureNoes$Layered", "placeInRow", "(II)I"⟩, prog_7_method_2_code, 4, (Option.some FieldType.int))
def tb_L_placeInRow : sn_Tb := [(0, .iload_n 1, 1, 1, 0), (1, .aload_n 0, 1, 2, 0), (2, .getfield 22, 3, 5, 0), (5, .arraylength, 1, 6, 0), (6, .invokestatic 26, 3, 9, 0), (9, .istore_n 3, 1, 10, 0), (10, .iload_n 3, 1, 11, 0), (11, .aload_n 0, 1, 12, 0), (12, .getfield 22, 3, 15, 0), (15, .arraylength, 1, 16, 0), (16, .if_icmp .ge 20, 3, 19, 36), (19, .aload_n 0, 1, 20, 0), (20, .getfield 22, 3, 23, 0), (23, .iload_n 3, 1, 24, 0), (24, .aaload, 1, 25, 0), (25, .iload_n 2, 1, 26, 0), (26, .aload_n 0, 1, 27, 0), (27, .getfield 30, 3, 30, 0), (30, .invokevirtual 33, 3, 33, 0), (33, .goto 4, 3, 36, 37), (36, .iconst 0, 1, 37, 0), (37, .ireturn, 1, 38, 0)]
theorem dk_L_placeInRow : sn_tabOk prog_7_method_2_code tb_L_placeInRow := by unfold sn_tabOk; decide +kernel
def md_U_holds : sn_Md := (⟨"SureNoes$Pushed", "holds", "(I)Z"⟩, prog_10_method_6_code, 4, (Option.some FieldType.boolean))
def tb_U_holds : sn_Tb := [(0, .aload_n 0, 1, 1, 0), (1, .iload_n 1, 1, 2, 0), (2, .invokevirtual 45, 3, 5, 0), (5, .istore_n 2, 1, 6, 0), (6, .aload_n 0, 1, 7, 0), (7, .iload_n 1, 1, 8, 0), (8, .invokevirtual 48, 3, 11, 0), (11, .istore_n 3, 1, 12, 0), (12, .aload_n 0, 1, 13, 0), (13, .getfield 54, 3, 16, 0), (16, .iload_n 2, 1, 17, 0), (17, .iaload, 1, 18, 0), (18, .iload_n 3, 1, 19, 0), (19, .if_icmp .eq 18, 3, 22, 37), (22, .aload_n 0, 1, 23, 0), (23, .getfield 54, 3, 26, 0), (26, .aload_n 0, 1, 27, 0), (27, .iload_n 2, 1, 28, 0), (28, .iload_n 3, 1, 29, 0), (29, .invokevirtual 51, 3, 32, 0), (32, .iaload, 1, 33, 0), (33, .iload_n 3, 1, 34, 0), (34, .if_icmp .ne 7, 3, 37, 41), (37, .iconst 1, 1, 38, 1), (38, .goto 4, 3, 41, 42), (41, .iconst 0, 1, 42, 0), (42, .ireturn, 1, 43, 0)]
theorem dk_U_holds : sn_tabOk prog_10_method_6_code tb_U_holds := by unfold sn_tabOk; decide +kernel
def md_C_insert : sn_Md := (⟨"SureNoes$Counted", "insert", "(I)Z"⟩, prog_3_method_2_code, 5, (Option.some FieldType.boolean))
def tb_C_insert : sn_Tb := [(0, .aload_n 0, 1, 1, 0), (1, .iload_n 1, 1, 2, 0), (2, .invokevirtual 9, 3, 5, 0), (5, .lstore_n 2, 1, 6, 0), (6, .iconst 0, 1, 7, 0), (7, .istore 4, 2, 9, 0), (9, .iload 4, 2, 11, 0), (11, .aload_n 0, 1, 12, 0), (12, .getfield 15, 3, 15, 0), (15, .if_icmp .ge 41, 3, 18, 56), (18, .lload_n 2, 1, 19, 0), (19, .iload 4, 2, 21, 0), (21, .invokestatic 19, 3, 24, 0), (24, .ifCond .eq 26, 3, 27, 50), (27, .aload_n 0, 1, 28, 0), (28, .getfield 23, 3, 31, 0), (31, .iload 4, 2, 33, 0), (33, .iaload, 1, 34, 0), (34, .bipush 7, 2, 36, 7), (36, .if_icmp .ge 14, 3, 39, 50), (39, .aload_n 0, 1, 40, 0), (40, .getfield 23, 3, 43, 0), (43, .iload 4, 2, 45, 0), (45, .dup2, 1, 46, 0), (46, .iaload, 1, 47, 0), (47, .iconst 1, 1, 48, 1), (48, .iadd, 1, 49, 0), (49, .iastore, 1, 50, 0), (50, .iinc 4 1, 3, 53, 1), (53, .goto (-44), 3, 56, 9), (56, .iconst 1, 1, 57, 1), (57, .ireturn, 1, 58, 0)]
theorem dk_C_insert : sn_tabOk prog_3_method_2_code tb_C_insert := by unfold sn_tabOk; decide +kernel
def md_P_insert : sn_Md := (⟨"SureNoes$Plain", "insert", "(I)Z"⟩, prog_9_method_5_code, 5, (Option.some FieldType.boolean))
def tb_P_insert : sn_Tb := [(0, .aload_n 0, 1, 1, 0), (1, .iload_n 1, 1, 2, 0), (2, .invokevirtual 23, 3, 5, 0), (5, .lstore_n 2, 1, 6, 0), (6, .iconst 0, 1, 7, 0), (7, .istore 4, 2, 9, 0), (9, .iload 4, 2, 11, 0), (11, .aload_n 0, 1, 12, 0), (12, .getfield 13, 3, 15, 0), (15, .if_icmp .ge 26, 3, 18, 41), (18, .lload_n 2, 1, 19, 0), (19, .iload 4, 2, 21, 0), (21, .invokestatic 33, 3, 24, 0), (24, .ifCond .eq 11, 3, 27, 35), (27, .aload_n 0, 1, 28, 0), (28, .getfield 39, 3, 31, 0), (31, .iload 4, 2, 33, 0), (33, .iconst 1, 1, 34, 1), (34, .iastore, 1, 35, 0), (35, .iinc 4 1, 3, 38, 1), (38, .goto (-29), 3, 41, 9), (41, .iconst 1, 1, 42, 1), (42, .ireturn, 1, 43, 0)]
theorem dk_P_insert : sn_tabOk prog_9_method_5_code tb_P_insert := by unfold sn_tabOk; decide +kernel
def md_U_insert : sn_Md := (⟨"SureNoes$Pushed", "insert", "(I)Z"⟩, prog_10_method_8_code, 2, (Option.some FieldType.boolean))
def tb_U_insert : sn_Tb := [(0, .aload_n 0, 1, 1, 0), (1, .getfield 54, 3, 4, 0), (4, .iconst 0, 1, 5, 0), (5, .aload_n 0, 1, 6, 0), (6, .getfield 9, 3, 9, 0), (9, .iconst 0, 1, 10, 0), (10, .aload_n 0, 1, 11, 0), (11, .getfield 28, 3, 14, 0), (14, .invokestatic 57, 3, 17, 0), (17, .aload_n 0, 1, 18, 0), (18, .aload_n 0, 1, 19, 0), (19, .getfield 54, 3, 22, 0), (22, .iload_n 1, 1, 23, 0), (23, .invokevirtual 63, 3, 26, 0), (26, .ifCond .eq 5, 3, 29, 31), (29, .iconst 1, 1, 30, 1), (30, .ireturn, 1, 31, 0), (31, .aload_n 0, 1, 32, 0), (32, .getfield 9, 3, 35, 0), (35, .iconst 0, 1, 36, 0), (36, .aload_n 0, 1, 37, 0), (37, .getfield 54, 3, 40, 0), (40, .iconst 0, 1, 41, 0), (41, .aload_n 0, 1, 42, 0), (42, .getfield 28, 3, 45, 0), (45, .invokestatic 57, 3, 48, 0), (48, .iconst 0, 1, 49, 0), (49, .ireturn, 1, 50, 0)]
theorem dk_U_insert : sn_tabOk prog_10_method_8_code tb_U_insert := by unfold sn_tabOk; decide +kernel
def md_U_pushInto : sn_Md := (⟨"SureNoes$Pushed", "pushInto", "([II)Z"⟩, prog_10_method_11_code, 8, (Option.some FieldType.boolean))
def tb_U_pushInto : sn_Tb := [(0, .aload_n 0, 1, 1, 0), (1, .iload_n 2, 1, 2, 0), (2, .invokevirtual 45, 3, 5, 0), (5, .istore_n 3, 1, 6, 0), (6, .aload_n 0, 1, 7, 0), (7, .iload_n 2, 1, 8, 0), (8, .invokevirtual 48, 3, 11, 0), (11, .istore 4, 2, 13, 0), (13, .aload_n 0, 1, 14, 0), (14, .iload_n 3, 1, 15, 0), (15, .iload 4, 2, 17, 0), (17, .invokevirtual 51, 3, 20, 0), (20, .istore 5, 2, 22, 0), (22, .aload_n 1, 1, 23, 0), (23, .iload_n 3, 1, 24, 0), (24, .iaload, 1, 25, 0), (25, .ifCond .eq 10, 3, 28, 35), (28, .aload_n 1, 1, 29, 0), (29, .iload 5, 2, 31, 0), (31, .iaload, 1, 32, 0), (32, .ifCond .ne 21, 3, 35, 53), (35, .aload_n 1, 1, 36, 0), (36, .aload_n 1, 1, 37, 0), (37, .iload_n 3, 1, 38, 0), (38, .iaload, 1, 39, 0), (39, .ifCond .ne 7, 3, 42, 46), (42, .iload_n 3, 1, 43, 0), (43, .goto 5, 3, 46, 48), (46, .iload 5, 2, 48, 0), (48, .iload 4, 2, 50, 0), (50, .iastore, 1, 51, 0), (51, .iconst 1, 1, 52, 1), (52, .ireturn, 1, 53, 0), (53, .iconst 0, 1, 54, 0), (54, .istore 6, 2, 56, 0), (56, .iload 6, 2, 58, 0), (58, .bipush 8, 2, 60, 8), (60, .if_icmp .ge 44, 3, 63, 104), (63, .aload_n 1, 1, 64, 0), (64, .iload_n 3, 1, 65, 0), (65, .iaload, 1, 66, 0), (66, .istore 7, 2, 68, 0), (68, .aload_n 1, 1, 69, 0), (69, .iload_n 3, 1, 70, 0), (70, .iload 4, 2, 72, 0), (72, .iastore, 1, 73, 0), (73, .iload 7, 2, 75, 0), (75, .istore 4, 2, 77, 0), (77, .aload_n 0, 1, 78, 0), (78, .iload_n 3, 1, 79, 0), (79, .iload 4, 2, 81, 0), (81, .invokevirtual 51, 3, 84, 0), (84, .istore_n 3, 1, 85, 0), (85, .aload_n 1, 1, 86, 0), (86, .iload_n 3, 1, 87, 0), (87, .iaload, 1, 88, 0), (88, .ifCond .ne 10, 3, 91, 98), (91, .aload_n 1, 1, 92, 0), (92, .iload_n 3, 1, 93, 0), (93, .iload 4, 2, 95, 0), (95, .iastore, 1, 96, 0), (96, .iconst 1, 1, 97, 1), (97, .ireturn, 1, 98, 0), (98, .iinc 6 1, 3, 101, 1), (101, .goto (-45), 3, 104, 56), (104, .iconst 0, 1, 105, 0), (105, .ireturn, 1, 106, 0)]
theorem dk_U_pushInto : sn_tabOk prog_10_method_11_code tb_U_pushInto := by unfold sn_tabOk; decide +kernel
def md_X_take : sn_Md := (⟨"SureNoes", "take", "(II)I"⟩, prog_1_method_14_code, 4, (Option.some FieldType.int))
def tb_X_take : sn_Tb := [(0, .aload_n 0, 1, 1, 0), (1, .iload_n 1, 1, 2, 0), (2, .invokevirtual 102, 3, 5, 0), (5, .astore_n 3, 1, 6, 0), (6, .aload_n 3, 1, 7, 0), (7, .ifnull 10, 3, 10, 17), (10, .iload_n 2, 1, 11, 0), (11, .invokestatic 43, 3, 14, 0), (14, .ifCond .ne 6, 3, 17, 20), (17, .bipush (-101), 2, 19, 101), (19, .ireturn, 1, 20, 0), (20, .aload_n 3, 1, 21, 0), (21, .invokevirtual 162, 3, 24, 0), (24, .ifCond .eq 11, 3, 27, 35), (27, .aload_n 3, 1, 28, 0), (28, .iload_n 2, 1, 29, 0), (29, .invokevirtual 156, 3, 32, 0), (32, .ifCond .ne 6, 3, 35, 38), (35, .bipush (-103), 2, 37, 103), (37, .ireturn, 1, 38, 0), (38, .aload_n 3, 1, 39, 0), (39, .iload_n 2, 1, 40, 0), (40, .invokevirtual 165, 3, 43, 0), (43, .aload_n 3, 1, 44, 0), (44, .getfield 153, 3, 47, 0), (47, .iload_n 2, 1, 48, 0), (48, .iaload, 1, 49, 0), (49, .ifCond .ne 5, 3, 52, 54), (52, .iconst 0, 1, 53, 0), (53, .ireturn, 1, 54, 0), (54, .aload_n 3, 1, 55, 0), (55, .getfield 153, 3, 58, 0), (58, .iload_n 2, 1, 59, 0), (59, .dup2, 1, 60, 0), (60, .iaload, 1, 61, 0), (61, .iconst 1, 1, 62, 1), (62, .isub, 1, 63, 0), (63, .iastore, 1, 64, 0), (64, .iconst 1, 1, 65, 1), (65, .ireturn, 1, 66, 0)]
theorem dk_X_take : sn_tabOk prog_1_method_14_code tb_X_take := by unfold sn_tabOk; decide +kernel
def md_C_letsTake : sn_Md := (⟨"SureNoes$Counted", "letsTake", "()Z"⟩, prog_3_method_3_code, 1, (Option.some FieldType.boolean))
def tb_C_letsTake : sn_Tb := [(0, .iconst 1, 1, 1, 1), (1, .ireturn, 1, 2, 0)]
theorem dk_C_letsTake : sn_tabOk prog_3_method_3_code tb_C_letsTake := by unfold sn_tabOk; decide +kernel
def md_U_letsTake : sn_Md := (⟨"SureNoes$Pushed", "letsTake", "()Z"⟩, prog_10_method_9_code, 1, (Option.some FieldType.boolean))
def tb_U_letsTake : sn_Tb := [(0, .iconst 1, 1, 1, 1), (1, .ireturn, 1, 2, 0)]
theorem dk_U_letsTake : sn_tabOk prog_10_method_9_code tb_U_letsTake := by unfold sn_tabOk; decide +kernel
def md_B_letsTake : sn_Md := (⟨"SureNoes$Book", "letsTake", "()Z"⟩, prog_2_method_6_code, 1, (Option.some FieldType.boolean))
def tb_B_letsTake : sn_Tb := [(0, .iconst 0, 1, 1, 0), (1, .ireturn, 1, 2, 0)]
theorem dk_B_letsTake : sn_tabOk prog_2_method_6_code tb_B_letsTake := by unfold sn_tabOk; decide +kernel
def md_C_remove : sn_Md := (⟨"SureNoes$Counted", "remove", "(I)V"⟩, prog_3_method_4_code, 5, (Option.none : Option FieldType))
def tb_C_remove : sn_Tb := [(0, .aload_n 0, 1, 1, 0), (1, .iload_n 1, 1, 2, 0), (2, .invokevirtual 9, 3, 5, 0), (5, .lstore_n 2, 1, 6, 0), (6, .iconst 0, 1, 7, 0), (7, .istore 4, 2, 9, 0), (9, .iload 4, 2, 11, 0), (11, .aload_n 0, 1, 12, 0), (12, .getfield 15, 3, 15, 0), (15, .if_icmp .ge 51, 3, 18, 66), (18, .lload_n 2, 1, 19, 0), (19, .iload 4, 2, 21, 0), (21, .invokestatic 19, 3, 24, 0), (24, .ifCond .eq 36, 3, 27, 60), (27, .aload_n 0, 1, 28, 0), (28, .getfield 23, 3, 31, 0), (31, .iload 4, 2, 33, 0), (33, .iaload, 1, 34, 0), (34, .ifCond .le 26, 3, 37, 60), (37, .aload_n 0, 1, 38, 0), (38, .getfield 23, 3, 41, 0), (41, .iload 4, 2, 43, 0), (43, .iaload, 1, 44, 0), (44, .bipush 7, 2, 46, 7), (46, .if_icmp .ge 14, 3, 49, 60), (49, .aload_n 0, 1, 50, 0), (50, .getfield 23, 3, 53, 0), (53, .iload 4, 2, 55, 0), (55, .dup2, 1, 56, 0), (56, .iaload, 1, 57, 0), (57, .iconst 1, 1, 58, 1), (58, .isub, 1, 59, 0), (59, .iastore, 1, 60, 0), (60, .iinc 4 1, 3, 63, 1), (63, .goto (-54), 3, 66, 9), (66, .return_, 1, 67, 0)]
theorem dk_C_remove : sn_tabOk prog_3_method_4_code tb_C_remove := by unfold sn_tabOk; decide +kernel
def md_U_remove : sn_Md := (⟨"SureNoes$Pushed", "remove", "(I)V"⟩, prog_10_method_10_code, 5, (Option.none : Option FieldType))
def tb_U_remove : sn_Tb := [(0, .aload_n 0, 1, 1, 0), (1, .iload_n 1, 1, 2, 0), (2, .invokevirtual 45, 3, 5, 0), (5, .istore_n 2, 1, 6, 0), (6, .aload_n 0, 1, 7, 0), (7, .iload_n 1, 1, 8, 0), (8, .invokevirtual 48, 3, 11, 0), (11, .istore_n 3, 1, 12, 0), (12, .aload_n 0, 1, 13, 0), (13, .getfield 54, 3, 16, 0), (16, .iload_n 2, 1, 17, 0), (17, .iaload, 1, 18, 0), (18, .iload_n 3, 1, 19, 0), (19, .if_icmp .ne 7, 3, 22, 26), (22, .iload_n 2, 1, 23, 0), (23, .goto 9, 3, 26, 32), (26, .aload_n 0, 1, 27, 0), (27, .iload_n 2, 1, 28, 0), (28, .iload_n 3, 1, 29, 0), (29, .invokevirtual 51, 3, 32, 0), (32, .istore 4, 2, 34, 0), (34, .aload_n 0, 1, 35, 0), (35, .getfield 54, 3, 38, 0), (38, .iload 4, 2, 40, 0), (40, .iaload, 1, 41, 0), (41, .iload_n 3, 1, 42, 0), (42, .if_icmp .ne 11, 3, 45, 53), (45, .aload_n 0, 1, 46, 0), (46, .getfield 54, 3, 49, 0), (49, .iload 4, 2, 51, 0), (51, .iconst 0, 1, 52, 0), (52, .iastore, 1, 53, 0), (53, .return_, 1, 54, 0)]
theorem dk_U_remove : sn_tabOk prog_10_method_10_code tb_U_remove := by unfold sn_tabOk; decide +kernel
def md_B_remove : sn_Md := (⟨"SureNoes$Book", "remove", "(I)V"⟩, prog_2_method_7_code, 2, (Option.none : Option FieldType))
def tb_B_remove : sn_Tb := [(0, .return_, 1, 1, 0)]
theorem dk_B_remove : sn_tabOk prog_2_method_7_code tb_B_remove := by unfold sn_tabOk; decide +kernel
def md_X_build : sn_Md := (⟨"SureNoes", "build", "(IJJ)I"⟩, prog_1_method_15_code, 8, (Option.some FieldType.int))
def tb_X_build : sn_Tb := [(0, .aload_n 0, 1, 1, 0), (1, .iload_n 1, 1, 2, 0), (2, .invokevirtual 102, 3, 5, 0), (5, .astore 6, 2, 7, 0), (7, .aload 6, 2, 9, 0), (9, .ifnonnull 6, 3, 12, 15), (12, .bipush (-101), 2, 14, 101), (14, .ireturn, 1, 15, 0), (15, .lload_n 2, 1, 16, 0), (16, .invokestatic 50, 3, 19, 0), (19, .ifCond .eq 36, 3, 22, 55), (22, .lload 4, 2, 24, 0), (24, .invokestatic 50, 3, 27, 0), (27, .ifCond .eq 28, 3, 30, 55), (30, .lload_n 2, 1, 31, 0), (31, .lload 4, 2, 33, 0), (33, .land, 1, 34, 0), (34, .lconst 0, 1, 35, 0), (35, .lcmp, 1, 36, 0), (36, .ifCond .ne 19, 3, 39, 55), (39, .aload 6, 2, 41, 0), (41, .getfield 110, 3, 44, 0), (44, .iconst 4, 1, 45, 4), (45, .if_icmp .ne 13, 3, 48, 58), (48, .lload 4, 2, 50, 0), (50, .lconst 0, 1, 51, 0), (51, .lcmp, 1, 52, 0), (52, .ifCond .eq 6, 3, 55, 58), (55, .bipush (-102), 2, 57, 102), (57, .ireturn, 1, 58, 0), (58, .aload 6, 2, 60, 0), (60, .lload_n 2, 1, 61, 0), (61, .lload 4, 2, 63, 0), (63, .invokevirtual 169, 3, 66, 0), (66, .ifCond .ne 6, 3, 69, 72), (69, .bipush (-103), 2, 71, 103), (71, .ireturn, 1, 72, 0), (72, .iconst 0, 1, 73, 0), (73, .istore 7, 2, 75, 0), (75, .iload 7, 2, 77, 0), (77, .bipush 32, 2, 79, 32), (79, .if_icmp .ge 31, 3, 82, 110), (82, .aload 6, 2, 84, 0), (84, .getfield 153, 3, 87, 0), (87, .iload 7, 2, 89, 0), (89, .lload_n 2, 1, 90, 0), (90, .iload 7, 2, 92, 0), (92, .invokestatic 57, 3, 95, 0), (95, .ifCond .eq 7, 3, 98, 102), (98, .iconst 1, 1, 99, 1), (99, .goto 4, 3, 102, 103), (102, .iconst 0, 1, 103, 0), (103, .iastore, 1, 104, 0), (104, .iinc 7 1, 3, 107, 1), (107, .goto (-32), 3, 110, 75), (110, .lload_n 2, 1, 111, 0), (111, .invokestatic 123, 3, 114, 0), (114, .ireturn, 1, 115, 0)]
theorem dk_X_build : sn_tabOk prog_1_method_15_code tb_X_build := by unfold sn_tabOk; decide +kernel
def md_F_rebuild : sn_Md := (⟨"SureNoes$Folded", "rebuild", "(JJ)Z"⟩, prog_5_method_6_code, 7, (Option.some FieldType.boolean))
def tb_F_rebuild : sn_Tb := [(0, .aload_n 0, 1, 1, 0), (1, .lload_n 1, 1, 2, 0), (2, .invokevirtual 54, 3, 5, 0), (5, .ifCond .ne 5, 3, 8, 10), (8, .iconst 0, 1, 9, 0), (9, .ireturn, 1, 10, 0), (10, .iconst 0, 1, 11, 0), (11, .istore 5, 2, 13, 0), (13, .iload 5, 2, 15, 0), (15, .aload_n 0, 1, 16, 0), (16, .getfield 32, 3, 19, 0), (19, .if_icmp .ge 17, 3, 22, 36), (22, .aload_n 0, 1, 23, 0), (23, .getfield 40, 3, 26, 0), (26, .iload 5, 2, 28, 0), (28, .iconst 0, 1, 29, 0), (29, .iastore, 1, 30, 0), (30, .iinc 5 1, 3, 33, 1), (33, .goto (-20), 3, 36, 13), (36, .lload_n 1, 1, 37, 0), (37, .invokestatic 58, 3, 40, 0), (40, .iconst 1, 1, 41, 1), (41, .isub, 1, 42, 0), (42, .istore 5, 2, 44, 0), (44, .iload 5, 2, 46, 0), (46, .ifCond .lt 48, 3, 49, 94), (49, .aload_n 0, 1, 50, 0), (50, .getfield 15, 3, 53, 0), (53, .iload 5, 2, 55, 0), (55, .iaload, 1, 56, 0), (56, .istore 6, 2, 58, 0), (58, .aload_n 0, 1, 59, 0), (59, .getfield 40, 3, 62, 0), (62, .aload_n 0, 1, 63, 0), (63, .getfield 19, 3, 66, 0), (66, .iload 5, 2, 68, 0), (68, .iaload, 1, 69, 0), (69, .aload_n 0, 1, 70, 0), (70, .aload_n 0, 1, 71, 0), (71, .getfield 9, 3, 74, 0), (74, .iload 6, 2, 76, 0), (76, .laload, 1, 77, 0), (77, .invokevirtual 47, 3, 80, 0), (80, .aload_n 0, 1, 81, 0), (81, .iload 6, 2, 83, 0), (83, .invokevirtual 51, 3, 86, 0), (86, .ixor, 1, 87, 0), (87, .iastore, 1, 88, 0), (88, .iinc 5 (-1), 3, 91, 1), (91, .goto (-47), 3, 94, 44), (94, .iconst 1, 1, 95, 1), (95, .ireturn, 1, 96, 0)]
theorem dk_F_rebuild : sn_tabOk prog_5_method_6_code tb_F_rebuild := by unfold sn_tabOk; decide +kernel
def md_F_peel : sn_Md := (⟨"SureNoes$Folded", "peel", "(J)Z"⟩, prog_5_method_7_code, 10, (Option.some FieldType.boolean))
def tb_F_peel : sn_Tb := [(0, .iconst 0, 1, 1, 0), (1, .istore_n 3, 1, 2, 0), (2, .iload_n 3, 1, 3, 0), (3, .bipush 32, 2, 5, 32), (5, .if_icmp .ge 20, 3, 8, 25), (8, .aload_n 0, 1, 9, 0), (9, .getfield 9, 3, 12, 0), (12, .iload_n 3, 1, 13, 0), (13, .aload_n 0, 1, 14, 0), (14, .iload_n 3, 1, 15, 0), (15, .invokevirtual 43, 3, 18, 0), (18, .lastore, 1, 19, 0), (19, .iinc 3 1, 3, 22, 1), (22, .goto (-20), 3, 25, 2), (25, .lload_n 1, 1, 26, 0), (26, .lstore_n 3, 1, 27, 0), (27, .iconst 0, 1, 28, 0), (28, .istore 5, 2, 30, 0), (30, .iload 5, 2, 32, 0), (32, .bipush 32, 2, 34, 32), (34, .if_icmp .ge 76, 3, 37, 110), (37, .lload_n 3, 1, 38, 0), (38, .lconst 0, 1, 39, 0), (39, .lcmp, 1, 40, 0), (40, .ifCond .eq 70, 3, 43, 110), (43, .aload_n 0, 1, 44, 0), (44, .lload_n 3, 1, 45, 0), (45, .invokevirtual 63, 3, 48, 0), (48, .lstore 6, 2, 50, 0), (50, .lload 6, 2, 52, 0), (52, .lconst 0, 1, 53, 0), (53, .lcmp, 1, 54, 0), (54, .ifCond .ne 5, 3, 57, 59), (57, .iconst 0, 1, 58, 0), (58, .ireturn, 1, 59, 0), (59, .lload 6, 2, 61, 0), (61, .invokestatic 67, 3, 64, 0), (64, .istore 8, 2, 66, 0), (66, .aload_n 0, 1, 67, 0), (67, .lload_n 3, 1, 68, 0), (68, .iload 8, 2, 70, 0), (70, .invokevirtual 70, 3, 73, 0), (73, .istore 9, 2, 75, 0), (75, .aload_n 0, 1, 76, 0), (76, .getfield 15, 3, 79, 0), (79, .iload 5, 2, 81, 0), (81, .iload 9, 2, 83, 0), (83, .iastore, 1, 84, 0), (84, .aload_n 0, 1, 85, 0), (85, .getfield 19, 3, 88, 0), (88, .iload 5, 2, 90, 0), (90, .iload 8, 2, 92, 0), (92, .iastore, 1, 93, 0), (93, .lload_n 3, 1, 94, 0), (94, .lconst 1, 1, 95, 0), (95, .iload 9, 2, 97, 0), (97, .lshl, 1, 98, 0), (98, .ldc2_w 74, 3, 101, 0), (101, .lxor, 1, 102, 0), (102, .land, 1, 103, 0), (103, .lstore_n 3, 1, 104, 0), (104, .iinc 5 1, 3, 107, 1), (107, .goto (-77), 3, 110, 30), (110, .lload_n 3, 1, 111, 0), (111, .lconst 0, 1, 112, 0), (112, .lcmp, 1, 113, 0), (113, .ifCond .ne 7, 3, 116, 120), (116, .iconst 1, 1, 117, 1), (117, .goto 4, 3, 120, 121), (120, .iconst 0, 1, 121, 0), (121, .ireturn, 1, 122, 0)]
theorem dk_F_peel : sn_tabOk prog_5_method_7_code tb_F_peel := by unfold sn_tabOk; decide +kernel
def md_F_placesOfOneKey : sn_Md := (⟨"SureNoes$Folded", "placesOfOneKey", "(J)J"⟩, prog_5_method_8_code, 8, (Option.some FieldType.long))
def tb_F_placesOfOneKey : sn_Tb := [(0, .lconst 0, 1, 1, 0), (1, .lstore_n 3, 1, 2, 0), (2, .lconst 0, 1, 3, 0), (3, .lstore 5, 2, 5, 0), (5, .iconst 0, 1, 6, 0), (6, .istore 7, 2, 8, 0), (8, .iload 7, 2, 10, 0), (10, .bipush 32, 2, 12, 32), (12, .if_icmp .ge 42, 3, 15, 54), (15, .lload_n 1, 1, 16, 0), (16, .iload 7, 2, 18, 0), (18, .invokestatic 36, 3, 21, 0), (21, .ifCond .eq 27, 3, 24, 48), (24, .lload 5, 2, 26, 0), (26, .lload_n 3, 1, 27, 0), (27, .aload_n 0, 1, 28, 0), (28, .getfield 9, 3, 31, 0), (31, .iload 7, 2, 33, 0), (33, .laload, 1, 34, 0), (34, .land, 1, 35, 0), (35, .lor, 1, 36, 0), (36, .lstore 5, 2, 38, 0), (38, .lload_n 3, 1, 39, 0), (39, .aload_n 0, 1, 40, 0), (40, .getfield 9, 3, 43, 0), (43, .iload 7, 2, 45, 0), (45, .laload, 1, 46, 0), (46, .lor, 1, 47, 0), (47, .lstore_n 3, 1, 48, 0), (48, .iinc 7 1, 3, 51, 1), (51, .goto (-43), 3, 54, 8), (54, .lload_n 3, 1, 55, 0), (55, .lload 5, 2, 57, 0), (57, .ldc2_w 74, 3, 60, 0), (60, .lxor, 1, 61, 0), (61, .land, 1, 62, 0), (62, .lreturn, 1, 63, 0)]
theorem dk_F_placesOfOneKey : sn_tabOk prog_5_method_8_code tb_F_placesOfOneKey := by unfold sn_tabOk; decide +kernel
def md_JL_numberOfTrailingZeros : sn_Md := (⟨"java/lang/Long", "numberOfTrailingZeros", "(J)I"⟩, prog_14_method_49_code, 3, (Option.some FieldType.int))
def tb_JL_numberOfTrailingZeros : sn_Tb := [(0, .lload_n 0, 1, 1, 0), (1, .l2i, 1, 2, 0), (2, .istore_n 2, 1, 3, 0), (3, .iload_n 2, 1, 4, 0), (4, .ifCond .ne 17, 3, 7, 21), (7, .bipush 32, 2, 9, 32), (9, .lload_n 0, 1, 10, 0), (10, .bipush 32, 2, 12, 32), (12, .lushr, 1, 13, 0), (13, .l2i, 1, 14, 0), (14, .invokestatic 311, 3, 17, 0), (17, .iadd, 1, 18, 0), (18, .goto 7, 3, 21, 25), (21, .iload_n 2, 1, 22, 0), (22, .invokestatic 311, 3, 25, 0), (25, .ireturn, 1, 26, 0)]
theorem dk_JL_numberOfTrailingZeros : sn_tabOk prog_14_method_49_code tb_JL_numberOfTrailingZeros := by unfold sn_tabOk; decide +kernel
def md_JI_numberOfTrailingZeros : sn_Md := (⟨"java/lang/Integer", "numberOfTrailingZeros", "(I)I"⟩, prog_13_method_48_code, 2, (Option.some FieldType.int))
def tb_JI_numberOfTrailingZeros : sn_Tb := [(0, .iload_n 0, 1, 1, 0), (1, .iconst (-1), 1, 2, 1), (2, .ixor, 1, 3, 0), (3, .iload_n 0, 1, 4, 0), (4, .iconst 1, 1, 5, 1), (5, .isub, 1, 6, 0), (6, .iand, 1, 7, 0), (7, .istore_n 0, 1, 8, 0), (8, .iload_n 0, 1, 9, 0), (9, .ifCond .gt 8, 3, 12, 17), (12, .iload_n 0, 1, 13, 0), (13, .bipush 32, 2, 15, 32), (15, .iand, 1, 16, 0), (16, .ireturn, 1, 17, 0), (17, .iconst 1, 1, 18, 1), (18, .istore_n 1, 1, 19, 0), (19, .iload_n 0, 1, 20, 0), (20, .ldc_w 264, 3, 23, 0), (23, .if_icmp .le 11, 3, 26, 34), (26, .iinc 1 16, 3, 29, 16), (29, .iload_n 0, 1, 30, 0), (30, .bipush 16, 2, 32, 16), (32, .iushr, 1, 33, 0), (33, .istore_n 0, 1, 34, 0), (34, .iload_n 0, 1, 35, 0), (35, .sipush 256, 3, 38, 256), (38, .if_icmp .le 11, 3, 41, 49), (41, .iinc 1 8, 3, 44, 8), (44, .iload_n 0, 1, 45, 0), (45, .bipush 8, 2, 47, 8), (47, .iushr, 1, 48, 0), (48, .istore_n 0, 1, 49, 0), (49, .iload_n 0, 1, 50, 0), (50, .bipush 16, 2, 52, 16), (52, .if_icmp .le 10, 3, 55, 62), (55, .iinc 1 4, 3, 58, 4), (58, .iload_n 0, 1, 59, 0), (59, .iconst 4, 1, 60, 4), (60, .iushr, 1, 61, 0), (61, .istore_n 0, 1, 62, 0), (62, .iload_n 0, 1, 63, 0), (63, .iconst 4, 1, 64, 4), (64, .if_icmp .le 10, 3, 67, 74), (67, .iinc 1 2, 3, 70, 2), (70, .iload_n 0, 1, 71, 0), (71, .iconst 2, 1, 72, 2), (72, .iushr, 1, 73, 0), (73, .istore_n 0, 1, 74, 0), (74, .iload_n 1, 1, 75, 0), (75, .iload_n 0, 1, 76, 0), (76, .iconst 1, 1, 77, 1), (77, .iushr, 1, 78, 0), (78, .iadd, 1, 79, 0), (79, .ireturn, 1, 80, 0)]
theorem dk_JI_numberOfTrailingZeros : sn_tabOk prog_13_method_48_code tb_JI_numberOfTrailingZeros := by unfold sn_tabOk; decide +kernel
def md_F_keyAt : sn_Md := (⟨"SureNoes$Folded", "keyAt", "(JI)I"⟩, prog_5_method_9_code, 6, (Option.some FieldType.int))
def tb_F_keyAt : sn_Tb := [(0, .iconst 0, 1, 1, 0), (1, .istore 4, 2, 3, 0), (3, .iconst 0, 1, 4, 0), (4, .istore 5, 2, 6, 0), (6, .iload 5, 2, 8, 0), (8, .bipush 32, 2, 10, 32), (10, .if_icmp .ge 36, 3, 13, 46), (13, .lload_n 1, 1, 14, 0), (14, .iload 5, 2, 16, 0), (16, .invokestatic 36, 3, 19, 0), (19, .ifCond .eq 21, 3, 22, 40), (22, .aload_n 0, 1, 23, 0), (23, .getfield 9, 3, 26, 0), (26, .iload 5, 2, 28, 0), (28, .laload, 1, 29, 0), (29, .iload_n 3, 1, 30, 0), (30, .invokestatic 36, 3, 33, 0), (33, .ifCond .eq 7, 3, 36, 40), (36, .iload 5, 2, 38, 0), (38, .istore 4, 2, 40, 0), (40, .iinc 5 1, 3, 43, 1), (43, .goto (-37), 3, 46, 6), (46, .iload 4, 2, 48, 0), (48, .ireturn, 1, 49, 0)]
theorem dk_F_keyAt : sn_tabOk prog_5_method_9_code tb_F_keyAt := by unfold sn_tabOk; decide +kernel
def md_L_rebuild : sn_Md := (⟨"SureNoes$Layered", "rebuild", "(JJ)Z"⟩, prog_7_method_7_code, 12, (Option.some FieldType.boolean))
def tb_L_rebuild : sn_Tb := [(0, .lload_n 1, 1, 1, 0), (1, .lstore 5, 2, 3, 0), (3, .lload_n 3, 1, 4, 0), (4, .lstore 7, 2, 6, 0), (6, .iconst 0, 1, 7, 0), (7, .istore 9, 2, 9, 0), (9, .iload 9, 2, 11, 0), (11, .bipush 6, 2, 13, 6), (13, .if_icmp .ge 53, 3, 16, 66), (16, .lload 5, 2, 18, 0), (18, .lconst 0, 1, 19, 0), (19, .lcmp, 1, 20, 0), (20, .ifCond .eq 46, 3, 23, 66), (23, .aload_n 0, 1, 24, 0), (24, .getfield 15, 3, 27, 0), (27, .iload 9, 2, 29, 0), (29, .aload_n 0, 1, 30, 0), (30, .iload 9, 2, 32, 0), (32, .lload 5, 2, 34, 0), (34, .invokevirtual 45, 3, 37, 0), (37, .lastore, 1, 38, 0), (38, .aload_n 0, 1, 39, 0), (39, .iload 9, 2, 41, 0), (41, .lload 7, 2, 43, 0), (43, .invokevirtual 49, 3, 46, 0), (46, .lstore 7, 2, 48, 0), (48, .iinc 9 1, 3, 51, 1), (51, .lload 5, 2, 53, 0), (53, .lstore 10, 2, 55, 0), (55, .lload 7, 2, 57, 0), (57, .lstore 5, 2, 59, 0), (59, .lload 10, 2, 61, 0), (61, .lstore 7, 2, 63, 0), (63, .goto (-54), 3, 66, 9), (66, .lload 5, 2, 68, 0), (68, .lconst 0, 1, 69, 0), (69, .lcmp, 1, 70, 0), (70, .ifCond .eq 5, 3, 73, 75), (73, .iconst 0, 1, 74, 0), (74, .ireturn, 1, 75, 0), (75, .aload_n 0, 1, 76, 0), (76, .getfield 15, 3, 79, 0), (79, .iconst 0, 1, 80, 0), (80, .aload_n 0, 1, 81, 0), (81, .getfield 11, 3, 84, 0), (84, .iconst 0, 1, 85, 0), (85, .bipush 6, 2, 87, 6), (87, .invokestatic 52, 3, 90, 0), (90, .aload_n 0, 1, 91, 0), (91, .iload 9, 2, 93, 0), (93, .putfield 18, 3, 96, 0), (96, .iconst 1, 1, 97, 1), (97, .ireturn, 1, 98, 0)]
theorem dk_L_rebuild : sn_tabOk prog_7_method_7_code tb_L_rebuild := by unfold sn_tabOk; decide +kernel
def md_L_placesInRow : sn_Md := (⟨"SureNoes$Layered", "placesInRow", "(IJ)J"⟩, prog_7_method_8_code, 7, (Option.some FieldType.long))
def tb_L_placesInRow : sn_Tb := [(0, .lconst 0, 1, 1, 0), (1, .lstore 4, 2, 3, 0), (3, .iconst 0, 1, 4, 0), (4, .istore 6, 2, 6, 0), (6, .iload 6, 2, 8, 0), (8, .bipush 32, 2, 10, 32), (10, .if_icmp .ge 32, 3, 13, 42), (13, .lload_n 2, 1, 14, 0), (14, .iload 6, 2, 16, 0), (16, .invokestatic 41, 3, 19, 0), (19, .ifCond .eq 17, 3, 22, 36), (22, .lload 4, 2, 24, 0), (24, .lconst 1, 1, 25, 0), (25, .aload_n 0, 1, 26, 0), (26, .iload_n 1, 1, 27, 0), (27, .iload 6, 2, 29, 0), (29, .invokevirtual 38, 3, 32, 0), (32, .lshl, 1, 33, 0), (33, .lor, 1, 34, 0), (34, .lstore 4, 2, 36, 0), (36, .iinc 6 1, 3, 39, 1), (39, .goto (-33), 3, 42, 6), (42, .lload 4, 2, 44, 0), (44, .lreturn, 1, 45, 0)]
theorem dk_L_placesInRow : sn_tabOk prog_7_method_8_code tb_L_placesInRow := by unfold sn_tabOk; decide +kernel
def md_L_thoseInRow : sn_Md := (⟨"SureNoes$Layered", "thoseInRow", "(IJ)J"⟩, prog_7_method_9_code, 7, (Option.some FieldType.long))
def tb_L_thoseInRow : sn_Tb := [(0, .lconst 0, 1, 1, 0), (1, .lstore 4, 2, 3, 0), (3, .iconst 0, 1, 4, 0), (4, .istore 6, 2, 6, 0), (6, .iload 6, 2, 8, 0), (8, .bipush 32, 2, 10, 32), (10, .if_icmp .ge 46, 3, 13, 56), (13, .lload_n 2, 1, 14, 0), (14, .iload 6, 2, 16, 0), (16, .invokestatic 41, 3, 19, 0), (19, .ifCond .eq 31, 3, 22, 50), (22, .aload_n 0, 1, 23, 0), (23, .getfield 15, 3, 26, 0), (26, .iload_n 1, 1, 27, 0), (27, .laload, 1, 28, 0), (28, .aload_n 0, 1, 29, 0), (29, .iload_n 1, 1, 30, 0), (30, .iload 6, 2, 32, 0), (32, .invokevirtual 38, 3, 35, 0), (35, .invokestatic 41, 3, 38, 0), (38, .ifCond .eq 12, 3, 41, 50), (41, .lload 4, 2, 43, 0), (43, .lconst 1, 1, 44, 0), (44, .iload 6, 2, 46, 0), (46, .lshl, 1, 47, 0), (47, .lor, 1, 48, 0), (48, .lstore 4, 2, 50, 0), (50, .iinc 6 1, 3, 53, 1), (53, .goto (-47), 3, 56, 6), (56, .lload 4, 2, 58, 0), (58, .lreturn, 1, 59, 0)]
theorem dk_L_thoseInRow : sn_tabOk prog_7_method_9_code tb_L_thoseInRow := by unfold sn_tabOk; decide +kernel
def md_B_rebuild : sn_Md := (⟨"SureNoes$Book", "rebuild", "(JJ)Z"⟩, prog_2_method_8_code, 5, (Option.some FieldType.boolean))
def tb_B_rebuild : sn_Tb := [(0, .iconst 0, 1, 1, 0), (1, .ireturn, 1, 2, 0)]
theorem dk_B_rebuild : sn_tabOk prog_2_method_8_code tb_B_rebuild := by unfold sn_tabOk; decide +kernel
def md_X_real : sn_Md := (⟨"SureNoes", "real", "(II)I"⟩, prog_1_method_16_code, 4, (Option.some FieldType.int))
def tb_X_real : sn_Tb := [(0, .aload_n 0, 1, 1, 0), (1, .iload_n 1, 1, 2, 0), (2, .invokevirtual 102, 3, 5, 0), (5, .astore_n 3, 1, 6, 0), (6, .aload_n 3, 1, 7, 0), (7, .ifnull 10, 3, 10, 17), (10, .iload_n 2, 1, 11, 0), (11, .invokestatic 43, 3, 14, 0), (14, .ifCond .ne 6, 3, 17, 20), (17, .bipush (-101), 2, 19, 101), (19, .ireturn, 1, 20, 0), (20, .aload_n 3, 1, 21, 0), (21, .getfield 153, 3, 24, 0), (24, .iload_n 2, 1, 25, 0), (25, .iaload, 1, 26, 0), (26, .ireturn, 1, 27, 0)]
theorem dk_X_real : sn_tabOk prog_1_method_16_code tb_X_real := by unfold sn_tabOk; decide +kernel
def md_X_keys : sn_Md := (⟨"SureNoes", "keys", "(II)J"⟩, prog_1_method_17_code, 4, (Option.some FieldType.long))
def tb_X_keys : sn_Tb := [(0, .aload_n 0, 1, 1, 0), (1, .iload_n 1, 1, 2, 0), (2, .invokevirtual 102, 3, 5, 0), (5, .astore_n 3, 1, 6, 0), (6, .aload_n 3, 1, 7, 0), (7, .ifnonnull 7, 3, 10, 14), (10, .ldc2_w 140, 3, 13, 0), (13, .lreturn, 1, 14, 0), (14, .iload_n 2, 1, 15, 0), (15, .tableswitch 67 0 3 #[29, 34, 48, 62], 29, 44, 0), (44, .aload_n 3, 1, 45, 0), (45, .invokevirtual 173, 3, 48, 0), (48, .lreturn, 1, 49, 0), (49, .aload_n 3, 1, 50, 0), (50, .invokevirtual 173, 3, 53, 0), (53, .aload_n 3, 1, 54, 0), (54, .invokevirtual 129, 3, 57, 0), (57, .ldc2_w 176, 3, 60, 0), (60, .lxor, 1, 61, 0), (61, .land, 1, 62, 0), (62, .lreturn, 1, 63, 0), (63, .aload_n 3, 1, 64, 0), (64, .invokevirtual 129, 3, 67, 0), (67, .aload_n 3, 1, 68, 0), (68, .invokevirtual 173, 3, 71, 0), (71, .ldc2_w 176, 3, 74, 0), (74, .lxor, 1, 75, 0), (75, .land, 1, 76, 0), (76, .lreturn, 1, 77, 0), (77, .aload_n 3, 1, 78, 0), (78, .invokevirtual 129, 3, 81, 0), (81, .lreturn, 1, 82, 0), (82, .ldc2_w 178, 3, 85, 0), (85, .lreturn, 1, 86, 0)]
theorem dk_X_keys : sn_tabOk prog_1_method_17_code tb_X_keys := by unfold sn_tabOk; decide +kernel
def md_B_keysHeld : sn_Md := (⟨"SureNoes$Book", "keysHeld", "()J"⟩, prog_2_method_12_code, 4, (Option.some FieldType.long))
def tb_B_keysHeld : sn_Tb := [(0, .lconst 0, 1, 1, 0), (1, .lstore_n 1, 1, 2, 0), (2, .iconst 0, 1, 3, 0), (3, .istore_n 3, 1, 4, 0), (4, .iload_n 3, 1, 5, 0), (5, .bipush 32, 2, 7, 32), (7, .if_icmp .ge 23, 3, 10, 30), (10, .aload_n 0, 1, 11, 0), (11, .iload_n 3, 1, 12, 0), (12, .invokevirtual 32, 3, 15, 0), (15, .ifCond .eq 9, 3, 18, 24), (18, .lload_n 1, 1, 19, 0), (19, .lconst 1, 1, 20, 0), (20, .iload_n 3, 1, 21, 0), (21, .lshl, 1, 22, 0), (22, .lor, 1, 23, 0), (23, .lstore_n 1, 1, 24, 0), (24, .iinc 3 1, 3, 27, 1), (27, .goto (-23), 3, 30, 4), (30, .lload_n 1, 1, 31, 0), (31, .lreturn, 1, 32, 0)]
theorem dk_B_keysHeld : sn_tabOk prog_2_method_12_code tb_B_keysHeld := by unfold sn_tabOk; decide +kernel
def md_X_join : sn_Md := (⟨"SureNoes", "join", "(IIZ)I"⟩, prog_1_method_18_code, 8, (Option.some FieldType.int))
def tb_X_join : sn_Tb := [(0, .aload_n 0, 1, 1, 0), (1, .iload_n 1, 1, 2, 0), (2, .invokevirtual 102, 3, 5, 0), (5, .astore 4, 2, 7, 0), (7, .aload_n 0, 1, 8, 0), (8, .iload_n 2, 1, 9, 0), (9, .invokevirtual 102, 3, 12, 0), (12, .astore 5, 2, 14, 0), (14, .aload 4, 2, 16, 0), (16, .ifnull 8, 3, 19, 24), (19, .aload 5, 2, 21, 0), (21, .ifnonnull 6, 3, 24, 27), (24, .bipush (-101), 2, 26, 101), (26, .ireturn, 1, 27, 0), (27, .aload 4, 2, 29, 0), (29, .invokestatic 180, 3, 32, 0), (32, .ifCond .eq 42, 3, 35, 74), (35, .aload 4, 2, 37, 0), (37, .getfield 110, 3, 40, 0), (40, .aload 5, 2, 42, 0), (42, .getfield 110, 3, 45, 0), (45, .if_icmp .ne 29, 3, 48, 74), (48, .aload 4, 2, 50, 0), (50, .getfield 113, 3, 53, 0), (53, .aload 5, 2, 55, 0), (55, .getfield 113, 3, 58, 0), (58, .if_icmp .ne 16, 3, 61, 74), (61, .aload 4, 2, 63, 0), (63, .getfield 116, 3, 66, 0), (66, .aload 5, 2, 68, 0), (68, .getfield 116, 3, 71, 0), (71, .if_icmp .eq 6, 3, 74, 77), (74, .bipush (-103), 2, 76, 103), (76, .ireturn, 1, 77, 0), (77, .aload_n 0, 1, 78, 0), (78, .getfield 25, 3, 81, 0), (81, .bipush 8, 2, 83, 8), (83, .if_icmp .lt 6, 3, 86, 89), (86, .bipush (-104), 2, 88, 104), (88, .ireturn, 1, 89, 0), (89, .aload 4, 2, 91, 0), (91, .getfield 110, 3, 94, 0), (94, .aload 4, 2, 96, 0), (96, .getfield 113, 3, 99, 0), (99, .aload 4, 2, 101, 0), (101, .getfield 116, 3, 104, 0), (104, .aload 4, 2, 106, 0), (106, .getfield 184, 3, 109, 0), (109, .invokestatic 94, 3, 112, 0), (112, .astore 6, 2, 114, 0), (114, .iconst 0, 1, 115, 0), (115, .istore 7, 2, 117, 0), (117, .iload 7, 2, 119, 0), (119, .aload 6, 2, 121, 0), (121, .getfield 113, 3, 124, 0), (124, .if_icmp .ge 37, 3, 127, 161), (127, .aload 6, 2, 129, 0), (129, .getfield 136, 3, 132, 0), (132, .iload 7, 2, 134, 0), (134, .aload 4, 2, 136, 0), (136, .getfield 136, 3, 139, 0), (139, .iload 7, 2, 141, 0), (141, .iaload, 1, 142, 0), (142, .aload 5, 2, 144, 0), (144, .getfield 136, 3, 147, 0), (147, .iload 7, 2, 149, 0), (149, .iaload, 1, 150, 0), (150, .iload_n 3, 1, 151, 0), (151, .invokestatic 187, 3, 154, 0), (154, .iastore, 1, 155, 0), (155, .iinc 7 1, 3, 158, 1), (158, .goto (-41), 3, 161, 117), (161, .iconst 0, 1, 162, 0), (162, .istore 7, 2, 164, 0), (164, .iload 7, 2, 166, 0), (166, .bipush 32, 2, 168, 32), (168, .if_icmp .ge 37, 3, 171, 205), (171, .aload 6, 2, 173, 0), (173, .getfield 153, 3, 176, 0), (176, .iload 7, 2, 178, 0), (178, .aload 4, 2, 180, 0), (180, .getfield 153, 3, 183, 0), (183, .iload 7, 2, 185, 0), (185, .iaload, 1, 186, 0), (186, .aload 5, 2, 188, 0), (188, .getfield 153, 3, 191, 0), (191, .iload 7, 2, 193, 0), (193, .iaload, 1, 194, 0), (194, .iload_n 3, 1, 195, 0), (195, .invokestatic 187, 3, 198, 0), (198, .iastore, 1, 199, 0), (199, .iinc 7 1, 3, 202, 1), (202, .goto (-38), 3, 205, 164), (205, .aload_n 0, 1, 206, 0), (206, .aload 6, 2, 208, 0), (208, .invokevirtual 98, 3, 211, 0), (211, .ireturn, 1, 212, 0)]
theorem dk_X_join : sn_tabOk prog_1_method_18_code tb_X_join := by unfold sn_tabOk; decide +kernel
def md_X_isPlainOrParted : sn_Md := (⟨"SureNoes", "isPlainOrParted", "(LSureNoes$Book;)Z"⟩, prog_1_method_33_code, 1, (Option.some FieldType.boolean))
def tb_X_isPlainOrParted : sn_Tb := [(0, .aload_n 0, 1, 1, 0), (1, .getfield 110, 3, 4, 0), (4, .ifCond .eq 11, 3, 7, 15), (7, .aload_n 0, 1, 8, 0), (8, .getfield 110, 3, 11, 0), (11, .iconst 2, 1, 12, 2), (12, .if_icmp .ne 7, 3, 15, 19), (15, .iconst 1, 1, 16, 1), (16, .goto 4, 3, 19, 20), (19, .iconst 0, 1, 20, 0), (20, .ireturn, 1, 21, 0)]
theorem dk_X_isPlainOrParted : sn_tabOk prog_1_method_33_code tb_X_isPlainOrParted := by unfold sn_tabOk; decide +kernel
def md_X_either : sn_Md := (⟨"SureNoes", "either", "(IIZ)I"⟩, prog_1_method_37_code, 3, (Option.some FieldType.int))
def tb_X_either : sn_Tb := [(0, .iload_n 2, 1, 1, 0), (1, .ifCond .eq 11, 3, 4, 12), (4, .iload_n 0, 1, 5, 0), (5, .iload_n 1, 1, 6, 0), (6, .invokestatic 277, 3, 9, 0), (9, .goto 8, 3, 12, 17), (12, .iload_n 0, 1, 13, 0), (13, .iload_n 1, 1, 14, 0), (14, .invokestatic 191, 3, 17, 0), (17, .ireturn, 1, 18, 0)]
theorem dk_X_either : sn_tabOk prog_1_method_37_code tb_X_either := by unfold sn_tabOk; decide +kernel
def md_JM_minI : sn_Md := (⟨"java/lang/Math", "min", "(II)I"⟩, prog_15_method_69_code, 2, (Option.some FieldType.int))
def tb_JM_minI : sn_Tb := [(0, .iload_n 0, 1, 1, 0), (1, .iload_n 1, 1, 2, 0), (2, .if_icmp .gt 7, 3, 5, 9), (5, .iload_n 0, 1, 6, 0), (6, .goto 4, 3, 9, 10), (9, .iload_n 1, 1, 10, 0), (10, .ireturn, 1, 11, 0)]
theorem dk_JM_minI : sn_tabOk prog_15_method_69_code tb_JM_minI := by unfold sn_tabOk; decide +kernel
def md_X_halve : sn_Md := (⟨"SureNoes", "halve", "(I)I"⟩, prog_1_method_19_code, 6, (Option.some FieldType.int))
def tb_X_halve : sn_Tb := [(0, .aload_n 0, 1, 1, 0), (1, .iload_n 1, 1, 2, 0), (2, .invokevirtual 102, 3, 5, 0), (5, .astore_n 2, 1, 6, 0), (6, .aload_n 2, 1, 7, 0), (7, .ifnonnull 6, 3, 10, 13), (10, .bipush (-101), 2, 12, 101), (12, .ireturn, 1, 13, 0), (13, .aload_n 2, 1, 14, 0), (14, .getfield 113, 3, 17, 0), (17, .iconst 2, 1, 18, 2), (18, .idiv, 1, 19, 0), (19, .istore_n 3, 1, 20, 0), (20, .aload_n 2, 1, 21, 0), (21, .getfield 110, 3, 24, 0), (24, .ifCond .ne 18, 3, 27, 42), (27, .iload_n 3, 1, 28, 0), (28, .iconst 2, 1, 29, 2), (29, .if_icmp .lt 13, 3, 32, 42), (32, .iload_n 3, 1, 33, 0), (33, .iconst 2, 1, 34, 2), (34, .imul, 1, 35, 0), (35, .aload_n 2, 1, 36, 0), (36, .getfield 113, 3, 39, 0), (39, .if_icmp .eq 6, 3, 42, 45), (42, .bipush (-103), 2, 44, 103), (44, .ireturn, 1, 45, 0), (45, .aload_n 0, 1, 46, 0), (46, .getfield 25, 3, 49, 0), (49, .bipush 8, 2, 51, 8), (51, .if_icmp .lt 6, 3, 54, 57), (54, .bipush (-104), 2, 56, 104), (56, .ireturn, 1, 57, 0), (57, .iconst 0, 1, 58, 0), (58, .iload_n 3, 1, 59, 0), (59, .aload_n 2, 1, 60, 0), (60, .getfield 116, 3, 63, 0), (63, .aload_n 2, 1, 64, 0), (64, .getfield 184, 3, 67, 0), (67, .invokestatic 94, 3, 70, 0), (70, .astore 4, 2, 72, 0), (72, .iconst 0, 1, 73, 0), (73, .istore 5, 2, 75, 0), (75, .iload 5, 2, 77, 0), (77, .iload_n 3, 1, 78, 0), (78, .if_icmp .ge 36, 3, 81, 114), (81, .aload 4, 2, 83, 0), (83, .getfield 136, 3, 86, 0), (86, .iload 5, 2, 88, 0), (88, .aload_n 2, 1, 89, 0), (89, .getfield 136, 3, 92, 0), (92, .iload 5, 2, 94, 0), (94, .iaload, 1, 95, 0), (95, .aload_n 2, 1, 96, 0), (96, .getfield 136, 3, 99, 0), (99, .iload 5, 2, 101, 0), (101, .iload_n 3, 1, 102, 0), (102, .iadd, 1, 103, 0), (103, .iaload, 1, 104, 0), (104, .invokestatic 191, 3, 107, 0), (107, .iastore, 1, 108, 0), (108, .iinc 5 1, 3, 111, 1), (111, .goto (-36), 3, 114, 75), (114, .aload_n 2, 1, 115, 0), (115, .getfield 153, 3, 118, 0), (118, .iconst 0, 1, 119, 0), (119, .aload 4, 2, 121, 0), (121, .getfield 153, 3, 124, 0), (124, .iconst 0, 1, 125, 0), (125, .bipush 32, 2, 127, 32), (127, .invokestatic 196, 3, 130, 0), (130, .aload_n 0, 1, 131, 0), (131, .aload 4, 2, 133, 0), (133, .invokevirtual 98, 3, 136, 0), (136, .ireturn, 1, 137, 0)]
theorem dk_X_halve : sn_tabOk prog_1_method_19_code tb_X_halve := by unfold sn_tabOk; decide +kernel
def md_X_spoil : sn_Md := (⟨"SureNoes", "spoil", "(II)J"⟩, prog_1_method_20_code, 9, (Option.some FieldType.long))
def tb_X_spoil : sn_Tb := [(0, .aload_n 0, 1, 1, 0), (1, .iload_n 1, 1, 2, 0), (2, .invokevirtual 102, 3, 5, 0), (5, .astore_n 3, 1, 6, 0), (6, .aload_n 3, 1, 7, 0), (7, .ifnull 10, 3, 10, 17), (10, .iload_n 2, 1, 11, 0), (11, .invokestatic 43, 3, 14, 0), (14, .ifCond .ne 7, 3, 17, 21), (17, .ldc2_w 140, 3, 20, 0), (20, .lreturn, 1, 21, 0), (21, .aload_n 3, 1, 22, 0), (22, .invokestatic 180, 3, 25, 0), (25, .ifCond .ne 15, 3, 28, 40), (28, .aload_n 3, 1, 29, 0), (29, .getfield 110, 3, 32, 0), (32, .iconst 1, 1, 33, 1), (33, .if_icmp .eq 7, 3, 36, 40), (36, .ldc2_w 202, 3, 39, 0), (39, .lreturn, 1, 40, 0), (40, .aload_n 3, 1, 41, 0), (41, .iload_n 2, 1, 42, 0), (42, .invokevirtual 146, 3, 45, 0), (45, .aload_n 3, 1, 46, 0), (46, .invokevirtual 119, 3, 49, 0), (49, .ldc2_w 176, 3, 52, 0), (52, .lxor, 1, 53, 0), (53, .land, 1, 54, 0), (54, .lstore 4, 2, 56, 0), (56, .lload 4, 2, 58, 0), (58, .lconst 0, 1, 59, 0), (59, .lcmp, 1, 60, 0), (60, .ifCond .ne 5, 3, 63, 65), (63, .lconst 0, 1, 64, 0), (64, .lreturn, 1, 65, 0), (65, .aload_n 0, 1, 66, 0), (66, .aload_n 3, 1, 67, 0), (67, .invokevirtual 204, 3, 70, 0), (70, .aload_n 0, 1, 71, 0), (71, .getfield 28, 3, 74, 0), (74, .iload_n 2, 1, 75, 0), (75, .lconst 0, 1, 76, 0), (76, .lastore, 1, 77, 0), (77, .iconst 1, 1, 78, 1), (78, .istore 6, 2, 80, 0), (80, .iload 6, 2, 82, 0), (82, .iconst 3, 1, 83, 3), (83, .if_icmp .gt 36, 3, 86, 119), (86, .aload_n 0, 1, 87, 0), (87, .getfield 28, 3, 90, 0), (90, .lload 4, 2, 92, 0), (92, .iload 6, 2, 94, 0), (94, .bipush 32, 2, 96, 32), (96, .invokestatic 208, 3, 99, 0), (99, .lstore 7, 2, 101, 0), (101, .lload 7, 2, 103, 0), (103, .ldc2_w 176, 3, 106, 0), (106, .lcmp, 1, 107, 0), (107, .ifCond .eq 6, 3, 110, 113), (110, .lload 7, 2, 112, 0), (112, .lreturn, 1, 113, 0), (113, .iinc 6 1, 3, 116, 1), (116, .goto (-36), 3, 119, 80), (119, .ldc2_w 176, 3, 122, 0), (122, .lreturn, 1, 123, 0)]
theorem dk_X_spoil : sn_tabOk prog_1_method_20_code tb_X_spoil := by unfold sn_tabOk; decide +kernel
def md_X_noteSpots : sn_Md := (⟨"SureNoes", "noteSpots", "(LSureNoes$Book;)V"⟩, prog_1_method_45_code, 3, (Option.none : Option FieldType))
def tb_X_noteSpots : sn_Tb := [(0, .iconst 0, 1, 1, 0), (1, .istore_n 2, 1, 2, 0), (2, .iload_n 2, 1, 3, 0), (3, .bipush 32, 2, 5, 32), (5, .if_icmp .ge 20, 3, 8, 25), (8, .aload_n 0, 1, 9, 0), (9, .getfield 28, 3, 12, 0), (12, .iload_n 2, 1, 13, 0), (13, .aload_n 1, 1, 14, 0), (14, .iload_n 2, 1, 15, 0), (15, .invokevirtual 146, 3, 18, 0), (18, .lastore, 1, 19, 0), (19, .iinc 2 1, 3, 22, 1), (22, .goto (-20), 3, 25, 2), (25, .return_, 1, 26, 0)]
theorem dk_X_noteSpots : sn_tabOk prog_1_method_45_code tb_X_noteSpots := by unfold sn_tabOk; decide +kernel
def md_X_leastFilling : sn_Md := (⟨"SureNoes", "leastFilling", "([JJII)J"⟩, prog_1_method_46_code, 8, (Option.some FieldType.long))
def tb_X_leastFilling : sn_Tb := [(0, .iload_n 3, 1, 1, 0), (1, .ifCond .gt 17, 3, 4, 18), (4, .lload_n 1, 1, 5, 0), (5, .lconst 0, 1, 6, 0), (6, .lcmp, 1, 7, 0), (7, .ifCond .ne 7, 3, 10, 14), (10, .lconst 0, 1, 11, 0), (11, .goto 6, 3, 14, 17), (14, .ldc2_w 176, 3, 17, 0), (17, .lreturn, 1, 18, 0), (18, .iload_n 3, 1, 19, 0), (19, .iconst 1, 1, 20, 1), (20, .isub, 1, 21, 0), (21, .istore 5, 2, 23, 0), (23, .iload 5, 2, 25, 0), (25, .iload 4, 2, 27, 0), (27, .if_icmp .ge 65, 3, 30, 92), (30, .iload 5, 2, 32, 0), (32, .aload_n 0, 1, 33, 0), (33, .arraylength, 1, 34, 0), (34, .if_icmp .ge 58, 3, 37, 92), (37, .aload_n 0, 1, 38, 0), (38, .iload 5, 2, 40, 0), (40, .laload, 1, 41, 0), (41, .lload_n 1, 1, 42, 0), (42, .land, 1, 43, 0), (43, .lconst 0, 1, 44, 0), (44, .lcmp, 1, 45, 0), (45, .ifCond .eq 41, 3, 48, 86), (48, .aload_n 0, 1, 49, 0), (49, .lload_n 1, 1, 50, 0), (50, .aload_n 0, 1, 51, 0), (51, .iload 5, 2, 53, 0), (53, .laload, 1, 54, 0), (54, .ldc2_w 176, 3, 57, 0), (57, .lxor, 1, 58, 0), (58, .land, 1, 59, 0), (59, .iload_n 3, 1, 60, 0), (60, .iconst 1, 1, 61, 1), (61, .isub, 1, 62, 0), (62, .iload 5, 2, 64, 0), (64, .invokestatic 208, 3, 67, 0), (67, .lstore 6, 2, 69, 0), (69, .lload 6, 2, 71, 0), (71, .ldc2_w 176, 3, 74, 0), (74, .lcmp, 1, 75, 0), (75, .ifCond .eq 11, 3, 78, 86), (78, .lload 6, 2, 80, 0), (80, .lconst 1, 1, 81, 0), (81, .iload 5, 2, 83, 0), (83, .lshl, 1, 84, 0), (84, .lor, 1, 85, 0), (85, .lreturn, 1, 86, 0), (86, .iinc 5 1, 3, 89, 1), (89, .goto (-66), 3, 92, 23), (92, .ldc2_w 176, 3, 95, 0), (95, .lreturn, 1, 96, 0)]
theorem dk_X_leastFilling : sn_tabOk prog_1_method_46_code tb_X_leastFilling := by unfold sn_tabOk; decide +kernel
def md_X_made : sn_Md := (⟨"SureNoes", "made", "(II)J"⟩, prog_1_method_21_code, 8, (Option.some FieldType.long))
def tb_X_made : sn_Tb := [(0, .aload_n 0, 1, 1, 0), (1, .iload_n 1, 1, 2, 0), (2, .invokevirtual 102, 3, 5, 0), (5, .astore_n 3, 1, 6, 0), (6, .aload_n 3, 1, 7, 0), (7, .ifnonnull 7, 3, 10, 14), (10, .ldc2_w 140, 3, 13, 0), (13, .lreturn, 1, 14, 0), (14, .iload_n 2, 1, 15, 0), (15, .ifCond .lt 8, 3, 18, 23), (18, .iload_n 2, 1, 19, 0), (19, .iconst 3, 1, 20, 3), (20, .if_icmp .le 7, 3, 23, 27), (23, .ldc2_w 178, 3, 26, 0), (26, .lreturn, 1, 27, 0), (27, .aload_n 3, 1, 28, 0), (28, .invokestatic 180, 3, 31, 0), (31, .ifCond .ne 7, 3, 34, 38), (34, .ldc2_w 202, 3, 37, 0), (37, .lreturn, 1, 38, 0), (38, .aload_n 0, 1, 39, 0), (39, .aload_n 3, 1, 40, 0), (40, .invokevirtual 204, 3, 43, 0), (43, .aload_n 3, 1, 44, 0), (44, .invokevirtual 119, 3, 47, 0), (47, .lstore 4, 2, 49, 0), (49, .iload_n 2, 1, 50, 0), (50, .iconst 2, 1, 51, 2), (51, .if_icmp .lt 24, 3, 54, 75), (54, .iload_n 2, 1, 55, 0), (55, .iconst 2, 1, 56, 2), (56, .if_icmp .ne 12, 3, 59, 68), (59, .aload_n 0, 1, 60, 0), (60, .lload 4, 2, 62, 0), (62, .invokevirtual 212, 3, 65, 0), (65, .goto 9, 3, 68, 74), (68, .aload_n 0, 1, 69, 0), (69, .lload 4, 2, 71, 0), (71, .invokevirtual 216, 3, 74, 0), (74, .lreturn, 1, 75, 0), (75, .lload 4, 2, 77, 0), (77, .invokestatic 123, 3, 80, 0), (80, .bipush 12, 2, 82, 12), (82, .if_icmp .le 7, 3, 85, 89), (85, .ldc2_w 219, 3, 88, 0), (88, .lreturn, 1, 89, 0), (89, .aload_n 0, 1, 90, 0), (90, .getfield 32, 3, 93, 0), (93, .ifnonnull 14, 3, 96, 107), (96, .aload_n 0, 1, 97, 0), (97, .new 221, 3, 100, 0), (100, .dup, 1, 101, 0), (101, .invokespecial 223, 3, 104, 0), (104, .putfield 32, 3, 107, 0), (107, .aload_n 0, 1, 108, 0), (108, .getfield 32, 3, 111, 0), (111, .aload_n 0, 1, 112, 0), (112, .getfield 28, 3, 115, 0), (115, .lload 4, 2, 117, 0), (117, .invokevirtual 224, 3, 120, 0), (120, .lstore 6, 2, 122, 0), (122, .lload 6, 2, 124, 0), (124, .ldc2_w 228, 3, 127, 0), (127, .lcmp, 1, 128, 0), (128, .ifCond .ne 7, 3, 131, 135), (131, .ldc2_w 176, 3, 134, 0), (134, .lreturn, 1, 135, 0), (135, .iload_n 2, 1, 136, 0), (136, .ifCond .ne 12, 3, 139, 148), (139, .lload 6, 2, 141, 0), (141, .ldc2_w 230, 3, 144, 0), (144, .ldiv, 1, 145, 0), (145, .goto 9, 3, 148, 154), (148, .lload 6, 2, 150, 0), (150, .ldc2_w 232, 3, 153, 0), (153, .land, 1, 154, 0), (154, .lreturn, 1, 155, 0)]
theorem dk_X_made : sn_tabOk prog_1_method_21_code tb_X_made := by unfold sn_tabOk; decide +kernel
def md_X_sureMakers : sn_Md := (⟨"SureNoes", "sureMakers", "(J)J"⟩, prog_1_method_48_code, 12, (Option.some FieldType.long))
def tb_X_sureMakers : sn_Tb := [(0, .aload_n 0, 1, 1, 0), (1, .lload_n 1, 1, 2, 0), (2, .invokevirtual 216, 3, 5, 0), (5, .lstore_n 3, 1, 6, 0), (6, .lconst 0, 1, 7, 0), (7, .lstore 5, 2, 9, 0), (9, .lconst 0, 1, 10, 0), (10, .lstore 7, 2, 12, 0), (12, .iconst 0, 1, 13, 0), (13, .istore 9, 2, 15, 0), (15, .iload 9, 2, 17, 0), (17, .bipush 32, 2, 19, 32), (19, .if_icmp .ge 45, 3, 22, 64), (22, .lload_n 3, 1, 23, 0), (23, .iload 9, 2, 25, 0), (25, .invokestatic 57, 3, 28, 0), (28, .ifCond .eq 30, 3, 31, 58), (31, .lload 7, 2, 33, 0), (33, .lload 5, 2, 35, 0), (35, .aload_n 0, 1, 36, 0), (36, .getfield 28, 3, 39, 0), (39, .iload 9, 2, 41, 0), (41, .laload, 1, 42, 0), (42, .land, 1, 43, 0), (43, .lor, 1, 44, 0), (44, .lstore 7, 2, 46, 0), (46, .lload 5, 2, 48, 0), (48, .aload_n 0, 1, 49, 0), (49, .getfield 28, 3, 52, 0), (52, .iload 9, 2, 54, 0), (54, .laload, 1, 55, 0), (55, .lor, 1, 56, 0), (56, .lstore 5, 2, 58, 0), (58, .iinc 9 1, 3, 61, 1), (61, .goto (-46), 3, 64, 15), (64, .lconst 0, 1, 65, 0), (65, .lstore 9, 2, 67, 0), (67, .iconst 0, 1, 68, 0), (68, .istore 11, 2, 70, 0), (70, .iload 11, 2, 72, 0), (72, .bipush 32, 2, 74, 32), (74, .if_icmp .ge 49, 3, 77, 123), (77, .lload_n 3, 1, 78, 0), (78, .iload 11, 2, 80, 0), (80, .invokestatic 57, 3, 83, 0), (83, .ifCond .eq 34, 3, 86, 117), (86, .aload_n 0, 1, 87, 0), (87, .getfield 28, 3, 90, 0), (90, .iload 11, 2, 92, 0), (92, .laload, 1, 93, 0), (93, .lload 5, 2, 95, 0), (95, .land, 1, 96, 0), (96, .lload 7, 2, 98, 0), (98, .ldc2_w 176, 3, 101, 0), (101, .lxor, 1, 102, 0), (102, .land, 1, 103, 0), (103, .lconst 0, 1, 104, 0), (104, .lcmp, 1, 105, 0), (105, .ifCond .eq 12, 3, 108, 117), (108, .lload 9, 2, 110, 0), (110, .lconst 1, 1, 111, 0), (111, .iload 11, 2, 113, 0), (113, .lshl, 1, 114, 0), (114, .lor, 1, 115, 0), (115, .lstore 9, 2, 117, 0), (117, .iinc 11 1, 3, 120, 1), (120, .goto (-50), 3, 123, 70), (123, .lload 9, 2, 125, 0), (125, .lreturn, 1, 126, 0)]
theorem dk_X_sureMakers : sn_tabOk prog_1_method_48_code tb_X_sureMakers := by unfold sn_tabOk; decide +kernel
def md_X_makers : sn_Md := (⟨"SureNoes", "makers", "(J)J"⟩, prog_1_method_47_code, 8, (Option.some FieldType.long))
def tb_X_makers : sn_Tb := [(0, .lconst 0, 1, 1, 0), (1, .lstore_n 3, 1, 2, 0), (2, .lconst 0, 1, 3, 0), (3, .lstore 5, 2, 5, 0), (5, .iconst 0, 1, 6, 0), (6, .istore 7, 2, 8, 0), (8, .iload 7, 2, 10, 0), (10, .bipush 32, 2, 12, 32), (12, .if_icmp .ge 46, 3, 15, 58), (15, .aload_n 0, 1, 16, 0), (16, .getfield 28, 3, 19, 0), (19, .iload 7, 2, 21, 0), (21, .laload, 1, 22, 0), (22, .lload_n 1, 1, 23, 0), (23, .ldc2_w 176, 3, 26, 0), (26, .lxor, 1, 27, 0), (27, .land, 1, 28, 0), (28, .lconst 0, 1, 29, 0), (29, .lcmp, 1, 30, 0), (30, .ifCond .ne 22, 3, 33, 52), (33, .lload_n 3, 1, 34, 0), (34, .lconst 1, 1, 35, 0), (35, .iload 7, 2, 37, 0), (37, .lshl, 1, 38, 0), (38, .lor, 1, 39, 0), (39, .lstore_n 3, 1, 40, 0), (40, .lload 5, 2, 42, 0), (42, .aload_n 0, 1, 43, 0), (43, .getfield 28, 3, 46, 0), (46, .iload 7, 2, 48, 0), (48, .laload, 1, 49, 0), (49, .lor, 1, 50, 0), (50, .lstore 5, 2, 52, 0), (52, .iinc 7 1, 3, 55, 1), (55, .goto (-47), 3, 58, 8), (58, .lload 5, 2, 60, 0), (60, .lload_n 1, 1, 61, 0), (61, .lcmp, 1, 62, 0), (62, .ifCond .ne 7, 3, 65, 69), (65, .lload_n 3, 1, 66, 0), (66, .goto 4, 3, 69, 70), (69, .lconst 0, 1, 70, 0), (70, .lreturn, 1, 71, 0)]
theorem dk_X_makers : sn_tabOk prog_1_method_47_code tb_X_makers := by unfold sn_tabOk; decide +kernel
def md_V_init : sn_Md := (⟨"SureNoes$Cover", "<init>", "()V"⟩, prog_4_method_1_code, 1, (Option.none : Option FieldType))
def tb_V_init : sn_Tb := [(0, .aload_n 0, 1, 1, 0), (1, .invokespecial 5, 3, 4, 0), (4, .aload_n 0, 1, 5, 0), (5, .sipush 4096, 3, 8, 4096), (8, .newarray .long, 2, 10, 0), (10, .putfield 11, 3, 13, 0), (13, .return_, 1, 14, 0)]
theorem dk_V_init : sn_tabOk prog_4_method_1_code tb_V_init := by unfold sn_tabOk; decide +kernel
def md_V_leastSet : sn_Md := (⟨"SureNoes$Cover", "leastSet", "([JJ)J"⟩, prog_4_method_2_code, 7, (Option.some FieldType.long))
def tb_V_leastSet : sn_Tb := [(0, .lload_n 2, 1, 1, 0), (1, .invokestatic 15, 3, 4, 0), (4, .istore 4, 2, 6, 0), (6, .iload 4, 2, 8, 0), (8, .bipush 12, 2, 10, 12), (10, .if_icmp .le 7, 3, 13, 17), (13, .ldc2_w 21, 3, 16, 0), (16, .lreturn, 1, 17, 0), (17, .iconst 1, 1, 18, 1), (18, .iload 4, 2, 20, 0), (20, .ishl, 1, 21, 0), (21, .iconst 1, 1, 22, 1), (22, .isub, 1, 23, 0), (23, .istore 5, 2, 25, 0), (25, .aload_n 0, 1, 26, 0), (26, .getfield 11, 3, 29, 0), (29, .iconst 0, 1, 30, 0), (30, .lconst 0, 1, 31, 0), (31, .lastore, 1, 32, 0), (32, .iconst 1, 1, 33, 1), (33, .istore 6, 2, 35, 0), (35, .iload 6, 2, 37, 0), (37, .iload 5, 2, 39, 0), (39, .if_icmp .gt 19, 3, 42, 58), (42, .aload_n 0, 1, 43, 0), (43, .getfield 11, 3, 46, 0), (46, .iload 6, 2, 48, 0), (48, .ldc2_w 21, 3, 51, 0), (51, .lastore, 1, 52, 0), (52, .iinc 6 1, 3, 55, 1), (55, .goto (-20), 3, 58, 35), (58, .iconst 0, 1, 59, 0), (59, .istore 6, 2, 61, 0), (61, .iload 6, 2, 63, 0), (63, .bipush 32, 2, 65, 32), (65, .if_icmp .ge 47, 3, 68, 112), (68, .iload 6, 2, 70, 0), (70, .aload_n 1, 1, 71, 0), (71, .arraylength, 1, 72, 0), (72, .if_icmp .ge 40, 3, 75, 112), (75, .aload_n 1, 1, 76, 0), (76, .iload 6, 2, 78, 0), (78, .laload, 1, 79, 0), (79, .lload_n 2, 1, 80, 0), (80, .ldc2_w 23, 3, 83, 0), (83, .lxor, 1, 84, 0), (84, .land, 1, 85, 0), (85, .lconst 0, 1, 86, 0), (86, .lcmp, 1, 87, 0), (87, .ifCond .ne 19, 3, 90, 106), (90, .aload_n 0, 1, 91, 0), (91, .iload 6, 2, 93, 0), (93, .aload_n 1, 1, 94, 0), (94, .iload 6, 2, 96, 0), (96, .laload, 1, 97, 0), (97, .lload_n 2, 1, 98, 0), (98, .invokestatic 25, 3, 101, 0), (101, .iload 5, 2, 103, 0), (103, .invokevirtual 29, 3, 106, 0), (106, .iinc 6 1, 3, 109, 1), (109, .goto (-48), 3, 112, 61), (112, .aload_n 0, 1, 113, 0), (113, .getfield 11, 3, 116, 0), (116, .iload 5, 2, 118, 0), (118, .laload, 1, 119, 0), (119, .lreturn, 1, 120, 0)]
theorem dk_V_leastSet : sn_tabOk prog_4_method_2_code tb_V_leastSet := by unfold sn_tabOk; decide +kernel
def md_V_squeeze : sn_Md := (⟨"SureNoes$Cover", "squeeze", "(JJ)I"⟩, prog_4_method_4_code, 7, (Option.some FieldType.int))
def tb_V_squeeze : sn_Tb := [(0, .iconst 0, 1, 1, 0), (1, .istore 4, 2, 3, 0), (3, .iconst 0, 1, 4, 0), (4, .istore 5, 2, 6, 0), (6, .iconst 0, 1, 7, 0), (7, .istore 6, 2, 9, 0), (9, .iload 6, 2, 11, 0), (11, .bipush 32, 2, 13, 32), (13, .if_icmp .ge 39, 3, 16, 52), (16, .lload_n 2, 1, 17, 0), (17, .iload 6, 2, 19, 0), (19, .invokestatic 41, 3, 22, 0), (22, .ifCond .eq 24, 3, 25, 46), (25, .lload_n 0, 1, 26, 0), (26, .iload 6, 2, 28, 0), (28, .invokestatic 41, 3, 31, 0), (31, .ifCond .eq 12, 3, 34, 43), (34, .iload 4, 2, 36, 0), (36, .iconst 1, 1, 37, 1), (37, .iload 5, 2, 39, 0), (39, .ishl, 1, 40, 0), (40, .ior, 1, 41, 0), (41, .istore 4, 2, 43, 0), (43, .iinc 5 1, 3, 46, 1), (46, .iinc 6 1, 3, 49, 1), (49, .goto (-40), 3, 52, 9), (52, .iload 4, 2, 54, 0), (54, .ireturn, 1, 55, 0)]
theorem dk_V_squeeze : sn_tabOk prog_4_method_4_code tb_V_squeeze := by unfold sn_tabOk; decide +kernel
def md_V_letKeyHelp : sn_Md := (⟨"SureNoes$Cover", "letKeyHelp", "(III)V"⟩, prog_4_method_3_code, 7, (Option.none : Option FieldType))
def tb_V_letKeyHelp : sn_Tb := [(0, .iload_n 3, 1, 1, 0), (1, .istore 4, 2, 3, 0), (3, .iload 4, 2, 5, 0), (5, .ifCond .le 49, 3, 8, 54), (8, .aload_n 0, 1, 9, 0), (9, .getfield 11, 3, 12, 0), (12, .iload 4, 2, 14, 0), (14, .iload_n 2, 1, 15, 0), (15, .iconst (-1), 1, 16, 1), (16, .ixor, 1, 17, 0), (17, .iand, 1, 18, 0), (18, .laload, 1, 19, 0), (19, .ldc2_w 33, 3, 22, 0), (22, .ladd, 1, 23, 0), (23, .lconst 1, 1, 24, 0), (24, .iload_n 1, 1, 25, 0), (25, .lshl, 1, 26, 0), (26, .ladd, 1, 27, 0), (27, .lstore 5, 2, 29, 0), (29, .aload_n 0, 1, 30, 0), (30, .getfield 11, 3, 33, 0), (33, .iload 4, 2, 35, 0), (35, .aload_n 0, 1, 36, 0), (36, .getfield 11, 3, 39, 0), (39, .iload 4, 2, 41, 0), (41, .laload, 1, 42, 0), (42, .lload 5, 2, 44, 0), (44, .invokestatic 35, 3, 47, 0), (47, .lastore, 1, 48, 0), (48, .iinc 4 (-1), 3, 51, 1), (51, .goto (-48), 3, 54, 3), (54, .return_, 1, 55, 0)]
theorem dk_V_letKeyHelp : sn_tabOk prog_4_method_3_code tb_V_letKeyHelp := by unfold sn_tabOk; decide +kernel
def md_JM_minL : sn_Md := (⟨"java/lang/Math", "min", "(JJ)J"⟩, prog_15_method_70_code, 4, (Option.some FieldType.long))
def tb_JM_minL : sn_Tb := [(0, .lload_n 0, 1, 1, 0), (1, .lload_n 2, 1, 2, 0), (2, .lcmp, 1, 3, 0), (3, .ifCond .gt 7, 3, 6, 10), (6, .lload_n 0, 1, 7, 0), (7, .goto 4, 3, 10, 11), (10, .lload_n 2, 1, 11, 0), (11, .lreturn, 1, 12, 0)]
theorem dk_JM_minL : sn_tabOk prog_15_method_70_code tb_JM_minL := by unfold sn_tabOk; decide +kernel
def md_X_order : sn_Md := (⟨"SureNoes", "order", "(IJI)I"⟩, prog_1_method_22_code, 7, (Option.some FieldType.int))
def tb_X_order : sn_Tb := [(0, .aload_n 0, 1, 1, 0), (1, .iload_n 1, 1, 2, 0), (2, .invokevirtual 102, 3, 5, 0), (5, .astore 5, 2, 7, 0), (7, .aload 5, 2, 9, 0), (9, .ifnonnull 6, 3, 12, 15), (12, .bipush (-101), 2, 14, 101), (14, .ireturn, 1, 15, 0), (15, .lload_n 2, 1, 16, 0), (16, .invokestatic 50, 3, 19, 0), (19, .ifCond .eq 24, 3, 22, 43), (22, .lload_n 2, 1, 23, 0), (23, .invokestatic 123, 3, 26, 0), (26, .bipush 6, 2, 28, 6), (28, .if_icmp .gt 15, 3, 31, 43), (31, .iload 4, 2, 33, 0), (33, .ifCond .lt 10, 3, 36, 43), (36, .iload 4, 2, 38, 0), (38, .bipush 6, 2, 40, 6), (40, .if_icmp .lt 6, 3, 43, 46), (43, .bipush (-102), 2, 45, 102), (45, .ireturn, 1, 46, 0), (46, .aload 5, 2, 48, 0), (48, .instanceof 234, 3, 51, 0), (51, .ifCond .eq 21, 3, 54, 72), (54, .aload 5, 2, 56, 0), (56, .checkcast 234, 3, 59, 0), (59, .astore 6, 2, 61, 0), (61, .aload 6, 2, 63, 0), (63, .lload_n 2, 1, 64, 0), (64, .iload 4, 2, 66, 0), (66, .invokevirtual 236, 3, 69, 0), (69, .goto 5, 3, 72, 74), (72, .bipush (-103), 2, 74, 103), (74, .ireturn, 1, 75, 0)]
theorem dk_X_order : sn_tabOk prog_1_method_22_code tb_X_order := by unfold sn_tabOk; decide +kernel
def md_U_orderedKey : sn_Md := (⟨"SureNoes$Pushed", "orderedKey", "(JI)I"⟩, prog_10_method_12_code, 6, (Option.some FieldType.int))
def tb_U_orderedKey : sn_Tb := [(0, .iconst 0, 1, 1, 0), (1, .istore 4, 2, 3, 0), (3, .iconst 0, 1, 4, 0), (4, .istore 5, 2, 6, 0), (6, .iload 5, 2, 8, 0), (8, .bipush 32, 2, 10, 32), (10, .if_icmp .ge 40, 3, 13, 50), (13, .iload 4, 2, 15, 0), (15, .aload_n 0, 1, 16, 0), (16, .getfield 18, 3, 19, 0), (19, .arraylength, 1, 20, 0), (20, .if_icmp .ge 30, 3, 23, 50), (23, .lload_n 1, 1, 24, 0), (24, .iload 5, 2, 26, 0), (26, .invokestatic 67, 3, 29, 0), (29, .ifCond .eq 15, 3, 32, 44), (32, .aload_n 0, 1, 33, 0), (33, .getfield 18, 3, 36, 0), (36, .iload 4, 2, 38, 0), (38, .iload 5, 2, 40, 0), (40, .iastore, 1, 41, 0), (41, .iinc 4 1, 3, 44, 1), (44, .iinc 5 1, 3, 47, 1), (47, .goto (-41), 3, 50, 6), (50, .iload_n 3, 1, 51, 0), (51, .ifCond .lt 9, 3, 54, 60), (54, .iload_n 3, 1, 55, 0), (55, .iload 4, 2, 57, 0), (57, .if_icmp .lt 5, 3, 60, 62), (60, .iconst (-1), 1, 61, 1), (61, .ireturn, 1, 62, 0), (62, .iconst 0, 1, 63, 0), (63, .istore 5, 2, 65, 0), (65, .iload 5, 2, 67, 0), (67, .sipush 720, 3, 70, 720), (70, .if_icmp .ge 36, 3, 73, 106), (73, .aload_n 0, 1, 74, 0), (74, .iload 4, 2, 76, 0), (76, .invokevirtual 71, 3, 79, 0), (79, .ifCond .eq 10, 3, 82, 89), (82, .aload_n 0, 1, 83, 0), (83, .getfield 18, 3, 86, 0), (86, .iload_n 3, 1, 87, 0), (87, .iaload, 1, 88, 0), (88, .ireturn, 1, 89, 0), (89, .aload_n 0, 1, 90, 0), (90, .iload 4, 2, 92, 0), (92, .invokevirtual 75, 3, 95, 0), (95, .ifCond .ne 5, 3, 98, 100), (98, .iconst (-1), 1, 99, 1), (99, .ireturn, 1, 100, 0), (100, .iinc 5 1, 3, 103, 1), (103, .goto (-38), 3, 106, 65), (106, .iconst (-1), 1, 107, 1), (107, .ireturn, 1, 108, 0)]
theorem dk_U_orderedKey : sn_tabOk prog_10_method_12_code tb_U_orderedKey := by unfold sn_tabOk; decide +kernel
def md_U_allFindPlaces : sn_Md := (⟨"SureNoes$Pushed", "allFindPlaces", "(I)Z"⟩, prog_10_method_13_code, 3, (Option.some FieldType.boolean))
def tb_U_allFindPlaces : sn_Tb := [(0, .iconst 0, 1, 1, 0), (1, .istore_n 2, 1, 2, 0), (2, .iload_n 2, 1, 3, 0), (3, .aload_n 0, 1, 4, 0), (4, .getfield 28, 3, 7, 0), (7, .if_icmp .ge 16, 3, 10, 23), (10, .aload_n 0, 1, 11, 0), (11, .getfield 15, 3, 14, 0), (14, .iload_n 2, 1, 15, 0), (15, .iconst 0, 1, 16, 0), (16, .iastore, 1, 17, 0), (17, .iinc 2 1, 3, 20, 1), (20, .goto (-18), 3, 23, 2), (23, .iconst 0, 1, 24, 0), (24, .istore_n 2, 1, 25, 0), (25, .iload_n 2, 1, 26, 0), (26, .iload_n 1, 1, 27, 0), (27, .if_icmp .ge 28, 3, 30, 55), (30, .aload_n 0, 1, 31, 0), (31, .aload_n 0, 1, 32, 0), (32, .getfield 15, 3, 35, 0), (35, .aload_n 0, 1, 36, 0), (36, .getfield 18, 3, 39, 0), (39, .iload_n 2, 1, 40, 0), (40, .iaload, 1, 41, 0), (41, .invokevirtual 63, 3, 44, 0), (44, .ifCond .ne 5, 3, 47, 49), (47, .iconst 0, 1, 48, 0), (48, .ireturn, 1, 49, 0), (49, .iinc 2 1, 3, 52, 1), (52, .goto (-27), 3, 55, 25), (55, .iconst 1, 1, 56, 1), (56, .ireturn, 1, 57, 0)]
theorem dk_U_allFindPlaces : sn_tabOk prog_10_method_13_code tb_U_allFindPlaces := by unfold sn_tabOk; decide +kernel
def md_U_nextLine : sn_Md := (⟨"SureNoes$Pushed", "nextLine", "(I)Z"⟩, prog_10_method_14_code, 6, (Option.some FieldType.boolean))
def tb_U_nextLine : sn_Tb := [(0, .iload_n 1, 1, 1, 0), (1, .iconst 2, 1, 2, 2), (2, .isub, 1, 3, 0), (3, .istore_n 2, 1, 4, 0), (4, .iload_n 2, 1, 5, 0), (5, .ifCond .lt 26, 3, 8, 31), (8, .aload_n 0, 1, 9, 0), (9, .getfield 18, 3, 12, 0), (12, .iload_n 2, 1, 13, 0), (13, .iaload, 1, 14, 0), (14, .aload_n 0, 1, 15, 0), (15, .getfield 18, 3, 18, 0), (18, .iload_n 2, 1, 19, 0), (19, .iconst 1, 1, 20, 1), (20, .iadd, 1, 21, 0), (21, .iaload, 1, 22, 0), (22, .if_icmp .le 9, 3, 25, 31), (25, .iinc 2 (-1), 3, 28, 1), (28, .goto (-24), 3, 31, 4), (31, .iload_n 2, 1, 32, 0), (32, .ifCond .ge 5, 3, 35, 37), (35, .iconst 0, 1, 36, 0), (36, .ireturn, 1, 37, 0), (37, .iload_n 1, 1, 38, 0), (38, .iconst 1, 1, 39, 1), (39, .isub, 1, 40, 0), (40, .istore_n 3, 1, 41, 0), (41, .iload_n 3, 1, 42, 0), (42, .iload_n 2, 1, 43, 0), (43, .if_icmp .le 24, 3, 46, 67), (46, .aload_n 0, 1, 47, 0), (47, .getfield 18, 3, 50, 0), (50, .iload_n 3, 1, 51, 0), (51, .iaload, 1, 52, 0), (52, .aload_n 0, 1, 53, 0), (53, .getfield 18, 3, 56, 0), (56, .iload_n 2, 1, 57, 0), (57, .iaload, 1, 58, 0), (58, .if_icmp .ge 9, 3, 61, 67), (61, .iinc 3 (-1), 3, 64, 1), (64, .goto (-23), 3, 67, 41), (67, .aload_n 0, 1, 68, 0), (68, .iload_n 2, 1, 69, 0), (69, .iload_n 3, 1, 70, 0), (70, .invokevirtual 78, 3, 73, 0), (73, .iload_n 2, 1, 74, 0), (74, .iconst 1, 1, 75, 1), (75, .iadd, 1, 76, 0), (76, .istore 4, 2, 78, 0), (78, .iload_n 1, 1, 79, 0), (79, .iconst 1, 1, 80, 1), (80, .isub, 1, 81, 0), (81, .istore 5, 2, 83, 0), (83, .iload 4, 2, 85, 0), (85, .iload 5, 2, 87, 0), (87, .if_icmp .ge 20, 3, 90, 107), (90, .aload_n 0, 1, 91, 0), (91, .iload 4, 2, 93, 0), (93, .iload 5, 2, 95, 0), (95, .invokevirtual 78, 3, 98, 0), (98, .iinc 4 1, 3, 101, 1), (101, .iinc 5 (-1), 3, 104, 1), (104, .goto (-21), 3, 107, 83), (107, .iconst 1, 1, 108, 1), (108, .ireturn, 1, 109, 0)]
theorem dk_U_nextLine : sn_tabOk prog_10_method_14_code tb_U_nextLine := by unfold sn_tabOk; decide +kernel
def md_U_swapInLine : sn_Md := (⟨"SureNoes$Pushed", "swapInLine", "(II)V"⟩, prog_10_method_15_code, 4, (Option.none : Option FieldType))
def tb_U_swapInLine : sn_Tb := [(0, .aload_n 0, 1, 1, 0), (1, .getfield 18, 3, 4, 0), (4, .iload_n 1, 1, 5, 0), (5, .iaload, 1, 6, 0), (6, .istore_n 3, 1, 7, 0), (7, .aload_n 0, 1, 8, 0), (8, .getfield 18, 3, 11, 0), (11, .iload_n 1, 1, 12, 0), (12, .aload_n 0, 1, 13, 0), (13, .getfield 18, 3, 16, 0), (16, .iload_n 2, 1, 17, 0), (17, .iaload, 1, 18, 0), (18, .iastore, 1, 19, 0), (19, .aload_n 0, 1, 20, 0), (20, .getfield 18, 3, 23, 0), (23, .iload_n 2, 1, 24, 0), (24, .iload_n 3, 1, 25, 0), (25, .iastore, 1, 26, 0), (26, .return_, 1, 27, 0)]
theorem dk_U_swapInLine : sn_tabOk prog_10_method_15_code tb_U_swapInLine := by unfold sn_tabOk; decide +kernel
def md_X_most : sn_Md := (⟨"SureNoes", "most", "(IJ)I"⟩, prog_1_method_23_code, 6, (Option.some FieldType.int))
def tb_X_most : sn_Tb := [(0, .aload_n 0, 1, 1, 0), (1, .iload_n 1, 1, 2, 0), (2, .invokevirtual 102, 3, 5, 0), (5, .astore 4, 2, 7, 0), (7, .aload 4, 2, 9, 0), (9, .ifnonnull 6, 3, 12, 15), (12, .bipush (-101), 2, 14, 101), (14, .ireturn, 1, 15, 0), (15, .lload_n 2, 1, 16, 0), (16, .invokestatic 50, 3, 19, 0), (19, .ifCond .ne 6, 3, 22, 25), (22, .bipush (-102), 2, 24, 102), (24, .ireturn, 1, 25, 0), (25, .aload 4, 2, 27, 0), (27, .instanceof 234, 3, 30, 0), (30, .ifCond .eq 19, 3, 33, 49), (33, .aload 4, 2, 35, 0), (35, .checkcast 234, 3, 38, 0), (38, .astore 5, 2, 40, 0), (40, .aload 5, 2, 42, 0), (42, .lload_n 2, 1, 43, 0), (43, .invokevirtual 240, 3, 46, 0), (46, .goto 5, 3, 49, 51), (49, .bipush (-103), 2, 51, 103), (51, .ireturn, 1, 52, 0)]
theorem dk_X_most : sn_tabOk prog_1_method_23_code tb_X_most := by unfold sn_tabOk; decide +kernel
def md_U_mostAtOnce : sn_Md := (⟨"SureNoes$Pushed", "mostAtOnce", "(J)I"⟩, prog_10_method_16_code, 8, (Option.some FieldType.int))
def tb_U_mostAtOnce : sn_Tb := [(0, .aload_n 0, 1, 1, 0), (1, .lload_n 1, 1, 2, 0), (2, .invokevirtual 82, 3, 5, 0), (5, .iconst 0, 1, 6, 0), (6, .istore_n 3, 1, 7, 0), (7, .iconst 0, 1, 8, 0), (8, .istore 4, 2, 10, 0), (10, .iload 4, 2, 12, 0), (12, .aload_n 0, 1, 13, 0), (13, .getfield 28, 3, 16, 0), (16, .if_icmp .ge 102, 3, 19, 118), (19, .iconst 0, 1, 20, 0), (20, .istore 5, 2, 22, 0), (22, .iconst 0, 1, 23, 0), (23, .istore 6, 2, 25, 0), (25, .iload 6, 2, 27, 0), (27, .aload_n 0, 1, 28, 0), (28, .getfield 28, 3, 31, 0), (31, .if_icmp .ge 24, 3, 34, 55), (34, .aload_n 0, 1, 35, 0), (35, .getfield 21, 3, 38, 0), (38, .iload 6, 2, 40, 0), (40, .iaload, 1, 41, 0), (41, .iload 4, 2, 43, 0), (43, .if_icmp .ne 6, 3, 46, 49), (46, .iinc 5 1, 3, 49, 1), (49, .iinc 6 1, 3, 52, 1), (52, .goto (-27), 3, 55, 25), (55, .iconst 0, 1, 56, 0), (56, .istore 6, 2, 58, 0), (58, .iconst 0, 1, 59, 0), (59, .istore 7, 2, 61, 0), (61, .iload 7, 2, 63, 0), (63, .bipush 32, 2, 65, 32), (65, .if_icmp .ge 37, 3, 68, 102), (68, .lload_n 1, 1, 69, 0), (69, .iload 7, 2, 71, 0), (71, .invokestatic 67, 3, 74, 0), (74, .ifCond .eq 22, 3, 77, 96), (77, .aload_n 0, 1, 78, 0), (78, .getfield 21, 3, 81, 0), (81, .aload_n 0, 1, 82, 0), (82, .iload 7, 2, 84, 0), (84, .invokevirtual 45, 3, 87, 0), (87, .iaload, 1, 88, 0), (88, .iload 4, 2, 90, 0), (90, .if_icmp .ne 6, 3, 93, 96), (93, .iinc 6 1, 3, 96, 1), (96, .iinc 7 1, 3, 99, 1), (99, .goto (-38), 3, 102, 61), (102, .iload_n 3, 1, 103, 0), (103, .iload 5, 2, 105, 0), (105, .iload 6, 2, 107, 0), (107, .invokestatic 86, 3, 110, 0), (110, .iadd, 1, 111, 0), (111, .istore_n 3, 1, 112, 0), (112, .iinc 4 1, 3, 115, 1), (115, .goto (-105), 3, 118, 10), (118, .iload_n 3, 1, 119, 0), (119, .ireturn, 1, 120, 0)]
theorem dk_U_mostAtOnce : sn_tabOk prog_10_method_16_code tb_U_mostAtOnce := by unfold sn_tabOk; decide +kernel
def md_U_tieGroups : sn_Md := (⟨"SureNoes$Pushed", "tieGroups", "(J)V"⟩, prog_10_method_17_code, 5, (Option.none : Option FieldType))
def tb_U_tieGroups : sn_Tb := [(0, .iconst 0, 1, 1, 0), (1, .istore_n 3, 1, 2, 0), (2, .iload_n 3, 1, 3, 0), (3, .aload_n 0, 1, 4, 0), (4, .getfield 28, 3, 7, 0), (7, .if_icmp .ge 16, 3, 10, 23), (10, .aload_n 0, 1, 11, 0), (11, .getfield 21, 3, 14, 0), (14, .iload_n 3, 1, 15, 0), (15, .iload_n 3, 1, 16, 0), (16, .iastore, 1, 17, 0), (17, .iinc 3 1, 3, 20, 1), (20, .goto (-18), 3, 23, 2), (23, .iconst 0, 1, 24, 0), (24, .istore_n 3, 1, 25, 0), (25, .iload_n 3, 1, 26, 0), (26, .bipush 32, 2, 28, 32), (28, .if_icmp .ge 51, 3, 31, 79), (31, .lload_n 1, 1, 32, 0), (32, .iload_n 3, 1, 33, 0), (33, .invokestatic 67, 3, 36, 0), (36, .ifCond .eq 37, 3, 39, 73), (39, .aload_n 0, 1, 40, 0), (40, .iload_n 3, 1, 41, 0), (41, .invokevirtual 45, 3, 44, 0), (44, .istore 4, 2, 46, 0), (46, .aload_n 0, 1, 47, 0), (47, .aload_n 0, 1, 48, 0), (48, .getfield 21, 3, 51, 0), (51, .aload_n 0, 1, 52, 0), (52, .iload 4, 2, 54, 0), (54, .aload_n 0, 1, 55, 0), (55, .iload_n 3, 1, 56, 0), (56, .invokevirtual 48, 3, 59, 0), (59, .invokevirtual 51, 3, 62, 0), (62, .iaload, 1, 63, 0), (63, .aload_n 0, 1, 64, 0), (64, .getfield 21, 3, 67, 0), (67, .iload 4, 2, 69, 0), (69, .iaload, 1, 70, 0), (70, .invokevirtual 91, 3, 73, 0), (73, .iinc 3 1, 3, 76, 1), (76, .goto (-51), 3, 79, 25), (79, .return_, 1, 80, 0)]
theorem dk_U_tieGroups : sn_tabOk prog_10_method_17_code tb_U_tieGroups := by unfold sn_tabOk; decide +kernel
def md_U_renameGroup : sn_Md := (⟨"SureNoes$Pushed", "renameGroup", "(II)V"⟩, prog_10_method_18_code, 4, (Option.none : Option FieldType))
def tb_U_renameGroup : sn_Tb := [(0, .iconst 0, 1, 1, 0), (1, .istore_n 3, 1, 2, 0), (2, .iload_n 3, 1, 3, 0), (3, .aload_n 0, 1, 4, 0), (4, .getfield 28, 3, 7, 0), (7, .if_icmp .ge 26, 3, 10, 33), (10, .aload_n 0, 1, 11, 0), (11, .getfield 21, 3, 14, 0), (14, .iload_n 3, 1, 15, 0), (15, .iaload, 1, 16, 0), (16, .iload_n 1, 1, 17, 0), (17, .if_icmp .ne 10, 3, 20, 27), (20, .aload_n 0, 1, 21, 0), (21, .getfield 21, 3, 24, 0), (24, .iload_n 3, 1, 25, 0), (25, .iload_n 2, 1, 26, 0), (26, .iastore, 1, 27, 0), (27, .iinc 3 1, 3, 30, 1), (30, .goto (-28), 3, 33, 2), (33, .return_, 1, 34, 0)]
theorem dk_U_renameGroup : sn_tabOk prog_10_method_18_code tb_U_renameGroup := by unfold sn_tabOk; decide +kernel
def md_X_count : sn_Md := (⟨"SureNoes", "count", "(I)I"⟩, prog_1_method_24_code, 2, (Option.some FieldType.int))
def tb_X_count : sn_Tb := [(0, .iload_n 1, 1, 1, 0), (1, .tableswitch 57 0 3 #[31, 36, 41, 49], 31, 32, 0), (32, .aload_n 0, 1, 33, 0), (33, .getfield 15, 3, 36, 0), (36, .ireturn, 1, 37, 0), (37, .aload_n 0, 1, 38, 0), (38, .getfield 25, 3, 41, 0), (41, .ireturn, 1, 42, 0), (42, .aload_n 0, 1, 43, 0), (43, .invokevirtual 243, 3, 46, 0), (46, .invokestatic 123, 3, 49, 0), (49, .ireturn, 1, 50, 0), (50, .aload_n 0, 1, 51, 0), (51, .invokevirtual 246, 3, 54, 0), (54, .invokestatic 123, 3, 57, 0), (57, .ireturn, 1, 58, 0), (58, .bipush (-102), 2, 60, 102), (60, .ireturn, 1, 61, 0)]
theorem dk_X_count : sn_tabOk prog_1_method_24_code tb_X_count := by unfold sn_tabOk; decide +kernel
def md_X_keysReallySomewhere : sn_Md := (⟨"SureNoes", "keysReallySomewhere", "()J"⟩, prog_1_method_49_code, 4, (Option.some FieldType.long))
def tb_X_keysReallySomewhere : sn_Tb := [(0, .lconst 0, 1, 1, 0), (1, .lstore_n 1, 1, 2, 0), (2, .iconst 0, 1, 3, 0), (3, .istore_n 3, 1, 4, 0), (4, .iload_n 3, 1, 5, 0), (5, .aload_n 0, 1, 6, 0), (6, .getfield 25, 3, 9, 0), (9, .if_icmp .ge 21, 3, 12, 30), (12, .lload_n 1, 1, 13, 0), (13, .aload_n 0, 1, 14, 0), (14, .getfield 21, 3, 17, 0), (17, .iload_n 3, 1, 18, 0), (18, .aaload, 1, 19, 0), (19, .invokevirtual 129, 3, 22, 0), (22, .lor, 1, 23, 0), (23, .lstore_n 1, 1, 24, 0), (24, .iinc 3 1, 3, 27, 1), (27, .goto (-23), 3, 30, 4), (30, .lload_n 1, 1, 31, 0), (31, .lreturn, 1, 32, 0)]
theorem dk_X_keysReallySomewhere : sn_tabOk prog_1_method_49_code tb_X_keysReallySomewhere := by unfold sn_tabOk; decide +kernel
def md_X_keysHeldEverywhere : sn_Md := (⟨"SureNoes", "keysHeldEverywhere", "()J"⟩, prog_1_method_50_code, 4, (Option.some FieldType.long))
def tb_X_keysHeldEverywhere : sn_Tb := [(0, .aload_n 0, 1, 1, 0), (1, .getfield 25, 3, 4, 0), (4, .ifCond .ne 7, 3, 7, 11), (7, .lconst 0, 1, 8, 0), (8, .goto 6, 3, 11, 14), (11, .ldc2_w 232, 3, 14, 0), (14, .lstore_n 1, 1, 15, 0), (15, .iconst 0, 1, 16, 0), (16, .istore_n 3, 1, 17, 0), (17, .iload_n 3, 1, 18, 0), (18, .aload_n 0, 1, 19, 0), (19, .getfield 25, 3, 22, 0), (22, .if_icmp .ge 21, 3, 25, 43), (25, .lload_n 1, 1, 26, 0), (26, .aload_n 0, 1, 27, 0), (27, .getfield 21, 3, 30, 0), (30, .iload_n 3, 1, 31, 0), (31, .aaload, 1, 32, 0), (32, .invokevirtual 173, 3, 35, 0), (35, .land, 1, 36, 0), (36, .lstore_n 1, 1, 37, 0), (37, .iinc 3 1, 3, 40, 1), (40, .goto (-23), 3, 43, 17), (43, .lload_n 1, 1, 44, 0), (44, .lreturn, 1, 45, 0)]
theorem dk_X_keysHeldEverywhere : sn_tabOk prog_1_method_50_code tb_X_keysHeldEverywhere := by unfold sn_tabOk; decide +kernel
def md_X_digest : sn_Md := (⟨"SureNoes", "digest", "()J"⟩, prog_1_method_25_code, 5, (Option.some FieldType.long))
def tb_X_digest : sn_Tb := [(0, .ldc2_w 249, 3, 3, 0), (3, .lstore_n 1, 1, 4, 0), (4, .iconst 0, 1, 5, 0), (5, .istore_n 3, 1, 6, 0), (6, .iload_n 3, 1, 7, 0), (7, .aload_n 0, 1, 8, 0), (8, .getfield 15, 3, 11, 0), (11, .if_icmp .ge 40, 3, 14, 51), (14, .iconst 0, 1, 15, 0), (15, .istore 4, 2, 17, 0), (17, .iload 4, 2, 19, 0), (19, .bipush 32, 2, 21, 32), (21, .if_icmp .ge 24, 3, 24, 45), (24, .ldc2_w 251, 3, 27, 0), (27, .lload_n 1, 1, 28, 0), (28, .lmul, 1, 29, 0), (29, .aload_n 0, 1, 30, 0), (30, .iload_n 3, 1, 31, 0), (31, .iload 4, 2, 33, 0), (33, .invokevirtual 253, 3, 36, 0), (36, .i2l, 1, 37, 0), (37, .ladd, 1, 38, 0), (38, .lstore_n 1, 1, 39, 0), (39, .iinc 4 1, 3, 42, 1), (42, .goto (-25), 3, 45, 17), (45, .iinc 3 1, 3, 48, 1), (48, .goto (-42), 3, 51, 6), (51, .iconst 0, 1, 52, 0), (52, .istore_n 3, 1, 53, 0), (53, .iload_n 3, 1, 54, 0), (54, .aload_n 0, 1, 55, 0), (55, .getfield 25, 3, 58, 0), (58, .if_icmp .ge 16, 3, 61, 74), (61, .aload_n 0, 1, 62, 0), (62, .lload_n 1, 1, 63, 0), (63, .iload_n 3, 1, 64, 0), (64, .invokevirtual 256, 3, 67, 0), (67, .lstore_n 1, 1, 68, 0), (68, .iinc 3 1, 3, 71, 1), (71, .goto (-18), 3, 74, 53), (74, .iconst 0, 1, 75, 0), (75, .istore_n 3, 1, 76, 0), (76, .iload_n 3, 1, 77, 0), (77, .iconst 3, 1, 78, 3), (78, .if_icmp .gt 22, 3, 81, 100), (81, .ldc2_w 251, 3, 84, 0), (84, .lload_n 1, 1, 85, 0), (85, .lmul, 1, 86, 0), (86, .aload_n 0, 1, 87, 0), (87, .iload_n 3, 1, 88, 0), (88, .invokevirtual 260, 3, 91, 0), (91, .i2l, 1, 92, 0), (92, .ladd, 1, 93, 0), (93, .lstore_n 1, 1, 94, 0), (94, .iinc 3 1, 3, 97, 1), (97, .goto (-21), 3, 100, 76), (100, .lload_n 1, 1, 101, 0), (101, .lreturn, 1, 102, 0)]
theorem dk_X_digest : sn_tabOk prog_1_method_25_code tb_X_digest := by unfold sn_tabOk; decide +kernel
def md_X_digestOfBook : sn_Md := (⟨"SureNoes", "digestOfBook", "(JI)J"⟩, prog_1_method_51_code, 9, (Option.some FieldType.long))
def tb_X_digestOfBook : sn_Tb := [(0, .lload_n 1, 1, 1, 0), (1, .lstore 4, 2, 3, 0), (3, .iconst 0, 1, 4, 0), (4, .istore 6, 2, 6, 0), (6, .iload 6, 2, 8, 0), (8, .iconst 5, 1, 9, 5), (9, .if_icmp .gt 26, 3, 12, 35), (12, .ldc2_w 251, 3, 15, 0), (15, .lload 4, 2, 17, 0), (17, .lmul, 1, 18, 0), (18, .aload_n 0, 1, 19, 0), (19, .iload_n 3, 1, 20, 0), (20, .iload 6, 2, 22, 0), (22, .invokevirtual 293, 3, 25, 0), (25, .i2l, 1, 26, 0), (26, .ladd, 1, 27, 0), (27, .lstore 4, 2, 29, 0), (29, .iinc 6 1, 3, 32, 1), (32, .goto (-26), 3, 35, 6), (35, .aload_n 0, 1, 36, 0), (36, .iload_n 3, 1, 37, 0), (37, .iconst 1, 1, 38, 1), (38, .invokevirtual 293, 3, 41, 0), (41, .istore 6, 2, 43, 0), (43, .iconst 0, 1, 44, 0), (44, .istore 7, 2, 46, 0), (46, .iload 7, 2, 48, 0), (48, .iload 6, 2, 50, 0), (50, .if_icmp .ge 26, 3, 53, 76), (53, .ldc2_w 251, 3, 56, 0), (56, .lload 4, 2, 58, 0), (58, .lmul, 1, 59, 0), (59, .aload_n 0, 1, 60, 0), (60, .iload_n 3, 1, 61, 0), (61, .iload 7, 2, 63, 0), (63, .invokevirtual 296, 3, 66, 0), (66, .i2l, 1, 67, 0), (67, .ladd, 1, 68, 0), (68, .lstore 4, 2, 70, 0), (70, .iinc 7 1, 3, 73, 1), (73, .goto (-27), 3, 76, 46), (76, .aload_n 0, 1, 77, 0), (77, .iload_n 3, 1, 78, 0), (78, .iconst 5, 1, 79, 5), (79, .invokevirtual 293, 3, 82, 0), (82, .istore 7, 2, 84, 0), (84, .iconst 0, 1, 85, 0), (85, .istore 8, 2, 87, 0), (87, .iload 8, 2, 89, 0), (89, .iload 7, 2, 91, 0), (91, .if_icmp .ge 25, 3, 94, 116), (94, .ldc2_w 251, 3, 97, 0), (97, .lload 4, 2, 99, 0), (99, .lmul, 1, 100, 0), (100, .aload_n 0, 1, 101, 0), (101, .iload_n 3, 1, 102, 0), (102, .iload 8, 2, 104, 0), (104, .invokevirtual 299, 3, 107, 0), (107, .ladd, 1, 108, 0), (108, .lstore 4, 2, 110, 0), (110, .iinc 8 1, 3, 113, 1), (113, .goto (-26), 3, 116, 87), (116, .iconst 0, 1, 117, 0), (117, .istore 8, 2, 119, 0), (119, .iload 8, 2, 121, 0), (121, .iconst 3, 1, 122, 3), (122, .if_icmp .gt 25, 3, 125, 147), (125, .ldc2_w 251, 3, 128, 0), (128, .lload 4, 2, 130, 0), (130, .lmul, 1, 131, 0), (131, .aload_n 0, 1, 132, 0), (132, .iload_n 3, 1, 133, 0), (133, .iload 8, 2, 135, 0), (135, .invokevirtual 303, 3, 138, 0), (138, .ladd, 1, 139, 0), (139, .lstore 4, 2, 141, 0), (141, .iinc 8 1, 3, 144, 1), (144, .goto (-25), 3, 147, 119), (147, .lload 4, 2, 149, 0), (149, .lreturn, 1, 150, 0)]
theorem dk_X_digestOfBook : sn_tabOk prog_1_method_51_code tb_X_digestOfBook := by unfold sn_tabOk; decide +kernel
def md_M_init : sn_Md := (⟨"SureNoesModel", "<init>", "()V"⟩, prog_12_method_1_code, 1, (Option.none : Option FieldType))
def tb_M_init : sn_Tb := [(0, .aload_n 0, 1, 1, 0), (1, .invokespecial 1, 3, 4, 0), (4, .aload_n 0, 1, 5, 0), (5, .bipush 8, 2, 7, 8), (7, .newarray .int, 2, 9, 0), (9, .putfield 7, 3, 12, 0), (12, .aload_n 0, 1, 13, 0), (13, .bipush 8, 2, 15, 8), (15, .newarray .int, 2, 17, 0), (17, .putfield 13, 3, 20, 0), (20, .aload_n 0, 1, 21, 0), (21, .bipush 8, 2, 23, 8), (23, .newarray .int, 2, 25, 0), (25, .putfield 16, 3, 28, 0), (28, .aload_n 0, 1, 29, 0), (29, .bipush 8, 2, 31, 8), (31, .newarray .int, 2, 33, 0), (33, .putfield 19, 3, 36, 0), (36, .aload_n 0, 1, 37, 0), (37, .bipush 8, 2, 39, 8), (39, .newarray .int, 2, 41, 0), (41, .putfield 22, 3, 44, 0), (44, .aload_n 0, 1, 45, 0), (45, .sipush 256, 3, 48, 256), (48, .newarray .int, 2, 50, 0), (50, .putfield 25, 3, 53, 0), (53, .aload_n 0, 1, 54, 0), (54, .sipush 256, 3, 57, 256), (57, .newarray .int, 2, 59, 0), (59, .putfield 28, 3, 62, 0), (62, .aload_n 0, 1, 63, 0), (63, .bipush 8, 2, 65, 8), (65, .newarray .int, 2, 67, 0), (67, .putfield 31, 3, 70, 0), (70, .aload_n 0, 1, 71, 0), (71, .bipush 48, 2, 73, 48), (73, .newarray .long, 2, 75, 0), (75, .putfield 34, 3, 78, 0), (78, .aload_n 0, 1, 79, 0), (79, .bipush 32, 2, 81, 32), (81, .newarray .int, 2, 83, 0), (83, .putfield 38, 3, 86, 0), (86, .aload_n 0, 1, 87, 0), (87, .bipush 32, 2, 89, 32), (89, .newarray .int, 2, 91, 0), (91, .putfield 41, 3, 94, 0), (94, .aload_n 0, 1, 95, 0), (95, .bipush 32, 2, 97, 32), (97, .newarray .int, 2, 99, 0), (99, .putfield 44, 3, 102, 0), (102, .aload_n 0, 1, 103, 0), (103, .bipush 7, 2, 105, 7), (105, .newarray .long, 2, 107, 0), (107, .putfield 47, 3, 110, 0), (110, .aload_n 0, 1, 111, 0), (111, .bipush 32, 2, 113, 32), (113, .newarray .long, 2, 115, 0), (115, .putfield 50, 3, 118, 0), (118, .aload_n 0, 1, 119, 0), (119, .sipush 4096, 3, 122, 4096), (122, .newarray .byte, 2, 124, 0), (124, .putfield 53, 3, 127, 0), (127, .aload_n 0, 1, 128, 0), (128, .sipush 4096, 3, 131, 4096), (131, .newarray .long, 2, 133, 0), (133, .putfield 57, 3, 136, 0), (136, .aload_n 0, 1, 137, 0), (137, .bipush 32, 2, 139, 32), (139, .newarray .int, 2, 141, 0), (141, .putfield 60, 3, 144, 0), (144, .aload_n 0, 1, 145, 0), (145, .bipush 6, 2, 147, 6), (147, .newarray .int, 2, 149, 0), (149, .putfield 63, 3, 152, 0), (152, .aload_n 0, 1, 153, 0), (153, .bipush 6, 2, 155, 6), (155, .newarray .int, 2, 157, 0), (157, .putfield 66, 3, 160, 0), (160, .aload_n 0, 1, 161, 0), (161, .bipush 32, 2, 163, 32), (163, .newarray .int, 2, 165, 0), (165, .putfield 69, 3, 168, 0), (168, .aload_n 0, 1, 169, 0), (169, .bipush 32, 2, 171, 32), (171, .newarray .int, 2, 173, 0), (173, .putfield 72, 3, 176, 0), (176, .return_, 1, 177, 0)]
theorem dk_M_init : sn_tabOk prog_12_method_1_code tb_M_init := by unfold sn_tabOk; decide +kernel
def md_M_law : sn_Md := (⟨"SureNoesModel", "law", "(II)I"⟩, prog_12_method_9_code, 3, (Option.some FieldType.int))
def tb_M_law : sn_Tb := [(0, .iload_n 1, 1, 1, 0), (1, .i2l, 1, 2, 0), (2, .lconst 1, 1, 3, 0), (3, .ldc2_w 87, 3, 6, 0), (6, .invokestatic 77, 3, 9, 0), (9, .ifCond .eq 15, 3, 12, 24), (12, .iload_n 2, 1, 13, 0), (13, .i2l, 1, 14, 0), (14, .lconst 0, 1, 15, 0), (15, .ldc2_w 87, 3, 18, 0), (18, .invokestatic 77, 3, 21, 0), (21, .ifCond .ne 6, 3, 24, 27), (24, .bipush (-102), 2, 26, 102), (26, .ireturn, 1, 27, 0), (27, .aload_n 0, 1, 28, 0), (28, .getfield 83, 3, 31, 0), (31, .bipush 8, 2, 33, 8), (33, .if_icmp .ne 6, 3, 36, 39), (36, .bipush (-104), 2, 38, 104), (38, .ireturn, 1, 39, 0), (39, .aload_n 0, 1, 40, 0), (40, .getfield 7, 3, 43, 0), (43, .aload_n 0, 1, 44, 0), (44, .getfield 83, 3, 47, 0), (47, .iload_n 1, 1, 48, 0), (48, .iastore, 1, 49, 0), (49, .aload_n 0, 1, 50, 0), (50, .getfield 13, 3, 53, 0), (53, .aload_n 0, 1, 54, 0), (54, .getfield 83, 3, 57, 0), (57, .iload_n 2, 1, 58, 0), (58, .iastore, 1, 59, 0), (59, .aload_n 0, 1, 60, 0), (60, .dup, 1, 61, 0), (61, .getfield 83, 3, 64, 0), (64, .iconst 1, 1, 65, 1), (65, .iadd, 1, 66, 0), (66, .putfield 83, 3, 69, 0), (69, .aload_n 0, 1, 70, 0), (70, .getfield 83, 3, 73, 0), (73, .iconst 1, 1, 74, 1), (74, .isub, 1, 75, 0), (75, .ireturn, 1, 76, 0)]
theorem dk_M_law : sn_tabOk prog_12_method_9_code tb_M_law := by unfold sn_tabOk; decide +kernel
def md_M_within : sn_Md := (⟨"SureNoesModel", "within", "(JJJ)Z"⟩, prog_12_method_3_code, 6, (Option.some FieldType.boolean))
def tb_M_within : sn_Tb := [(0, .lload_n 0, 1, 1, 0), (1, .lload_n 2, 1, 2, 0), (2, .lcmp, 1, 3, 0), (3, .ifCond .lt 14, 3, 6, 17), (6, .lload_n 0, 1, 7, 0), (7, .lload 4, 2, 9, 0), (9, .lcmp, 1, 10, 0), (10, .ifCond .gt 7, 3, 13, 17), (13, .iconst 1, 1, 14, 1), (14, .goto 4, 3, 17, 18), (17, .iconst 0, 1, 18, 0), (18, .ireturn, 1, 19, 0)]
theorem dk_M_within : sn_tabOk prog_12_method_3_code tb_M_within := by unfold sn_tabOk; decide +kernel
def md_M_value : sn_Md := (⟨"SureNoesModel", "value", "(II)I"⟩, prog_12_method_11_code, 3, (Option.some FieldType.int))
def tb_M_value : sn_Tb := [(0, .aload_n 0, 1, 1, 0), (1, .iload_n 1, 1, 2, 0), (2, .invokevirtual 89, 3, 5, 0), (5, .ifCond .eq 19, 3, 8, 24), (8, .iload_n 2, 1, 9, 0), (9, .invokestatic 93, 3, 12, 0), (12, .ifCond .eq 12, 3, 15, 24), (15, .aload_n 0, 1, 16, 0), (16, .iload_n 1, 1, 17, 0), (17, .iload_n 2, 1, 18, 0), (18, .invokevirtual 96, 3, 21, 0), (21, .goto 5, 3, 24, 26), (24, .bipush (-101), 2, 26, 101), (26, .ireturn, 1, 27, 0)]
theorem dk_M_value : sn_tabOk prog_12_method_11_code tb_M_value := by unfold sn_tabOk; decide +kernel
def md_M_isLaw : sn_Md := (⟨"SureNoesModel", "isLaw", "(I)Z"⟩, prog_12_method_8_code, 2, (Option.some FieldType.boolean))
def tb_M_isLaw : sn_Tb := [(0, .iload_n 1, 1, 1, 0), (1, .i2l, 1, 2, 0), (2, .lconst 0, 1, 3, 0), (3, .aload_n 0, 1, 4, 0), (4, .getfield 83, 3, 7, 0), (7, .iconst 1, 1, 8, 1), (8, .isub, 1, 9, 0), (9, .i2l, 1, 10, 0), (10, .invokestatic 77, 3, 13, 0), (13, .ireturn, 1, 14, 0)]
theorem dk_M_isLaw : sn_tabOk prog_12_method_8_code tb_M_isLaw := by unfold sn_tabOk; decide +kernel
def md_M_isKey : sn_Md := (⟨"SureNoesModel", "isKey", "(I)Z"⟩, prog_12_method_4_code, 1, (Option.some FieldType.boolean))
def tb_M_isKey : sn_Tb := [(0, .iload_n 0, 1, 1, 0), (1, .i2l, 1, 2, 0), (2, .lconst 0, 1, 3, 0), (3, .ldc2_w 75, 3, 6, 0), (6, .invokestatic 77, 3, 9, 0), (9, .ireturn, 1, 10, 0)]
theorem dk_M_isKey : sn_tabOk prog_12_method_4_code tb_M_isKey := by unfold sn_tabOk; decide +kernel
def md_M_valueOf : sn_Md := (⟨"SureNoesModel", "valueOf", "(II)I"⟩, prog_12_method_10_code, 3, (Option.some FieldType.int))
def tb_M_valueOf : sn_Tb := [(0, .aload_n 0, 1, 1, 0), (1, .getfield 7, 3, 4, 0), (4, .iload_n 1, 1, 5, 0), (5, .iaload, 1, 6, 0), (6, .iload_n 2, 1, 7, 0), (7, .imul, 1, 8, 0), (8, .aload_n 0, 1, 9, 0), (9, .getfield 13, 3, 12, 0), (12, .iload_n 1, 1, 13, 0), (13, .iaload, 1, 14, 0), (14, .iadd, 1, 15, 0), (15, .bipush 37, 2, 17, 37), (17, .irem, 1, 18, 0), (18, .ireturn, 1, 19, 0)]
theorem dk_M_valueOf : sn_tabOk prog_12_method_10_code tb_M_valueOf := by unfold sn_tabOk; decide +kernel
def md_M_odds : sn_Md := (⟨"SureNoesModel", "odds", "(JIII)I"⟩, prog_12_method_14_code, 11, (Option.some FieldType.int))
def tb_M_odds : sn_Tb := [(0, .lload_n 1, 1, 1, 0), (1, .invokestatic 108, 3, 4, 0), (4, .ifCond .eq 29, 3, 7, 33), (7, .iload 4, 2, 9, 0), (9, .i2l, 1, 10, 0), (10, .ldc2_w 112, 3, 13, 0), (13, .ldc2_w 114, 3, 16, 0), (16, .invokestatic 77, 3, 19, 0), (19, .ifCond .eq 14, 3, 22, 33), (22, .iload 5, 2, 24, 0), (24, .i2l, 1, 25, 0), (25, .lconst 0, 1, 26, 0), (26, .lconst 1, 1, 27, 0), (27, .invokestatic 77, 3, 30, 0), (30, .ifCond .ne 6, 3, 33, 36), (33, .bipush (-102), 2, 35, 102), (35, .ireturn, 1, 36, 0), (36, .iload_n 3, 1, 37, 0), (37, .invokestatic 93, 3, 40, 0), (40, .ifCond .eq 11, 3, 43, 51), (43, .lload_n 1, 1, 44, 0), (44, .iload_n 3, 1, 45, 0), (45, .invokestatic 100, 3, 48, 0), (48, .ifCond .eq 6, 3, 51, 54), (51, .bipush (-101), 2, 53, 101), (53, .ireturn, 1, 54, 0), (54, .iconst 0, 1, 55, 0), (55, .istore 6, 2, 57, 0), (57, .iconst 0, 1, 58, 0), (58, .istore 7, 2, 60, 0), (60, .iconst 1, 1, 61, 1), (61, .istore 8, 2, 63, 0), (63, .iload 8, 2, 65, 0), (65, .bipush 36, 2, 67, 36), (67, .if_icmp .gt 67, 3, 70, 134), (70, .iconst 0, 1, 71, 0), (71, .istore 9, 2, 73, 0), (73, .iload 9, 2, 75, 0), (75, .bipush 36, 2, 77, 36), (77, .if_icmp .gt 51, 3, 80, 128), (80, .iinc 7 1, 3, 83, 1), (83, .iload 6, 2, 85, 0), (85, .iload 8, 2, 87, 0), (87, .iload 9, 2, 89, 0), (89, .iload 4, 2, 91, 0), (91, .lload_n 1, 1, 92, 0), (92, .invokestatic 104, 3, 95, 0), (95, .iload 8, 2, 97, 0), (97, .iload_n 3, 1, 98, 0), (98, .imul, 1, 99, 0), (99, .iload 9, 2, 101, 0), (101, .iadd, 1, 102, 0), (102, .bipush 37, 2, 104, 37), (104, .irem, 1, 105, 0), (105, .iload 4, 2, 107, 0), (107, .irem, 1, 108, 0), (108, .invokestatic 100, 3, 111, 0), (111, .ifCond .eq 7, 3, 114, 118), (114, .iconst 1, 1, 115, 1), (115, .goto 4, 3, 118, 119), (118, .iconst 0, 1, 119, 0), (119, .iadd, 1, 120, 0), (120, .istore 6, 2, 122, 0), (122, .iinc 9 1, 3, 125, 1), (125, .goto (-52), 3, 128, 73), (128, .iinc 8 1, 3, 131, 1), (131, .goto (-68), 3, 134, 63), (134, .iload 6, 2, 136, 0), (136, .istore 8, 2, 138, 0), (138, .iload 7, 2, 140, 0), (140, .istore 9, 2, 142, 0), (142, .iload 9, 2, 144, 0), (144, .ifCond .eq 21, 3, 147, 165), (147, .iload 8, 2, 149, 0), (149, .iload 9, 2, 151, 0), (151, .irem, 1, 152, 0), (152, .istore 10, 2, 154, 0), (154, .iload 9, 2, 156, 0), (156, .istore 8, 2, 158, 0), (158, .iload 10, 2, 160, 0), (160, .istore 9, 2, 162, 0), (162, .goto (-20), 3, 165, 142), (165, .iload 5, 2, 167, 0), (167, .ifCond .ne 11, 3, 170, 178), (170, .iload 6, 2, 172, 0), (172, .iload 8, 2, 174, 0), (174, .idiv, 1, 175, 0), (175, .goto 8, 3, 178, 183), (178, .iload 7, 2, 180, 0), (180, .iload 8, 2, 182, 0), (182, .idiv, 1, 183, 0), (183, .ireturn, 1, 184, 0)]
theorem dk_M_odds : sn_tabOk prog_12_method_14_code tb_M_odds := by unfold sn_tabOk; decide +kernel
def md_M_isSet : sn_Md := (⟨"SureNoesModel", "isSet", "(J)Z"⟩, prog_12_method_7_code, 2, (Option.some FieldType.boolean))
def tb_M_isSet : sn_Tb := [(0, .lload_n 0, 1, 1, 0), (1, .lconst 0, 1, 2, 0), (2, .ldc2_w 81, 3, 5, 0), (5, .invokestatic 77, 3, 8, 0), (8, .ireturn, 1, 9, 0)]
theorem dk_M_isSet : sn_tabOk prog_12_method_7_code tb_M_isSet := by unfold sn_tabOk; decide +kernel
def md_M_has : sn_Md := (⟨"SureNoesModel", "has", "(JI)Z"⟩, prog_12_method_5_code, 3, (Option.some FieldType.boolean))
def tb_M_has : sn_Tb := [(0, .lload_n 0, 1, 1, 0), (1, .iload_n 2, 1, 2, 0), (2, .lshr, 1, 3, 0), (3, .lconst 1, 1, 4, 0), (4, .land, 1, 5, 0), (5, .lconst 1, 1, 6, 0), (6, .lcmp, 1, 7, 0), (7, .ifCond .ne 7, 3, 10, 14), (10, .iconst 1, 1, 11, 1), (11, .goto 4, 3, 14, 15), (14, .iconst 0, 1, 15, 0), (15, .ireturn, 1, 16, 0)]
theorem dk_M_has : sn_tabOk prog_12_method_5_code tb_M_has := by unfold sn_tabOk; decide +kernel
def md_M_placesBy : sn_Md := (⟨"SureNoesModel", "placesBy", "(IIIJ)J"⟩, prog_12_method_12_code, 8, (Option.some FieldType.long))
def tb_M_placesBy : sn_Tb := [(0, .lconst 0, 1, 1, 0), (1, .lstore 5, 2, 3, 0), (3, .iconst 0, 1, 4, 0), (4, .istore 7, 2, 6, 0), (6, .iload 7, 2, 8, 0), (8, .bipush 32, 2, 10, 32), (10, .if_icmp .ge 40, 3, 13, 50), (13, .lload 5, 2, 15, 0), (15, .lload_n 3, 1, 16, 0), (16, .iload 7, 2, 18, 0), (18, .invokestatic 100, 3, 21, 0), (21, .ifCond .eq 19, 3, 24, 40), (24, .lconst 1, 1, 25, 0), (25, .iload_n 0, 1, 26, 0), (26, .iload 7, 2, 28, 0), (28, .imul, 1, 29, 0), (29, .iload_n 1, 1, 30, 0), (30, .iadd, 1, 31, 0), (31, .bipush 37, 2, 33, 37), (33, .irem, 1, 34, 0), (34, .iload_n 2, 1, 35, 0), (35, .irem, 1, 36, 0), (36, .lshl, 1, 37, 0), (37, .goto 4, 3, 40, 41), (40, .lconst 0, 1, 41, 0), (41, .lor, 1, 42, 0), (42, .lstore 5, 2, 44, 0), (44, .iinc 7 1, 3, 47, 1), (47, .goto (-41), 3, 50, 6), (50, .lload 5, 2, 52, 0), (52, .lreturn, 1, 53, 0)]
theorem dk_M_placesBy : sn_tabOk prog_12_method_12_code tb_M_placesBy := by unfold sn_tabOk; decide +kernel
def md_M_best : sn_Md := (⟨"SureNoesModel", "best", "(JII)I"⟩, prog_12_method_15_code, 11, (Option.some FieldType.int))
def tb_M_best : sn_Tb := [(0, .lload_n 1, 1, 1, 0), (1, .invokestatic 108, 3, 4, 0), (4, .ifCond .eq 30, 3, 7, 34), (7, .iload_n 3, 1, 8, 0), (8, .i2l, 1, 9, 0), (9, .ldc2_w 112, 3, 12, 0), (12, .ldc2_w 114, 3, 15, 0), (15, .invokestatic 77, 3, 18, 0), (18, .ifCond .eq 16, 3, 21, 34), (21, .iload 4, 2, 23, 0), (23, .i2l, 1, 24, 0), (24, .lconst 0, 1, 25, 0), (25, .ldc2_w 112, 3, 28, 0), (28, .invokestatic 77, 3, 31, 0), (31, .ifCond .ne 6, 3, 34, 37), (34, .bipush (-102), 2, 36, 102), (36, .ireturn, 1, 37, 0), (37, .bipush 99, 2, 39, 99), (39, .istore 5, 2, 41, 0), (41, .iconst 0, 1, 42, 0), (42, .istore 6, 2, 44, 0), (44, .iconst 0, 1, 45, 0), (45, .istore 7, 2, 47, 0), (47, .iconst 1, 1, 48, 1), (48, .istore 8, 2, 50, 0), (50, .iload 8, 2, 52, 0), (52, .bipush 36, 2, 54, 36), (54, .if_icmp .gt 84, 3, 57, 138), (57, .iconst 0, 1, 58, 0), (58, .istore 9, 2, 60, 0), (60, .iload 9, 2, 62, 0), (62, .bipush 36, 2, 64, 36), (64, .if_icmp .gt 68, 3, 67, 132), (67, .iload 8, 2, 69, 0), (69, .iload 9, 2, 71, 0), (71, .iload_n 3, 1, 72, 0), (72, .lload_n 1, 1, 73, 0), (73, .invokestatic 116, 3, 76, 0), (76, .istore 10, 2, 78, 0), (78, .iload 10, 2, 80, 0), (80, .iload 5, 2, 82, 0), (82, .if_icmp .ge 8, 3, 85, 90), (85, .iload 8, 2, 87, 0), (87, .goto 5, 3, 90, 92), (90, .iload 6, 2, 92, 0), (92, .istore 6, 2, 94, 0), (94, .iload 10, 2, 96, 0), (96, .iload 5, 2, 98, 0), (98, .if_icmp .ge 8, 3, 101, 106), (101, .iload 9, 2, 103, 0), (103, .goto 5, 3, 106, 108), (106, .iload 7, 2, 108, 0), (108, .istore 7, 2, 110, 0), (110, .iload 10, 2, 112, 0), (112, .iload 5, 2, 114, 0), (114, .if_icmp .ge 8, 3, 117, 122), (117, .iload 10, 2, 119, 0), (119, .goto 5, 3, 122, 124), (122, .iload 5, 2, 124, 0), (124, .istore 5, 2, 126, 0), (126, .iinc 9 1, 3, 129, 1), (129, .goto (-69), 3, 132, 60), (132, .iinc 8 1, 3, 135, 1), (135, .goto (-85), 3, 138, 50), (138, .iload 4, 2, 140, 0), (140, .ifCond .ne 8, 3, 143, 148), (143, .iload 5, 2, 145, 0), (145, .goto 16, 3, 148, 161), (148, .iload 4, 2, 150, 0), (150, .iconst 1, 1, 151, 1), (151, .if_icmp .ne 8, 3, 154, 159), (154, .iload 6, 2, 156, 0), (156, .goto 5, 3, 159, 161), (159, .iload 7, 2, 161, 0), (161, .ireturn, 1, 162, 0)]
theorem dk_M_best : sn_tabOk prog_12_method_15_code tb_M_best := by unfold sn_tabOk; decide +kernel
def md_M_falseBy : sn_Md := (⟨"SureNoesModel", "falseBy", "(IIIJ)I"⟩, prog_12_method_13_code, 9, (Option.some FieldType.int))
def tb_M_falseBy : sn_Tb := [(0, .iload_n 0, 1, 1, 0), (1, .iload_n 1, 1, 2, 0), (2, .iload_n 2, 1, 3, 0), (3, .lload_n 3, 1, 4, 0), (4, .invokestatic 104, 3, 7, 0), (7, .lstore 5, 2, 9, 0), (9, .iconst 0, 1, 10, 0), (10, .istore 7, 2, 12, 0), (12, .iconst 0, 1, 13, 0), (13, .istore 8, 2, 15, 0), (15, .iload 8, 2, 17, 0), (17, .bipush 32, 2, 19, 32), (19, .if_icmp .ge 47, 3, 22, 66), (22, .iload 7, 2, 24, 0), (24, .lload_n 3, 1, 25, 0), (25, .iload 8, 2, 27, 0), (27, .invokestatic 100, 3, 30, 0), (30, .ifCond .ne 26, 3, 33, 56), (33, .lload 5, 2, 35, 0), (35, .iload_n 0, 1, 36, 0), (36, .iload 8, 2, 38, 0), (38, .imul, 1, 39, 0), (39, .iload_n 1, 1, 40, 0), (40, .iadd, 1, 41, 0), (41, .bipush 37, 2, 43, 37), (43, .irem, 1, 44, 0), (44, .iload_n 2, 1, 45, 0), (45, .irem, 1, 46, 0), (46, .invokestatic 100, 3, 49, 0), (49, .ifCond .eq 7, 3, 52, 56), (52, .iconst 1, 1, 53, 1), (53, .goto 4, 3, 56, 57), (56, .iconst 0, 1, 57, 0), (57, .iadd, 1, 58, 0), (58, .istore 7, 2, 60, 0), (60, .iinc 8 1, 3, 63, 1), (63, .goto (-48), 3, 66, 15), (66, .iload 7, 2, 68, 0), (68, .ireturn, 1, 69, 0)]
theorem dk_M_falseBy : sn_tabOk prog_12_method_13_code tb_M_falseBy := by unfold sn_tabOk; decide +kernel
def md_M_fewest : sn_Md := (⟨"SureNoesModel", "fewest", "(JII)I"⟩, prog_12_method_16_code, 6, (Option.some FieldType.int))
def tb_M_fewest : sn_Tb := [(0, .aload_n 0, 1, 1, 0), (1, .iload_n 3, 1, 2, 0), (2, .invokevirtual 89, 3, 5, 0), (5, .ifCond .ne 6, 3, 8, 11), (8, .bipush (-101), 2, 10, 101), (10, .ireturn, 1, 11, 0), (11, .lload_n 1, 1, 12, 0), (12, .invokestatic 108, 3, 15, 0), (15, .ifCond .eq 16, 3, 18, 31), (18, .iload 4, 2, 20, 0), (20, .i2l, 1, 21, 0), (21, .lconst 0, 1, 22, 0), (22, .ldc2_w 75, 3, 25, 0), (25, .invokestatic 77, 3, 28, 0), (28, .ifCond .ne 6, 3, 31, 34), (31, .bipush (-102), 2, 33, 102), (33, .ireturn, 1, 34, 0), (34, .iconst 2, 1, 35, 2), (35, .istore 5, 2, 37, 0), (37, .iload 5, 2, 39, 0), (39, .bipush 32, 2, 41, 32), (41, .if_icmp .gt 35, 3, 44, 76), (44, .aload_n 0, 1, 45, 0), (45, .getfield 7, 3, 48, 0), (48, .iload_n 3, 1, 49, 0), (49, .iaload, 1, 50, 0), (50, .aload_n 0, 1, 51, 0), (51, .getfield 13, 3, 54, 0), (54, .iload_n 3, 1, 55, 0), (55, .iaload, 1, 56, 0), (56, .iload 5, 2, 58, 0), (58, .lload_n 1, 1, 59, 0), (59, .invokestatic 116, 3, 62, 0), (62, .iload 4, 2, 64, 0), (64, .if_icmp .gt 6, 3, 67, 70), (67, .iload 5, 2, 69, 0), (69, .ireturn, 1, 70, 0), (70, .iinc 5 1, 3, 73, 1), (73, .goto (-36), 3, 76, 37), (76, .iconst (-1), 1, 77, 1), (77, .ireturn, 1, 78, 0)]
theorem dk_M_fewest : sn_tabOk prog_12_method_16_code tb_M_fewest := by unfold sn_tabOk; decide +kernel
def md_M_book : sn_Md := (⟨"SureNoesModel", "book", "(III)I"⟩, prog_12_method_19_code, 7, (Option.some FieldType.int))
def tb_M_book : sn_Tb := [(0, .iload_n 1, 1, 1, 0), (1, .i2l, 1, 2, 0), (2, .lconst 0, 1, 3, 0), (3, .ldc2_w 123, 3, 6, 0), (6, .invokestatic 77, 3, 9, 0), (9, .ifCond .eq 28, 3, 12, 37), (12, .iload_n 2, 1, 13, 0), (13, .i2l, 1, 14, 0), (14, .iload_n 1, 1, 15, 0), (15, .iconst 4, 1, 16, 4), (16, .if_icmp .ne 9, 3, 19, 25), (19, .ldc2_w 125, 3, 22, 0), (22, .goto 6, 3, 25, 28), (25, .ldc2_w 112, 3, 28, 0), (28, .ldc2_w 114, 3, 31, 0), (31, .invokestatic 77, 3, 34, 0), (34, .ifCond .ne 6, 3, 37, 40), (37, .bipush (-102), 2, 39, 102), (39, .ireturn, 1, 40, 0), (40, .iload_n 3, 1, 41, 0), (41, .i2l, 1, 42, 0), (42, .lconst 0, 1, 43, 0), (43, .iconst 1, 1, 44, 1), (44, .aload_n 0, 1, 45, 0), (45, .getfield 83, 3, 48, 0), (48, .ishl, 1, 49, 0), (49, .iconst 1, 1, 50, 1), (50, .isub, 1, 51, 0), (51, .i2l, 1, 52, 0), (52, .invokestatic 77, 3, 55, 0), (55, .ifCond .eq 11, 3, 58, 66), (58, .iload_n 3, 1, 59, 0), (59, .i2l, 1, 60, 0), (60, .invokestatic 127, 3, 63, 0), (63, .goto 4, 3, 66, 67), (66, .iconst 0, 1, 67, 0), (67, .istore 4, 2, 69, 0), (69, .iload_n 1, 1, 70, 0), (70, .iconst 3, 1, 71, 3), (71, .if_icmp .ne 17, 3, 74, 88), (74, .iload 4, 2, 76, 0), (76, .iconst 2, 1, 77, 2), (77, .if_icmp .ne 7, 3, 80, 84), (80, .iconst 1, 1, 81, 1), (81, .goto 36, 3, 84, 117), (84, .iconst 0, 1, 85, 0), (85, .goto 32, 3, 88, 117), (88, .iload_n 1, 1, 89, 0), (89, .iconst 4, 1, 90, 4), (90, .if_icmp .ne 17, 3, 93, 107), (93, .iload 4, 2, 95, 0), (95, .iconst 3, 1, 96, 3), (96, .if_icmp .ne 7, 3, 99, 103), (99, .iconst 1, 1, 100, 1), (100, .goto 17, 3, 103, 117), (103, .iconst 0, 1, 104, 0), (104, .goto 13, 3, 107, 117), (107, .iload 4, 2, 109, 0), (109, .i2l, 1, 110, 0), (110, .lconst 1, 1, 111, 0), (111, .ldc2_w 125, 3, 114, 0), (114, .invokestatic 77, 3, 117, 0), (117, .istore 5, 2, 119, 0), (119, .iload 5, 2, 121, 0), (121, .ifCond .ne 6, 3, 124, 127), (124, .bipush (-101), 2, 126, 101), (126, .ireturn, 1, 127, 0), (127, .aload_n 0, 1, 128, 0), (128, .getfield 120, 3, 131, 0), (131, .bipush 8, 2, 133, 8), (133, .if_icmp .ne 6, 3, 136, 139), (136, .bipush (-104), 2, 138, 104), (138, .ireturn, 1, 139, 0), (139, .aload_n 0, 1, 140, 0), (140, .getfield 16, 3, 143, 0), (143, .aload_n 0, 1, 144, 0), (144, .getfield 120, 3, 147, 0), (147, .iload_n 1, 1, 148, 0), (148, .iastore, 1, 149, 0), (149, .aload_n 0, 1, 150, 0), (150, .getfield 19, 3, 153, 0), (153, .aload_n 0, 1, 154, 0), (154, .getfield 120, 3, 157, 0), (157, .iload_n 2, 1, 158, 0), (158, .iastore, 1, 159, 0), (159, .aload_n 0, 1, 160, 0), (160, .getfield 22, 3, 163, 0), (163, .aload_n 0, 1, 164, 0), (164, .getfield 120, 3, 167, 0), (167, .iload_n 3, 1, 168, 0), (168, .iastore, 1, 169, 0), (169, .aload_n 0, 1, 170, 0), (170, .getfield 31, 3, 173, 0), (173, .aload_n 0, 1, 174, 0), (174, .getfield 120, 3, 177, 0), (177, .iconst 0, 1, 178, 0), (178, .iastore, 1, 179, 0), (179, .iconst 0, 1, 180, 0), (180, .istore 6, 2, 182, 0), (182, .iload 6, 2, 184, 0), (184, .bipush 32, 2, 186, 32), (186, .if_icmp .ge 41, 3, 189, 227), (189, .aload_n 0, 1, 190, 0), (190, .getfield 25, 3, 193, 0), (193, .bipush 32, 2, 195, 32), (195, .aload_n 0, 1, 196, 0), (196, .getfield 120, 3, 199, 0), (199, .imul, 1, 200, 0), (200, .iload 6, 2, 202, 0), (202, .iadd, 1, 203, 0), (203, .iconst 0, 1, 204, 0), (204, .iastore, 1, 205, 0), (205, .aload_n 0, 1, 206, 0), (206, .getfield 28, 3, 209, 0), (209, .bipush 32, 2, 211, 32), (211, .aload_n 0, 1, 212, 0), (212, .getfield 120, 3, 215, 0), (215, .imul, 1, 216, 0), (216, .iload 6, 2, 218, 0), (218, .iadd, 1, 219, 0), (219, .iconst 0, 1, 220, 0), (220, .iastore, 1, 221, 0), (221, .iinc 6 1, 3, 224, 1), (224, .goto (-42), 3, 227, 182), (227, .aload_n 0, 1, 228, 0), (228, .dup, 1, 229, 0), (229, .getfield 120, 3, 232, 0), (232, .iconst 1, 1, 233, 1), (233, .iadd, 1, 234, 0), (234, .putfield 120, 3, 237, 0), (237, .aload_n 0, 1, 238, 0), (238, .getfield 120, 3, 241, 0), (241, .iconst 1, 1, 242, 1), (242, .isub, 1, 243, 0), (243, .ireturn, 1, 244, 0)]
theorem dk_M_book : sn_tabOk prog_12_method_19_code tb_M_book := by unfold sn_tabOk; decide +kernel
def md_M_ones : sn_Md := (⟨"SureNoesModel", "ones", "(J)I"⟩, prog_12_method_6_code, 5, (Option.some FieldType.int))
def tb_M_ones : sn_Tb := [(0, .iconst 0, 1, 1, 0), (1, .istore_n 2, 1, 2, 0), (2, .lload_n 0, 1, 3, 0), (3, .lstore_n 3, 1, 4, 0), (4, .lload_n 3, 1, 5, 0), (5, .lconst 0, 1, 6, 0), (6, .lcmp, 1, 7, 0), (7, .ifCond .eq 15, 3, 10, 22), (10, .iinc 2 1, 3, 13, 1), (13, .lload_n 3, 1, 14, 0), (14, .lload_n 3, 1, 15, 0), (15, .lconst 1, 1, 16, 0), (16, .lsub, 1, 17, 0), (17, .land, 1, 18, 0), (18, .lstore_n 3, 1, 19, 0), (19, .goto (-15), 3, 22, 4), (22, .iload_n 2, 1, 23, 0), (23, .ireturn, 1, 24, 0)]
theorem dk_M_ones : sn_tabOk prog_12_method_6_code tb_M_ones := by unfold sn_tabOk; decide +kernel
def md_M_as : sn_Md := (⟨"SureNoesModel", "as", "(II)I"⟩, prog_12_method_20_code, 5, (Option.some FieldType.int))
def tb_M_as : sn_Tb := [(0, .aload_n 0, 1, 1, 0), (1, .iload_n 1, 1, 2, 0), (2, .invokevirtual 131, 3, 5, 0), (5, .ifCond .ne 6, 3, 8, 11), (8, .bipush (-101), 2, 10, 101), (10, .ireturn, 1, 11, 0), (11, .iload_n 2, 1, 12, 0), (12, .i2l, 1, 13, 0), (13, .lconst 0, 1, 14, 0), (14, .ldc2_w 123, 3, 17, 0), (17, .invokestatic 77, 3, 20, 0), (20, .ifCond .ne 6, 3, 23, 26), (23, .bipush (-102), 2, 25, 102), (25, .ireturn, 1, 26, 0), (26, .aload_n 0, 1, 27, 0), (27, .getfield 16, 3, 30, 0), (30, .iload_n 1, 1, 31, 0), (31, .iaload, 1, 32, 0), (32, .istore_n 3, 1, 33, 0), (33, .iload_n 2, 1, 34, 0), (34, .ifCond .ne 12, 3, 37, 46), (37, .iload_n 3, 1, 38, 0), (38, .iconst 3, 1, 39, 3), (39, .if_icmp .eq 7, 3, 42, 46), (42, .iconst 1, 1, 43, 1), (43, .goto 4, 3, 46, 47), (46, .iconst 0, 1, 47, 0), (47, .istore 4, 2, 49, 0), (49, .iload_n 3, 1, 50, 0), (50, .iload_n 2, 1, 51, 0), (51, .if_icmp .eq 18, 3, 54, 69), (54, .iload 4, 2, 56, 0), (56, .ifCond .ne 13, 3, 59, 69), (59, .iload_n 2, 1, 60, 0), (60, .iconst 2, 1, 61, 2), (61, .if_icmp .ne 12, 3, 64, 73), (64, .iload_n 3, 1, 65, 0), (65, .iconst 4, 1, 66, 4), (66, .if_icmp .ne 7, 3, 69, 73), (69, .iload_n 1, 1, 70, 0), (70, .goto 4, 3, 73, 74), (73, .iconst (-1), 1, 74, 1), (74, .ireturn, 1, 75, 0)]
theorem dk_M_as : sn_tabOk prog_12_method_20_code tb_M_as := by unfold sn_tabOk; decide +kernel
def md_M_isBook : sn_Md := (⟨"SureNoesModel", "isBook", "(I)Z"⟩, prog_12_method_17_code, 2, (Option.some FieldType.boolean))
def tb_M_isBook : sn_Tb := [(0, .iload_n 1, 1, 1, 0), (1, .i2l, 1, 2, 0), (2, .lconst 0, 1, 3, 0), (3, .aload_n 0, 1, 4, 0), (4, .getfield 120, 3, 7, 0), (7, .iconst 1, 1, 8, 1), (8, .isub, 1, 9, 0), (9, .i2l, 1, 10, 0), (10, .invokestatic 77, 3, 13, 0), (13, .ireturn, 1, 14, 0)]
theorem dk_M_isBook : sn_tabOk prog_12_method_17_code tb_M_isBook := by unfold sn_tabOk; decide +kernel
def md_M_about : sn_Md := (⟨"SureNoesModel", "about", "(II)I"⟩, prog_12_method_24_code, 3, (Option.some FieldType.int))
def tb_M_about : sn_Tb := [(0, .aload_n 0, 1, 1, 0), (1, .iload_n 1, 1, 2, 0), (2, .invokevirtual 131, 3, 5, 0), (5, .ifCond .ne 8, 3, 8, 13), (8, .bipush (-101), 2, 10, 101), (10, .goto 26, 3, 13, 36), (13, .iload_n 2, 1, 14, 0), (14, .i2l, 1, 15, 0), (15, .lconst 0, 1, 16, 0), (16, .ldc2_w 123, 3, 19, 0), (19, .invokestatic 77, 3, 22, 0), (22, .ifCond .eq 12, 3, 25, 34), (25, .aload_n 0, 1, 26, 0), (26, .iload_n 1, 1, 27, 0), (27, .iload_n 2, 1, 28, 0), (28, .invokevirtual 142, 3, 31, 0), (31, .goto 5, 3, 34, 36), (34, .bipush (-102), 2, 36, 102), (36, .ireturn, 1, 37, 0)]
theorem dk_M_about : sn_tabOk prog_12_method_24_code tb_M_about := by unfold sn_tabOk; decide +kernel
def md_M_aboutOf : sn_Md := (⟨"SureNoesModel", "aboutOf", "(II)I"⟩, prog_12_method_23_code, 3, (Option.some FieldType.int))
def tb_M_aboutOf : sn_Tb := [(0, .iload_n 2, 1, 1, 0), (1, .tableswitch 71 0 4 #[35, 42, 49, 56, 62], 35, 36, 0), (36, .aload_n 0, 1, 37, 0), (37, .getfield 16, 3, 40, 0), (40, .iload_n 1, 1, 41, 0), (41, .iaload, 1, 42, 0), (42, .ireturn, 1, 43, 0), (43, .aload_n 0, 1, 44, 0), (44, .getfield 19, 3, 47, 0), (47, .iload_n 1, 1, 48, 0), (48, .iaload, 1, 49, 0), (49, .ireturn, 1, 50, 0), (50, .aload_n 0, 1, 51, 0), (51, .getfield 22, 3, 54, 0), (54, .iload_n 1, 1, 55, 0), (55, .iaload, 1, 56, 0), (56, .ireturn, 1, 57, 0), (57, .aload_n 0, 1, 58, 0), (58, .iload_n 1, 1, 59, 0), (59, .invokevirtual 134, 3, 62, 0), (62, .ireturn, 1, 63, 0), (63, .aload_n 0, 1, 64, 0), (64, .iload_n 1, 1, 65, 0), (65, .invokevirtual 138, 3, 68, 0), (68, .invokestatic 127, 3, 71, 0), (71, .ireturn, 1, 72, 0), (72, .aload_n 0, 1, 73, 0), (73, .getfield 31, 3, 76, 0), (76, .iload_n 1, 1, 77, 0), (77, .iaload, 1, 78, 0), (78, .ireturn, 1, 79, 0)]
theorem dk_M_aboutOf : sn_tabOk prog_12_method_23_code tb_M_aboutOf := by unfold sn_tabOk; decide +kernel
def md_M_numbersAbove : sn_Md := (⟨"SureNoesModel", "numbersAbove", "(I)I"⟩, prog_12_method_21_code, 4, (Option.some FieldType.int))
def tb_M_numbersAbove : sn_Tb := [(0, .iconst 0, 1, 1, 0), (1, .istore_n 2, 1, 2, 0), (2, .iconst 0, 1, 3, 0), (3, .istore_n 3, 1, 4, 0), (4, .iload_n 3, 1, 5, 0), (5, .aload_n 0, 1, 6, 0), (6, .getfield 19, 3, 9, 0), (9, .iload_n 1, 1, 10, 0), (10, .iaload, 1, 11, 0), (11, .if_icmp .ge 31, 3, 14, 42), (14, .iload_n 2, 1, 15, 0), (15, .aload_n 0, 1, 16, 0), (16, .getfield 25, 3, 19, 0), (19, .bipush 32, 2, 21, 32), (21, .iload_n 1, 1, 22, 0), (22, .imul, 1, 23, 0), (23, .iload_n 3, 1, 24, 0), (24, .iadd, 1, 25, 0), (25, .iaload, 1, 26, 0), (26, .ifCond .le 7, 3, 29, 33), (29, .iconst 1, 1, 30, 1), (30, .goto 4, 3, 33, 34), (33, .iconst 0, 1, 34, 0), (34, .iadd, 1, 35, 0), (35, .istore_n 2, 1, 36, 0), (36, .iinc 3 1, 3, 39, 1), (39, .goto (-35), 3, 42, 4), (42, .iload_n 2, 1, 43, 0), (43, .ireturn, 1, 44, 0)]
theorem dk_M_numbersAbove : sn_tabOk prog_12_method_21_code tb_M_numbersAbove := by unfold sn_tabOk; decide +kernel
def md_M_reallyIn : sn_Md := (⟨"SureNoesModel", "reallyIn", "(I)J"⟩, prog_12_method_22_code, 5, (Option.some FieldType.long))
def tb_M_reallyIn : sn_Tb := [(0, .lconst 0, 1, 1, 0), (1, .lstore_n 2, 1, 2, 0), (2, .iconst 0, 1, 3, 0), (3, .istore 4, 2, 5, 0), (5, .iload 4, 2, 7, 0), (7, .bipush 32, 2, 9, 32), (9, .if_icmp .ge 35, 3, 12, 44), (12, .lload_n 2, 1, 13, 0), (13, .aload_n 0, 1, 14, 0), (14, .getfield 28, 3, 17, 0), (17, .bipush 32, 2, 19, 32), (19, .iload_n 1, 1, 20, 0), (20, .imul, 1, 21, 0), (21, .iload 4, 2, 23, 0), (23, .iadd, 1, 24, 0), (24, .iaload, 1, 25, 0), (25, .ifCond .le 10, 3, 28, 35), (28, .lconst 1, 1, 29, 0), (29, .iload 4, 2, 31, 0), (31, .lshl, 1, 32, 0), (32, .goto 4, 3, 35, 36), (35, .lconst 0, 1, 36, 0), (36, .lor, 1, 37, 0), (37, .lstore_n 2, 1, 38, 0), (38, .iinc 4 1, 3, 41, 1), (41, .goto (-36), 3, 44, 5), (44, .lload_n 2, 1, 45, 0), (45, .lreturn, 1, 46, 0)]
theorem dk_M_reallyIn : sn_tabOk prog_12_method_22_code tb_M_reallyIn := by unfold sn_tabOk; decide +kernel
def md_M_at : sn_Md := (⟨"SureNoesModel", "at", "(II)I"⟩, prog_12_method_25_code, 3, (Option.some FieldType.int))
def tb_M_at : sn_Tb := [(0, .aload_n 0, 1, 1, 0), (1, .iload_n 1, 1, 2, 0), (2, .invokevirtual 131, 3, 5, 0), (5, .ifCond .eq 35, 3, 8, 40), (8, .iload_n 2, 1, 9, 0), (9, .i2l, 1, 10, 0), (10, .lconst 0, 1, 11, 0), (11, .aload_n 0, 1, 12, 0), (12, .getfield 19, 3, 15, 0), (15, .iload_n 1, 1, 16, 0), (16, .iaload, 1, 17, 0), (17, .iconst 1, 1, 18, 1), (18, .isub, 1, 19, 0), (19, .i2l, 1, 20, 0), (20, .invokestatic 77, 3, 23, 0), (23, .ifCond .eq 17, 3, 26, 40), (26, .aload_n 0, 1, 27, 0), (27, .getfield 25, 3, 30, 0), (30, .bipush 32, 2, 32, 32), (32, .iload_n 1, 1, 33, 0), (33, .imul, 1, 34, 0), (34, .iload_n 2, 1, 35, 0), (35, .iadd, 1, 36, 0), (36, .iaload, 1, 37, 0), (37, .goto 5, 3, 40, 42), (40, .bipush (-101), 2, 42, 101), (42, .ireturn, 1, 43, 0)]
theorem dk_M_at : sn_tabOk prog_12_method_25_code tb_M_at := by unfold sn_tabOk; decide +kernel
def md_M_row : sn_Md := (⟨"SureNoesModel", "row", "(II)J"⟩, prog_12_method_26_code, 3, (Option.some FieldType.long))
def tb_M_row : sn_Tb := [(0, .aload_n 0, 1, 1, 0), (1, .iload_n 1, 1, 2, 0), (2, .invokevirtual 131, 3, 5, 0), (5, .ifCond .eq 35, 3, 8, 40), (8, .iload_n 2, 1, 9, 0), (9, .i2l, 1, 10, 0), (10, .lconst 0, 1, 11, 0), (11, .aload_n 0, 1, 12, 0), (12, .getfield 31, 3, 15, 0), (15, .iload_n 1, 1, 16, 0), (16, .iaload, 1, 17, 0), (17, .iconst 1, 1, 18, 1), (18, .isub, 1, 19, 0), (19, .i2l, 1, 20, 0), (20, .invokestatic 77, 3, 23, 0), (23, .ifCond .eq 17, 3, 26, 40), (26, .aload_n 0, 1, 27, 0), (27, .getfield 34, 3, 30, 0), (30, .bipush 6, 2, 32, 6), (32, .iload_n 1, 1, 33, 0), (33, .imul, 1, 34, 0), (34, .iload_n 2, 1, 35, 0), (35, .iadd, 1, 36, 0), (36, .laload, 1, 37, 0), (37, .goto 6, 3, 40, 43), (40, .ldc2_w 145, 3, 43, 0), (43, .lreturn, 1, 44, 0)]
theorem dk_M_row : sn_tabOk prog_12_method_26_code tb_M_row := by unfold sn_tabOk; decide +kernel
def md_M_places : sn_Md := (⟨"SureNoesModel", "places", "(II)J"⟩, prog_12_method_33_code, 3, (Option.some FieldType.long))
def tb_M_places : sn_Tb := [(0, .aload_n 0, 1, 1, 0), (1, .iload_n 1, 1, 2, 0), (2, .invokevirtual 131, 3, 5, 0), (5, .ifCond .eq 19, 3, 8, 24), (8, .iload_n 2, 1, 9, 0), (9, .invokestatic 93, 3, 12, 0), (12, .ifCond .eq 12, 3, 15, 24), (15, .aload_n 0, 1, 16, 0), (16, .iload_n 1, 1, 17, 0), (17, .iload_n 2, 1, 18, 0), (18, .invokevirtual 166, 3, 21, 0), (21, .goto 6, 3, 24, 27), (24, .ldc2_w 145, 3, 27, 0), (27, .lreturn, 1, 28, 0)]
theorem dk_M_places : sn_tabOk prog_12_method_33_code tb_M_places := by unfold sn_tabOk; decide +kernel
def md_M_placesOf : sn_Md := (⟨"SureNoesModel", "placesOf", "(II)J"⟩, prog_12_method_32_code, 6, (Option.some FieldType.long))
def tb_M_placesOf : sn_Tb := [(0, .aload_n 0, 1, 1, 0), (1, .getfield 16, 3, 4, 0), (4, .iload_n 1, 1, 5, 0), (5, .iaload, 1, 6, 0), (6, .iconst 3, 1, 7, 3), (7, .if_icmp .ne 29, 3, 10, 36), (10, .aload_n 0, 1, 11, 0), (11, .iload_n 1, 1, 12, 0), (12, .iload_n 2, 1, 13, 0), (13, .invokevirtual 153, 3, 16, 0), (16, .istore_n 3, 1, 17, 0), (17, .lconst 1, 1, 18, 0), (18, .iload_n 3, 1, 19, 0), (19, .lshl, 1, 20, 0), (20, .lconst 1, 1, 21, 0), (21, .aload_n 0, 1, 22, 0), (22, .iload_n 1, 1, 23, 0), (23, .iload_n 3, 1, 24, 0), (24, .aload_n 0, 1, 25, 0), (25, .iload_n 1, 1, 26, 0), (26, .iload_n 2, 1, 27, 0), (27, .invokevirtual 156, 3, 30, 0), (30, .invokevirtual 159, 3, 33, 0), (33, .lshl, 1, 34, 0), (34, .lor, 1, 35, 0), (35, .lreturn, 1, 36, 0), (36, .lconst 0, 1, 37, 0), (37, .lstore_n 3, 1, 38, 0), (38, .iconst 0, 1, 39, 0), (39, .istore 5, 2, 41, 0), (41, .iload 5, 2, 43, 0), (43, .aload_n 0, 1, 44, 0), (44, .getfield 22, 3, 47, 0), (47, .iload_n 1, 1, 48, 0), (48, .iaload, 1, 49, 0), (49, .i2l, 1, 50, 0), (50, .invokestatic 127, 3, 53, 0), (53, .if_icmp .ge 22, 3, 56, 75), (56, .lload_n 3, 1, 57, 0), (57, .lconst 1, 1, 58, 0), (58, .aload_n 0, 1, 59, 0), (59, .iload_n 1, 1, 60, 0), (60, .iload 5, 2, 62, 0), (62, .iload_n 2, 1, 63, 0), (63, .invokevirtual 163, 3, 66, 0), (66, .lshl, 1, 67, 0), (67, .lor, 1, 68, 0), (68, .lstore_n 3, 1, 69, 0), (69, .iinc 5 1, 3, 72, 1), (72, .goto (-31), 3, 75, 41), (75, .lload_n 3, 1, 76, 0), (76, .lreturn, 1, 77, 0)]
theorem dk_M_placesOf : sn_tabOk prog_12_method_32_code tb_M_placesOf := by unfold sn_tabOk; decide +kernel
def md_M_firstPlace : sn_Md := (⟨"SureNoesModel", "firstPlace", "(II)I"⟩, prog_12_method_28_code, 3, (Option.some FieldType.int))
def tb_M_firstPlace : sn_Tb := [(0, .aload_n 0, 1, 1, 0), (1, .aload_n 0, 1, 2, 0), (2, .iload_n 1, 1, 3, 0), (3, .iconst 0, 1, 4, 0), (4, .invokevirtual 147, 3, 7, 0), (7, .iload_n 2, 1, 8, 0), (8, .invokevirtual 96, 3, 11, 0), (11, .aload_n 0, 1, 12, 0), (12, .getfield 19, 3, 15, 0), (15, .iload_n 1, 1, 16, 0), (16, .iaload, 1, 17, 0), (17, .irem, 1, 18, 0), (18, .ireturn, 1, 19, 0)]
theorem dk_M_firstPlace : sn_tabOk prog_12_method_28_code tb_M_firstPlace := by unfold sn_tabOk; decide +kernel
def md_M_lawAt : sn_Md := (⟨"SureNoesModel", "lawAt", "(II)I"⟩, prog_12_method_18_code, 6, (Option.some FieldType.int))
def tb_M_lawAt : sn_Tb := [(0, .aload_n 0, 1, 1, 0), (1, .getfield 22, 3, 4, 0), (4, .iload_n 1, 1, 5, 0), (5, .iaload, 1, 6, 0), (6, .istore_n 3, 1, 7, 0), (7, .iconst 0, 1, 8, 0), (8, .istore 4, 2, 10, 0), (10, .iload_n 2, 1, 11, 0), (11, .istore 5, 2, 13, 0), (13, .iload_n 3, 1, 14, 0), (14, .iload 4, 2, 16, 0), (16, .ishr, 1, 17, 0), (17, .iconst 1, 1, 18, 1), (18, .iand, 1, 19, 0), (19, .ifCond .eq 8, 3, 22, 27), (22, .iload 5, 2, 24, 0), (24, .ifCond .le 20, 3, 27, 44), (27, .iload 5, 2, 29, 0), (29, .iload_n 3, 1, 30, 0), (30, .iload 4, 2, 32, 0), (32, .ishr, 1, 33, 0), (33, .iconst 1, 1, 34, 1), (34, .iand, 1, 35, 0), (35, .isub, 1, 36, 0), (36, .istore 5, 2, 38, 0), (38, .iinc 4 1, 3, 41, 1), (41, .goto (-28), 3, 44, 13), (44, .iload 4, 2, 46, 0), (46, .ireturn, 1, 47, 0)]
theorem dk_M_lawAt : sn_tabOk prog_12_method_18_code tb_M_lawAt := by unfold sn_tabOk; decide +kernel
def md_M_pushedMark : sn_Md := (⟨"SureNoesModel", "pushedMark", "(II)I"⟩, prog_12_method_29_code, 3, (Option.some FieldType.int))
def tb_M_pushedMark : sn_Tb := [(0, .aload_n 0, 1, 1, 0), (1, .aload_n 0, 1, 2, 0), (2, .iload_n 1, 1, 3, 0), (3, .iconst 1, 1, 4, 1), (4, .invokevirtual 147, 3, 7, 0), (7, .iload_n 2, 1, 8, 0), (8, .invokevirtual 96, 3, 11, 0), (11, .invokestatic 150, 3, 14, 0), (14, .ireturn, 1, 15, 0)]
theorem dk_M_pushedMark : sn_tabOk prog_12_method_29_code tb_M_pushedMark := by unfold sn_tabOk; decide +kernel
def md_M_markOf : sn_Md := (⟨"SureNoesModel", "markOf", "(I)I"⟩, prog_12_method_27_code, 1, (Option.some FieldType.int))
def tb_M_markOf : sn_Tb := [(0, .iload_n 0, 1, 1, 0), (1, .bipush 7, 2, 3, 7), (3, .irem, 1, 4, 0), (4, .iconst 1, 1, 5, 1), (5, .iadd, 1, 6, 0), (6, .ireturn, 1, 7, 0)]
theorem dk_M_markOf : sn_tabOk prog_12_method_27_code tb_M_markOf := by unfold sn_tabOk; decide +kernel
def md_M_otherPlace : sn_Md := (⟨"SureNoesModel", "otherPlace", "(III)I"⟩, prog_12_method_30_code, 5, (Option.some FieldType.int))
def tb_M_otherPlace : sn_Tb := [(0, .iconst 5, 1, 1, 5), (1, .iload_n 3, 1, 2, 0), (2, .imul, 1, 3, 0), (3, .iload_n 2, 1, 4, 0), (4, .isub, 1, 5, 0), (5, .aload_n 0, 1, 6, 0), (6, .getfield 19, 3, 9, 0), (9, .iload_n 1, 1, 10, 0), (10, .iaload, 1, 11, 0), (11, .irem, 1, 12, 0), (12, .istore 4, 2, 14, 0), (14, .iload 4, 2, 16, 0), (16, .ifCond .ge 15, 3, 19, 31), (19, .iload 4, 2, 21, 0), (21, .aload_n 0, 1, 22, 0), (22, .getfield 19, 3, 25, 0), (25, .iload_n 1, 1, 26, 0), (26, .iaload, 1, 27, 0), (27, .iadd, 1, 28, 0), (28, .goto 5, 3, 31, 33), (31, .iload 4, 2, 33, 0), (33, .ireturn, 1, 34, 0)]
theorem dk_M_otherPlace : sn_tabOk prog_12_method_30_code tb_M_otherPlace := by unfold sn_tabOk; decide +kernel
def md_M_placeBy : sn_Md := (⟨"SureNoesModel", "placeBy", "(III)I"⟩, prog_12_method_31_code, 6, (Option.some FieldType.int))
def tb_M_placeBy : sn_Tb := [(0, .aload_n 0, 1, 1, 0), (1, .aload_n 0, 1, 2, 0), (2, .iload_n 1, 1, 3, 0), (3, .iload_n 2, 1, 4, 0), (4, .invokevirtual 147, 3, 7, 0), (7, .iload_n 3, 1, 8, 0), (8, .invokevirtual 96, 3, 11, 0), (11, .istore 4, 2, 13, 0), (13, .aload_n 0, 1, 14, 0), (14, .getfield 16, 3, 17, 0), (17, .iload_n 1, 1, 18, 0), (18, .iaload, 1, 19, 0), (19, .iconst 2, 1, 20, 2), (20, .if_icmp .eq 23, 3, 23, 43), (23, .aload_n 0, 1, 24, 0), (24, .getfield 16, 3, 27, 0), (27, .iload_n 1, 1, 28, 0), (28, .iaload, 1, 29, 0), (29, .iconst 4, 1, 30, 4), (30, .if_icmp .eq 13, 3, 33, 43), (33, .iload 4, 2, 35, 0), (35, .aload_n 0, 1, 36, 0), (36, .getfield 19, 3, 39, 0), (39, .iload_n 1, 1, 40, 0), (40, .iaload, 1, 41, 0), (41, .irem, 1, 42, 0), (42, .ireturn, 1, 43, 0), (43, .aload_n 0, 1, 44, 0), (44, .getfield 19, 3, 47, 0), (47, .iload_n 1, 1, 48, 0), (48, .iaload, 1, 49, 0), (49, .aload_n 0, 1, 50, 0), (50, .getfield 22, 3, 53, 0), (53, .iload_n 1, 1, 54, 0), (54, .iaload, 1, 55, 0), (55, .i2l, 1, 56, 0), (56, .invokestatic 127, 3, 59, 0), (59, .idiv, 1, 60, 0), (60, .istore 5, 2, 62, 0), (62, .iload 5, 2, 64, 0), (64, .iconst 1, 1, 65, 1), (65, .if_icmp .ge 7, 3, 68, 72), (68, .iconst 1, 1, 69, 1), (69, .goto 5, 3, 72, 74), (72, .iload 5, 2, 74, 0), (74, .istore 5, 2, 76, 0), (76, .iload_n 2, 1, 77, 0), (77, .iload 5, 2, 79, 0), (79, .imul, 1, 80, 0), (80, .iload 4, 2, 82, 0), (82, .iload 5, 2, 84, 0), (84, .irem, 1, 85, 0), (85, .iadd, 1, 86, 0), (86, .aload_n 0, 1, 87, 0), (87, .getfield 19, 3, 90, 0), (90, .iload_n 1, 1, 91, 0), (91, .iaload, 1, 92, 0), (92, .irem, 1, 93, 0), (93, .ireturn, 1, 94, 0)]
theorem dk_M_placeBy : sn_tabOk prog_12_method_31_code tb_M_placeBy := by unfold sn_tabOk; decide +kernel
def md_M_put : sn_Md := (⟨"SureNoesModel", "put", "(II)I"⟩, prog_12_method_39_code, 10, (Option.some FieldType.int))
def tb_M_put : sn_Tb := [(0, .aload_n 0, 1, 1, 0), (1, .iload_n 1, 1, 2, 0), (2, .invokevirtual 131, 3, 5, 0), (5, .ifCond .eq 10, 3, 8, 15), (8, .iload_n 2, 1, 9, 0), (9, .invokestatic 93, 3, 12, 0), (12, .ifCond .ne 6, 3, 15, 18), (15, .bipush (-101), 2, 17, 101), (17, .ireturn, 1, 18, 0), (18, .aload_n 0, 1, 19, 0), (19, .getfield 16, 3, 22, 0), (22, .iload_n 1, 1, 23, 0), (23, .iaload, 1, 24, 0), (24, .istore_n 3, 1, 25, 0), (25, .iload_n 3, 1, 26, 0), (26, .iconst 4, 1, 27, 4), (27, .if_icmp .eq 24, 3, 30, 51), (30, .iload_n 3, 1, 31, 0), (31, .iconst 5, 1, 32, 5), (32, .if_icmp .eq 19, 3, 35, 51), (35, .aload_n 0, 1, 36, 0), (36, .getfield 28, 3, 39, 0), (39, .bipush 32, 2, 41, 32), (41, .iload_n 1, 1, 42, 0), (42, .imul, 1, 43, 0), (43, .iload_n 2, 1, 44, 0), (44, .iadd, 1, 45, 0), (45, .iaload, 1, 46, 0), (46, .bipush 99, 2, 48, 99), (48, .if_icmp .ne 6, 3, 51, 54), (51, .bipush (-103), 2, 53, 103), (53, .ireturn, 1, 54, 0), (54, .aload_n 0, 1, 55, 0), (55, .iload_n 1, 1, 56, 0), (56, .iload_n 2, 1, 57, 0), (57, .invokevirtual 181, 3, 60, 0), (60, .ifCond .eq 7, 3, 63, 67), (63, .iconst 1, 1, 64, 1), (64, .goto 4, 3, 67, 68), (67, .iconst 0, 1, 68, 0), (68, .istore 4, 2, 70, 0), (70, .iload_n 3, 1, 71, 0), (71, .iconst 3, 1, 72, 3), (72, .if_icmp .ne 15, 3, 75, 87), (75, .aload_n 0, 1, 76, 0), (76, .iload_n 1, 1, 77, 0), (77, .iload_n 2, 1, 78, 0), (78, .invokevirtual 185, 3, 81, 0), (81, .ifCond .ne 104, 3, 84, 185), (84, .bipush (-104), 2, 86, 104), (86, .ireturn, 1, 87, 0), (87, .aload_n 0, 1, 88, 0), (88, .iload_n 1, 1, 89, 0), (89, .iload_n 2, 1, 90, 0), (90, .invokevirtual 166, 3, 93, 0), (93, .lstore 5, 2, 95, 0), (95, .iconst 0, 1, 96, 0), (96, .istore 7, 2, 98, 0), (98, .iload 7, 2, 100, 0), (100, .aload_n 0, 1, 101, 0), (101, .getfield 19, 3, 104, 0), (104, .iload_n 1, 1, 105, 0), (105, .iaload, 1, 106, 0), (106, .if_icmp .ge 79, 3, 109, 185), (109, .aload_n 0, 1, 110, 0), (110, .getfield 25, 3, 113, 0), (113, .bipush 32, 2, 115, 32), (115, .iload_n 1, 1, 116, 0), (116, .imul, 1, 117, 0), (117, .iload 7, 2, 119, 0), (119, .iadd, 1, 120, 0), (120, .iaload, 1, 121, 0), (121, .istore 8, 2, 123, 0), (123, .iload_n 3, 1, 124, 0), (124, .iconst 1, 1, 125, 1), (125, .if_icmp .ne 22, 3, 128, 147), (128, .iload 8, 2, 130, 0), (130, .bipush 7, 2, 132, 7), (132, .if_icmp .ge 10, 3, 135, 142), (135, .iload 8, 2, 137, 0), (137, .iconst 1, 1, 138, 1), (138, .iadd, 1, 139, 0), (139, .goto 9, 3, 142, 148), (142, .bipush 7, 2, 144, 7), (144, .goto 4, 3, 147, 148), (147, .iconst 1, 1, 148, 1), (148, .istore 9, 2, 150, 0), (150, .aload_n 0, 1, 151, 0), (151, .getfield 25, 3, 154, 0), (154, .bipush 32, 2, 156, 32), (156, .iload_n 1, 1, 157, 0), (157, .imul, 1, 158, 0), (158, .iload 7, 2, 160, 0), (160, .iadd, 1, 161, 0), (161, .lload 5, 2, 163, 0), (163, .iload 7, 2, 165, 0), (165, .invokestatic 100, 3, 168, 0), (168, .ifCond .eq 8, 3, 171, 176), (171, .iload 9, 2, 173, 0), (173, .goto 5, 3, 176, 178), (176, .iload 8, 2, 178, 0), (178, .iastore, 1, 179, 0), (179, .iinc 7 1, 3, 182, 1), (182, .goto (-84), 3, 185, 98), (185, .aload_n 0, 1, 186, 0), (186, .getfield 28, 3, 189, 0), (189, .bipush 32, 2, 191, 32), (191, .iload_n 1, 1, 192, 0), (192, .imul, 1, 193, 0), (193, .iload_n 2, 1, 194, 0), (194, .iadd, 1, 195, 0), (195, .dup2, 1, 196, 0), (196, .iaload, 1, 197, 0), (197, .iconst 1, 1, 198, 1), (198, .iadd, 1, 199, 0), (199, .iastore, 1, 200, 0), (200, .iload 4, 2, 202, 0), (202, .ireturn, 1, 203, 0)]
theorem dk_M_put : sn_tabOk prog_12_method_39_code tb_M_put := by unfold sn_tabOk; decide +kernel
def md_M_isIn : sn_Md := (⟨"SureNoesModel", "isIn", "(II)Z"⟩, prog_12_method_35_code, 5, (Option.some FieldType.boolean))
def tb_M_isIn : sn_Tb := [(0, .aload_n 0, 1, 1, 0), (1, .getfield 16, 3, 4, 0), (4, .iload_n 1, 1, 5, 0), (5, .iaload, 1, 6, 0), (6, .iconst 3, 1, 7, 3), (7, .if_icmp .ne 63, 3, 10, 70), (10, .aload_n 0, 1, 11, 0), (11, .iload_n 1, 1, 12, 0), (12, .iload_n 2, 1, 13, 0), (13, .invokevirtual 153, 3, 16, 0), (16, .istore_n 3, 1, 17, 0), (17, .aload_n 0, 1, 18, 0), (18, .iload_n 1, 1, 19, 0), (19, .iload_n 2, 1, 20, 0), (20, .invokevirtual 156, 3, 23, 0), (23, .istore 4, 2, 25, 0), (25, .aload_n 0, 1, 26, 0), (26, .getfield 25, 3, 29, 0), (29, .bipush 32, 2, 31, 32), (31, .iload_n 1, 1, 32, 0), (32, .imul, 1, 33, 0), (33, .iload_n 3, 1, 34, 0), (34, .iadd, 1, 35, 0), (35, .iaload, 1, 36, 0), (36, .iload 4, 2, 38, 0), (38, .if_icmp .eq 26, 3, 41, 64), (41, .aload_n 0, 1, 42, 0), (42, .getfield 25, 3, 45, 0), (45, .bipush 32, 2, 47, 32), (47, .iload_n 1, 1, 48, 0), (48, .imul, 1, 49, 0), (49, .aload_n 0, 1, 50, 0), (50, .iload_n 1, 1, 51, 0), (51, .iload_n 3, 1, 52, 0), (52, .iload 4, 2, 54, 0), (54, .invokevirtual 159, 3, 57, 0), (57, .iadd, 1, 58, 0), (58, .iaload, 1, 59, 0), (59, .iload 4, 2, 61, 0), (61, .if_icmp .ne 7, 3, 64, 68), (64, .iconst 1, 1, 65, 1), (65, .goto 4, 3, 68, 69), (68, .iconst 0, 1, 69, 0), (69, .ireturn, 1, 70, 0), (70, .aload_n 0, 1, 71, 0), (71, .getfield 16, 3, 74, 0), (74, .iload_n 1, 1, 75, 0), (75, .iaload, 1, 76, 0), (76, .iconst 4, 1, 77, 4), (77, .if_icmp .ne 32, 3, 80, 109), (80, .aload_n 0, 1, 81, 0), (81, .iload_n 1, 1, 82, 0), (82, .iload_n 2, 1, 83, 0), (83, .invokevirtual 170, 3, 86, 0), (86, .aload_n 0, 1, 87, 0), (87, .aload_n 0, 1, 88, 0), (88, .iload_n 1, 1, 89, 0), (89, .iconst 0, 1, 90, 0), (90, .invokevirtual 147, 3, 93, 0), (93, .iload_n 2, 1, 94, 0), (94, .invokevirtual 96, 3, 97, 0), (97, .invokestatic 150, 3, 100, 0), (100, .if_icmp .ne 7, 3, 103, 107), (103, .iconst 1, 1, 104, 1), (104, .goto 4, 3, 107, 108), (107, .iconst 0, 1, 108, 0), (108, .ireturn, 1, 109, 0), (109, .aload_n 0, 1, 110, 0), (110, .getfield 16, 3, 113, 0), (113, .iload_n 1, 1, 114, 0), (114, .iaload, 1, 115, 0), (115, .iconst 5, 1, 116, 5), (116, .if_icmp .ne 58, 3, 119, 174), (119, .iconst 0, 1, 120, 0), (120, .istore_n 3, 1, 121, 0), (121, .iload_n 3, 1, 122, 0), (122, .aload_n 0, 1, 123, 0), (123, .getfield 31, 3, 126, 0), (126, .iload_n 1, 1, 127, 0), (127, .iaload, 1, 128, 0), (128, .if_icmp .ge 33, 3, 131, 161), (131, .aload_n 0, 1, 132, 0), (132, .getfield 34, 3, 135, 0), (135, .bipush 6, 2, 137, 6), (137, .iload_n 1, 1, 138, 0), (138, .imul, 1, 139, 0), (139, .iload_n 3, 1, 140, 0), (140, .iadd, 1, 141, 0), (141, .laload, 1, 142, 0), (142, .aload_n 0, 1, 143, 0), (143, .iload_n 1, 1, 144, 0), (144, .iload_n 3, 1, 145, 0), (145, .iload_n 2, 1, 146, 0), (146, .invokevirtual 173, 3, 149, 0), (149, .invokestatic 100, 3, 152, 0), (152, .ifCond .eq 9, 3, 155, 161), (155, .iinc 3 1, 3, 158, 1), (158, .goto (-37), 3, 161, 121), (161, .iload_n 3, 1, 162, 0), (162, .iconst 2, 1, 163, 2), (163, .irem, 1, 164, 0), (164, .iconst 1, 1, 165, 1), (165, .if_icmp .ne 7, 3, 168, 172), (168, .iconst 1, 1, 169, 1), (169, .goto 4, 3, 172, 173), (172, .iconst 0, 1, 173, 0), (173, .ireturn, 1, 174, 0), (174, .aload_n 0, 1, 175, 0), (175, .iload_n 1, 1, 176, 0), (176, .iload_n 2, 1, 177, 0), (177, .invokevirtual 166, 3, 180, 0), (180, .aload_n 0, 1, 181, 0), (181, .iload_n 1, 1, 182, 0), (182, .invokevirtual 176, 3, 185, 0), (185, .ldc2_w 179, 3, 188, 0), (188, .lxor, 1, 189, 0), (189, .land, 1, 190, 0), (190, .lconst 0, 1, 191, 0), (191, .lcmp, 1, 192, 0), (192, .ifCond .ne 7, 3, 195, 199), (195, .iconst 1, 1, 196, 1), (196, .goto 4, 3, 199, 200), (199, .iconst 0, 1, 200, 0), (200, .ireturn, 1, 201, 0)]
theorem dk_M_isIn : sn_tabOk prog_12_method_35_code tb_M_isIn := by unfold sn_tabOk; decide +kernel
def md_M_together : sn_Md := (⟨"SureNoesModel", "together", "(II)I"⟩, prog_12_method_37_code, 5, (Option.some FieldType.int))
def tb_M_together : sn_Tb := [(0, .iconst 0, 1, 1, 0), (1, .istore_n 3, 1, 2, 0), (2, .iconst 0, 1, 3, 0), (3, .istore 4, 2, 5, 0), (5, .iload 4, 2, 7, 0), (7, .iconst 3, 1, 8, 3), (8, .if_icmp .ge 30, 3, 11, 38), (11, .iload_n 3, 1, 12, 0), (12, .aload_n 0, 1, 13, 0), (13, .getfield 25, 3, 16, 0), (16, .bipush 32, 2, 18, 32), (18, .iload_n 1, 1, 19, 0), (19, .imul, 1, 20, 0), (20, .aload_n 0, 1, 21, 0), (21, .iload_n 1, 1, 22, 0), (22, .iload 4, 2, 24, 0), (24, .iload_n 2, 1, 25, 0), (25, .invokevirtual 163, 3, 28, 0), (28, .iadd, 1, 29, 0), (29, .iaload, 1, 30, 0), (30, .ixor, 1, 31, 0), (31, .istore_n 3, 1, 32, 0), (32, .iinc 4 1, 3, 35, 1), (35, .goto (-30), 3, 38, 5), (38, .iload_n 3, 1, 39, 0), (39, .ireturn, 1, 40, 0)]
theorem dk_M_together : sn_tabOk prog_12_method_37_code tb_M_together := by unfold sn_tabOk; decide +kernel
def md_M_layerPlace : sn_Md := (⟨"SureNoesModel", "layerPlace", "(III)I"⟩, prog_12_method_36_code, 4, (Option.some FieldType.int))
def tb_M_layerPlace : sn_Tb := [(0, .aload_n 0, 1, 1, 0), (1, .aload_n 0, 1, 2, 0), (2, .iload_n 1, 1, 3, 0), (3, .iload_n 2, 1, 4, 0), (4, .aload_n 0, 1, 5, 0), (5, .getfield 22, 3, 8, 0), (8, .iload_n 1, 1, 9, 0), (9, .iaload, 1, 10, 0), (10, .i2l, 1, 11, 0), (11, .invokestatic 127, 3, 14, 0), (14, .irem, 1, 15, 0), (15, .invokevirtual 147, 3, 18, 0), (18, .iload_n 3, 1, 19, 0), (19, .invokevirtual 96, 3, 22, 0), (22, .aload_n 0, 1, 23, 0), (23, .getfield 19, 3, 26, 0), (26, .iload_n 1, 1, 27, 0), (27, .iaload, 1, 28, 0), (28, .irem, 1, 29, 0), (29, .ireturn, 1, 30, 0)]
theorem dk_M_layerPlace : sn_tabOk prog_12_method_36_code tb_M_layerPlace := by unfold sn_tabOk; decide +kernel
def md_M_filled : sn_Md := (⟨"SureNoesModel", "filled", "(I)J"⟩, prog_12_method_34_code, 5, (Option.some FieldType.long))
def tb_M_filled : sn_Tb := [(0, .lconst 0, 1, 1, 0), (1, .lstore_n 2, 1, 2, 0), (2, .iconst 0, 1, 3, 0), (3, .istore 4, 2, 5, 0), (5, .iload 4, 2, 7, 0), (7, .aload_n 0, 1, 8, 0), (8, .getfield 19, 3, 11, 0), (11, .iload_n 1, 1, 12, 0), (12, .iaload, 1, 13, 0), (13, .if_icmp .ge 35, 3, 16, 48), (16, .lload_n 2, 1, 17, 0), (17, .aload_n 0, 1, 18, 0), (18, .getfield 25, 3, 21, 0), (21, .bipush 32, 2, 23, 32), (23, .iload_n 1, 1, 24, 0), (24, .imul, 1, 25, 0), (25, .iload 4, 2, 27, 0), (27, .iadd, 1, 28, 0), (28, .iaload, 1, 29, 0), (29, .ifCond .le 10, 3, 32, 39), (32, .lconst 1, 1, 33, 0), (33, .iload 4, 2, 35, 0), (35, .lshl, 1, 36, 0), (36, .goto 4, 3, 39, 40), (39, .lconst 0, 1, 40, 0), (40, .lor, 1, 41, 0), (41, .lstore_n 2, 1, 42, 0), (42, .iinc 4 1, 3, 45, 1), (45, .goto (-40), 3, 48, 5), (48, .lload_n 2, 1, 49, 0), (49, .lreturn, 1, 50, 0)]
theorem dk_M_filled : sn_tabOk prog_12_method_34_code tb_M_filled := by unfold sn_tabOk; decide +kernel
def md_M_push : sn_Md := (⟨"SureNoesModel", "push", "(II)Z"⟩, prog_12_method_38_code, 10, (Option.some FieldType.boolean))
def tb_M_push : sn_Tb := [(0, .iconst 0, 1, 1, 0), (1, .istore_n 3, 1, 2, 0), (2, .iload_n 3, 1, 3, 0), (3, .bipush 32, 2, 5, 32), (5, .if_icmp .ge 26, 3, 8, 31), (8, .aload_n 0, 1, 9, 0), (9, .getfield 38, 3, 12, 0), (12, .iload_n 3, 1, 13, 0), (13, .aload_n 0, 1, 14, 0), (14, .getfield 25, 3, 17, 0), (17, .bipush 32, 2, 19, 32), (19, .iload_n 1, 1, 20, 0), (20, .imul, 1, 21, 0), (21, .iload_n 3, 1, 22, 0), (22, .iadd, 1, 23, 0), (23, .iaload, 1, 24, 0), (24, .iastore, 1, 25, 0), (25, .iinc 3 1, 3, 28, 1), (28, .goto (-26), 3, 31, 2), (31, .aload_n 0, 1, 32, 0), (32, .iload_n 1, 1, 33, 0), (33, .iload_n 2, 1, 34, 0), (34, .invokevirtual 153, 3, 37, 0), (37, .istore_n 3, 1, 38, 0), (38, .aload_n 0, 1, 39, 0), (39, .iload_n 1, 1, 40, 0), (40, .iload_n 2, 1, 41, 0), (41, .invokevirtual 156, 3, 44, 0), (44, .istore 4, 2, 46, 0), (46, .aload_n 0, 1, 47, 0), (47, .iload_n 1, 1, 48, 0), (48, .iload_n 3, 1, 49, 0), (49, .iload 4, 2, 51, 0), (51, .invokevirtual 159, 3, 54, 0), (54, .istore 5, 2, 56, 0), (56, .aload_n 0, 1, 57, 0), (57, .getfield 25, 3, 60, 0), (60, .bipush 32, 2, 62, 32), (62, .iload_n 1, 1, 63, 0), (63, .imul, 1, 64, 0), (64, .iload_n 3, 1, 65, 0), (65, .iadd, 1, 66, 0), (66, .iaload, 1, 67, 0), (67, .ifCond .eq 18, 3, 70, 85), (70, .aload_n 0, 1, 71, 0), (71, .getfield 25, 3, 74, 0), (74, .bipush 32, 2, 76, 32), (76, .iload_n 1, 1, 77, 0), (77, .imul, 1, 78, 0), (78, .iload 5, 2, 80, 0), (80, .iadd, 1, 81, 0), (81, .iaload, 1, 82, 0), (82, .ifCond .ne 37, 3, 85, 119), (85, .aload_n 0, 1, 86, 0), (86, .getfield 25, 3, 89, 0), (89, .bipush 32, 2, 91, 32), (91, .iload_n 1, 1, 92, 0), (92, .imul, 1, 93, 0), (93, .aload_n 0, 1, 94, 0), (94, .getfield 25, 3, 97, 0), (97, .bipush 32, 2, 99, 32), (99, .iload_n 1, 1, 100, 0), (100, .imul, 1, 101, 0), (101, .iload_n 3, 1, 102, 0), (102, .iadd, 1, 103, 0), (103, .iaload, 1, 104, 0), (104, .ifCond .ne 7, 3, 107, 111), (107, .iload_n 3, 1, 108, 0), (108, .goto 5, 3, 111, 113), (111, .iload 5, 2, 113, 0), (113, .iadd, 1, 114, 0), (114, .iload 4, 2, 116, 0), (116, .iastore, 1, 117, 0), (117, .iconst 1, 1, 118, 1), (118, .ireturn, 1, 119, 0), (119, .iload 4, 2, 121, 0), (121, .istore 6, 2, 123, 0), (123, .iload_n 3, 1, 124, 0), (124, .istore 7, 2, 126, 0), (126, .iconst 0, 1, 127, 0), (127, .istore 8, 2, 129, 0), (129, .iload 8, 2, 131, 0), (131, .bipush 8, 2, 133, 8), (133, .if_icmp .ge 83, 3, 136, 216), (136, .aload_n 0, 1, 137, 0), (137, .getfield 25, 3, 140, 0), (140, .bipush 32, 2, 142, 32), (142, .iload_n 1, 1, 143, 0), (143, .imul, 1, 144, 0), (144, .iload 7, 2, 146, 0), (146, .iadd, 1, 147, 0), (147, .iaload, 1, 148, 0), (148, .istore 9, 2, 150, 0), (150, .aload_n 0, 1, 151, 0), (151, .getfield 25, 3, 154, 0), (154, .bipush 32, 2, 156, 32), (156, .iload_n 1, 1, 157, 0), (157, .imul, 1, 158, 0), (158, .iload 7, 2, 160, 0), (160, .iadd, 1, 161, 0), (161, .iload 6, 2, 163, 0), (163, .iastore, 1, 164, 0), (164, .iload 9, 2, 166, 0), (166, .istore 6, 2, 168, 0), (168, .aload_n 0, 1, 169, 0), (169, .iload_n 1, 1, 170, 0), (170, .iload 7, 2, 172, 0), (172, .iload 6, 2, 174, 0), (174, .invokevirtual 159, 3, 177, 0), (177, .istore 7, 2, 179, 0), (179, .aload_n 0, 1, 180, 0), (180, .getfield 25, 3, 183, 0), (183, .bipush 32, 2, 185, 32), (185, .iload_n 1, 1, 186, 0), (186, .imul, 1, 187, 0), (187, .iload 7, 2, 189, 0), (189, .iadd, 1, 190, 0), (190, .iaload, 1, 191, 0), (191, .ifCond .ne 19, 3, 194, 210), (194, .aload_n 0, 1, 195, 0), (195, .getfield 25, 3, 198, 0), (198, .bipush 32, 2, 200, 32), (200, .iload_n 1, 1, 201, 0), (201, .imul, 1, 202, 0), (202, .iload 7, 2, 204, 0), (204, .iadd, 1, 205, 0), (205, .iload 6, 2, 207, 0), (207, .iastore, 1, 208, 0), (208, .iconst 1, 1, 209, 1), (209, .ireturn, 1, 210, 0), (210, .iinc 8 1, 3, 213, 1), (213, .goto (-84), 3, 216, 129), (216, .iconst 0, 1, 217, 0), (217, .istore 8, 2, 219, 0), (219, .iload 8, 2, 221, 0), (221, .bipush 32, 2, 223, 32), (223, .if_icmp .ge 28, 3, 226, 251), (226, .aload_n 0, 1, 227, 0), (227, .getfield 25, 3, 230, 0), (230, .bipush 32, 2, 232, 32), (232, .iload_n 1, 1, 233, 0), (233, .imul, 1, 234, 0), (234, .iload 8, 2, 236, 0), (236, .iadd, 1, 237, 0), (237, .aload_n 0, 1, 238, 0), (238, .getfield 38, 3, 241, 0), (241, .iload 8, 2, 243, 0), (243, .iaload, 1, 244, 0), (244, .iastore, 1, 245, 0), (245, .iinc 8 1, 3, 248, 1), (248, .goto (-29), 3, 251, 219), (251, .iconst 0, 1, 252, 0), (252, .ireturn, 1, 253, 0)]
theorem dk_M_push : sn_tabOk prog_12_method_38_code tb_M_push := by unfold sn_tabOk; decide +kernel
def md_M_take : sn_Md := (⟨"SureNoesModel", "take", "(II)I"⟩, prog_12_method_40_code, 8, (Option.some FieldType.int))
def tb_M_take : sn_Tb := [(0, .aload_n 0, 1, 1, 0), (1, .iload_n 1, 1, 2, 0), (2, .invokevirtual 131, 3, 5, 0), (5, .ifCond .eq 10, 3, 8, 15), (8, .iload_n 2, 1, 9, 0), (9, .invokestatic 93, 3, 12, 0), (12, .ifCond .ne 6, 3, 15, 18), (15, .bipush (-101), 2, 17, 101), (17, .ireturn, 1, 18, 0), (18, .aload_n 0, 1, 19, 0), (19, .getfield 16, 3, 22, 0), (22, .iload_n 1, 1, 23, 0), (23, .iaload, 1, 24, 0), (24, .istore_n 3, 1, 25, 0), (25, .iload_n 3, 1, 26, 0), (26, .iconst 1, 1, 27, 1), (27, .if_icmp .eq 8, 3, 30, 35), (30, .iload_n 3, 1, 31, 0), (31, .iconst 3, 1, 32, 3), (32, .if_icmp .ne 12, 3, 35, 44), (35, .aload_n 0, 1, 36, 0), (36, .iload_n 1, 1, 37, 0), (37, .iload_n 2, 1, 38, 0), (38, .invokevirtual 181, 3, 41, 0), (41, .ifCond .ne 6, 3, 44, 47), (44, .bipush (-103), 2, 46, 103), (46, .ireturn, 1, 47, 0), (47, .iload_n 3, 1, 48, 0), (48, .iconst 3, 1, 49, 3), (49, .if_icmp .ne 64, 3, 52, 113), (52, .aload_n 0, 1, 53, 0), (53, .iload_n 1, 1, 54, 0), (54, .iload_n 2, 1, 55, 0), (55, .invokevirtual 153, 3, 58, 0), (58, .istore 4, 2, 60, 0), (60, .aload_n 0, 1, 61, 0), (61, .iload_n 1, 1, 62, 0), (62, .iload_n 2, 1, 63, 0), (63, .invokevirtual 156, 3, 66, 0), (66, .istore 5, 2, 68, 0), (68, .aload_n 0, 1, 69, 0), (69, .getfield 25, 3, 72, 0), (72, .bipush 32, 2, 74, 32), (74, .iload_n 1, 1, 75, 0), (75, .imul, 1, 76, 0), (76, .aload_n 0, 1, 77, 0), (77, .getfield 25, 3, 80, 0), (80, .bipush 32, 2, 82, 32), (82, .iload_n 1, 1, 83, 0), (83, .imul, 1, 84, 0), (84, .iload 4, 2, 86, 0), (86, .iadd, 1, 87, 0), (87, .iaload, 1, 88, 0), (88, .iload 5, 2, 90, 0), (90, .if_icmp .ne 8, 3, 93, 98), (93, .iload 4, 2, 95, 0), (95, .goto 12, 3, 98, 107), (98, .aload_n 0, 1, 99, 0), (99, .iload_n 1, 1, 100, 0), (100, .iload 4, 2, 102, 0), (102, .iload 5, 2, 104, 0), (104, .invokevirtual 159, 3, 107, 0), (107, .iadd, 1, 108, 0), (108, .iconst 0, 1, 109, 0), (109, .iastore, 1, 110, 0), (110, .goto 83, 3, 113, 193), (113, .aload_n 0, 1, 114, 0), (114, .iload_n 1, 1, 115, 0), (115, .iload_n 2, 1, 116, 0), (116, .invokevirtual 166, 3, 119, 0), (119, .lstore 4, 2, 121, 0), (121, .iconst 0, 1, 122, 0), (122, .istore 6, 2, 124, 0), (124, .iload 6, 2, 126, 0), (126, .aload_n 0, 1, 127, 0), (127, .getfield 19, 3, 130, 0), (130, .iload_n 1, 1, 131, 0), (131, .iaload, 1, 132, 0), (132, .if_icmp .ge 61, 3, 135, 193), (135, .aload_n 0, 1, 136, 0), (136, .getfield 25, 3, 139, 0), (139, .bipush 32, 2, 141, 32), (141, .iload_n 1, 1, 142, 0), (142, .imul, 1, 143, 0), (143, .iload 6, 2, 145, 0), (145, .iadd, 1, 146, 0), (146, .iaload, 1, 147, 0), (147, .istore 7, 2, 149, 0), (149, .aload_n 0, 1, 150, 0), (150, .getfield 25, 3, 153, 0), (153, .bipush 32, 2, 155, 32), (155, .iload_n 1, 1, 156, 0), (156, .imul, 1, 157, 0), (157, .iload 6, 2, 159, 0), (159, .iadd, 1, 160, 0), (160, .lload 4, 2, 162, 0), (162, .iload 6, 2, 164, 0), (164, .invokestatic 100, 3, 167, 0), (167, .ifCond .eq 17, 3, 170, 184), (170, .iload 7, 2, 172, 0), (172, .bipush 7, 2, 174, 7), (174, .if_icmp .ge 10, 3, 177, 184), (177, .iload 7, 2, 179, 0), (179, .iconst 1, 1, 180, 1), (180, .isub, 1, 181, 0), (181, .goto 5, 3, 184, 186), (184, .iload 7, 2, 186, 0), (186, .iastore, 1, 187, 0), (187, .iinc 6 1, 3, 190, 1), (190, .goto (-66), 3, 193, 124), (193, .aload_n 0, 1, 194, 0), (194, .getfield 28, 3, 197, 0), (197, .bipush 32, 2, 199, 32), (199, .iload_n 1, 1, 200, 0), (200, .imul, 1, 201, 0), (201, .iload_n 2, 1, 202, 0), (202, .iadd, 1, 203, 0), (203, .iaload, 1, 204, 0), (204, .ifCond .le 7, 3, 207, 211), (207, .iconst 1, 1, 208, 1), (208, .goto 4, 3, 211, 212), (211, .iconst 0, 1, 212, 0), (212, .istore 4, 2, 214, 0), (214, .aload_n 0, 1, 215, 0), (215, .getfield 28, 3, 218, 0), (218, .bipush 32, 2, 220, 32), (220, .iload_n 1, 1, 221, 0), (221, .imul, 1, 222, 0), (222, .iload_n 2, 1, 223, 0), (223, .iadd, 1, 224, 0), (224, .dup2, 1, 225, 0), (225, .iaload, 1, 226, 0), (226, .iload 4, 2, 228, 0), (228, .isub, 1, 229, 0), (229, .iastore, 1, 230, 0), (230, .iload 4, 2, 232, 0), (232, .ireturn, 1, 233, 0)]
theorem dk_M_take : sn_tabOk prog_12_method_40_code tb_M_take := by unfold sn_tabOk; decide +kernel
def md_M_build : sn_Md := (⟨"SureNoesModel", "build", "(IJJ)I"⟩, prog_12_method_45_code, 9, (Option.some FieldType.int))
def tb_M_build : sn_Tb := [(0, .aload_n 0, 1, 1, 0), (1, .iload_n 1, 1, 2, 0), (2, .invokevirtual 131, 3, 5, 0), (5, .ifCond .ne 6, 3, 8, 11), (8, .bipush (-101), 2, 10, 101), (10, .ireturn, 1, 11, 0), (11, .aload_n 0, 1, 12, 0), (12, .getfield 16, 3, 15, 0), (15, .iload_n 1, 1, 16, 0), (16, .iaload, 1, 17, 0), (17, .istore 6, 2, 19, 0), (19, .lload_n 2, 1, 20, 0), (20, .invokestatic 108, 3, 23, 0), (23, .ifCond .eq 33, 3, 26, 56), (26, .lload 4, 2, 28, 0), (28, .invokestatic 108, 3, 31, 0), (31, .ifCond .eq 25, 3, 34, 56), (34, .lload_n 2, 1, 35, 0), (35, .lload 4, 2, 37, 0), (37, .land, 1, 38, 0), (38, .lconst 0, 1, 39, 0), (39, .lcmp, 1, 40, 0), (40, .ifCond .ne 16, 3, 43, 56), (43, .iload 6, 2, 45, 0), (45, .iconst 4, 1, 46, 4), (46, .if_icmp .ne 13, 3, 49, 59), (49, .lload 4, 2, 51, 0), (51, .lconst 0, 1, 52, 0), (52, .lcmp, 1, 53, 0), (53, .ifCond .eq 6, 3, 56, 59), (56, .bipush (-102), 2, 58, 102), (58, .ireturn, 1, 59, 0), (59, .iload 6, 2, 61, 0), (61, .iconst 4, 1, 62, 4), (62, .if_icmp .ne 12, 3, 65, 74), (65, .aload_n 0, 1, 66, 0), (66, .iload_n 1, 1, 67, 0), (67, .lload_n 2, 1, 68, 0), (68, .invokevirtual 199, 3, 71, 0), (71, .goto 25, 3, 74, 96), (74, .iload 6, 2, 76, 0), (76, .iconst 5, 1, 77, 5), (77, .if_icmp .ne 18, 3, 80, 95), (80, .aload_n 0, 1, 81, 0), (81, .iload_n 1, 1, 82, 0), (82, .lload_n 2, 1, 83, 0), (83, .lload 4, 2, 85, 0), (85, .invokevirtual 203, 3, 88, 0), (88, .ifCond .eq 7, 3, 91, 95), (91, .iconst 1, 1, 92, 1), (92, .goto 4, 3, 95, 96), (95, .iconst 0, 1, 96, 0), (96, .istore 7, 2, 98, 0), (98, .iload 7, 2, 100, 0), (100, .ifCond .ne 6, 3, 103, 106), (103, .bipush (-103), 2, 105, 103), (105, .ireturn, 1, 106, 0), (106, .iconst 0, 1, 107, 0), (107, .istore 8, 2, 109, 0), (109, .iload 8, 2, 111, 0), (111, .bipush 32, 2, 113, 32), (113, .if_icmp .ge 35, 3, 116, 148), (116, .aload_n 0, 1, 117, 0), (117, .getfield 28, 3, 120, 0), (120, .bipush 32, 2, 122, 32), (122, .iload_n 1, 1, 123, 0), (123, .imul, 1, 124, 0), (124, .iload 8, 2, 126, 0), (126, .iadd, 1, 127, 0), (127, .lload_n 2, 1, 128, 0), (128, .iload 8, 2, 130, 0), (130, .invokestatic 100, 3, 133, 0), (133, .ifCond .eq 7, 3, 136, 140), (136, .iconst 1, 1, 137, 1), (137, .goto 4, 3, 140, 141), (140, .iconst 0, 1, 141, 0), (141, .iastore, 1, 142, 0), (142, .iinc 8 1, 3, 145, 1), (145, .goto (-36), 3, 148, 109), (148, .lload_n 2, 1, 149, 0), (149, .invokestatic 127, 3, 152, 0), (152, .ireturn, 1, 153, 0)]
theorem dk_M_build : sn_tabOk prog_12_method_45_code tb_M_build := by unfold sn_tabOk; decide +kernel
def md_M_fold : sn_Md := (⟨"SureNoesModel", "fold", "(IJ)Z"⟩, prog_12_method_42_code, 8, (Option.some FieldType.boolean))
def tb_M_fold : sn_Tb := [(0, .lload_n 2, 1, 1, 0), (1, .lstore 4, 2, 3, 0), (3, .aload_n 0, 1, 4, 0), (4, .iconst 0, 1, 5, 0), (5, .putfield 188, 3, 8, 0), (8, .lload 4, 2, 10, 0), (10, .lconst 0, 1, 11, 0), (11, .lcmp, 1, 12, 0), (12, .ifCond .eq 102, 3, 15, 114), (15, .aload_n 0, 1, 16, 0), (16, .iload_n 1, 1, 17, 0), (17, .lload 4, 2, 19, 0), (19, .invokevirtual 191, 3, 22, 0), (22, .istore 6, 2, 24, 0), (24, .iload 6, 2, 26, 0), (26, .iconst (-1), 1, 27, 1), (27, .if_icmp .ne 5, 3, 30, 32), (30, .iconst 0, 1, 31, 0), (31, .ireturn, 1, 32, 0), (32, .iconst 0, 1, 33, 0), (33, .istore 7, 2, 35, 0), (35, .lload 4, 2, 37, 0), (37, .iload 7, 2, 39, 0), (39, .invokestatic 100, 3, 42, 0), (42, .ifCond .eq 18, 3, 45, 60), (45, .aload_n 0, 1, 46, 0), (46, .iload_n 1, 1, 47, 0), (47, .iload 7, 2, 49, 0), (49, .invokevirtual 166, 3, 52, 0), (52, .iload 6, 2, 54, 0), (54, .invokestatic 100, 3, 57, 0), (57, .ifCond .ne 9, 3, 60, 66), (60, .iinc 7 1, 3, 63, 1), (63, .goto (-28), 3, 66, 35), (66, .aload_n 0, 1, 67, 0), (67, .getfield 41, 3, 70, 0), (70, .aload_n 0, 1, 71, 0), (71, .getfield 188, 3, 74, 0), (74, .iload 7, 2, 76, 0), (76, .iastore, 1, 77, 0), (77, .aload_n 0, 1, 78, 0), (78, .getfield 44, 3, 81, 0), (81, .aload_n 0, 1, 82, 0), (82, .getfield 188, 3, 85, 0), (85, .iload 6, 2, 87, 0), (87, .iastore, 1, 88, 0), (88, .aload_n 0, 1, 89, 0), (89, .dup, 1, 90, 0), (90, .getfield 188, 3, 93, 0), (93, .iconst 1, 1, 94, 1), (94, .iadd, 1, 95, 0), (95, .putfield 188, 3, 98, 0), (98, .lload 4, 2, 100, 0), (100, .lconst 1, 1, 101, 0), (101, .iload 7, 2, 103, 0), (103, .lshl, 1, 104, 0), (104, .ldc2_w 179, 3, 107, 0), (107, .lxor, 1, 108, 0), (108, .land, 1, 109, 0), (109, .lstore 4, 2, 111, 0), (111, .goto (-103), 3, 114, 8), (114, .iconst 0, 1, 115, 0), (115, .istore 6, 2, 117, 0), (117, .iload 6, 2, 119, 0), (119, .bipush 32, 2, 121, 32), (121, .if_icmp .ge 22, 3, 124, 143), (124, .aload_n 0, 1, 125, 0), (125, .getfield 25, 3, 128, 0), (128, .bipush 32, 2, 130, 32), (130, .iload_n 1, 1, 131, 0), (131, .imul, 1, 132, 0), (132, .iload 6, 2, 134, 0), (134, .iadd, 1, 135, 0), (135, .iconst 0, 1, 136, 0), (136, .iastore, 1, 137, 0), (137, .iinc 6 1, 3, 140, 1), (140, .goto (-23), 3, 143, 117), (143, .aload_n 0, 1, 144, 0), (144, .getfield 188, 3, 147, 0), (147, .iconst 1, 1, 148, 1), (148, .isub, 1, 149, 0), (149, .istore 6, 2, 151, 0), (151, .iload 6, 2, 153, 0), (153, .ifCond .lt 58, 3, 156, 211), (156, .aload_n 0, 1, 157, 0), (157, .getfield 41, 3, 160, 0), (160, .iload 6, 2, 162, 0), (162, .iaload, 1, 163, 0), (163, .istore 7, 2, 165, 0), (165, .aload_n 0, 1, 166, 0), (166, .getfield 25, 3, 169, 0), (169, .bipush 32, 2, 171, 32), (171, .iload_n 1, 1, 172, 0), (172, .imul, 1, 173, 0), (173, .aload_n 0, 1, 174, 0), (174, .getfield 44, 3, 177, 0), (177, .iload 6, 2, 179, 0), (179, .iaload, 1, 180, 0), (180, .iadd, 1, 181, 0), (181, .aload_n 0, 1, 182, 0), (182, .iload_n 1, 1, 183, 0), (183, .iload 7, 2, 185, 0), (185, .invokevirtual 170, 3, 188, 0), (188, .aload_n 0, 1, 189, 0), (189, .aload_n 0, 1, 190, 0), (190, .iload_n 1, 1, 191, 0), (191, .iconst 0, 1, 192, 0), (192, .invokevirtual 147, 3, 195, 0), (195, .iload 7, 2, 197, 0), (197, .invokevirtual 96, 3, 200, 0), (200, .invokestatic 150, 3, 203, 0), (203, .ixor, 1, 204, 0), (204, .iastore, 1, 205, 0), (205, .iinc 6 (-1), 3, 208, 1), (208, .goto (-57), 3, 211, 151), (211, .iconst 1, 1, 212, 1), (212, .ireturn, 1, 213, 0)]
theorem dk_M_fold : sn_tabOk prog_12_method_42_code tb_M_fold := by unfold sn_tabOk; decide +kernel
def md_M_lonePlace : sn_Md := (⟨"SureNoesModel", "lonePlace", "(IJ)I"⟩, prog_12_method_41_code, 7, (Option.some FieldType.int))
def tb_M_lonePlace : sn_Tb := [(0, .iconst 0, 1, 1, 0), (1, .istore 4, 2, 3, 0), (3, .iload 4, 2, 5, 0), (5, .aload_n 0, 1, 6, 0), (6, .getfield 19, 3, 9, 0), (9, .iload_n 1, 1, 10, 0), (10, .iaload, 1, 11, 0), (11, .if_icmp .ge 71, 3, 14, 82), (14, .iconst 0, 1, 15, 0), (15, .istore 5, 2, 17, 0), (17, .iconst 0, 1, 18, 0), (18, .istore 6, 2, 20, 0), (20, .iload 6, 2, 22, 0), (22, .bipush 32, 2, 24, 32), (24, .if_icmp .ge 43, 3, 27, 67), (27, .iload 5, 2, 29, 0), (29, .lload_n 2, 1, 30, 0), (30, .iload 6, 2, 32, 0), (32, .invokestatic 100, 3, 35, 0), (35, .ifCond .eq 22, 3, 38, 57), (38, .aload_n 0, 1, 39, 0), (39, .iload_n 1, 1, 40, 0), (40, .iload 6, 2, 42, 0), (42, .invokevirtual 166, 3, 45, 0), (45, .iload 4, 2, 47, 0), (47, .invokestatic 100, 3, 50, 0), (50, .ifCond .eq 7, 3, 53, 57), (53, .iconst 1, 1, 54, 1), (54, .goto 4, 3, 57, 58), (57, .iconst 0, 1, 58, 0), (58, .iadd, 1, 59, 0), (59, .istore 5, 2, 61, 0), (61, .iinc 6 1, 3, 64, 1), (64, .goto (-44), 3, 67, 20), (67, .iload 5, 2, 69, 0), (69, .iconst 1, 1, 70, 1), (70, .if_icmp .ne 6, 3, 73, 76), (73, .iload 4, 2, 75, 0), (75, .ireturn, 1, 76, 0), (76, .iinc 4 1, 3, 79, 1), (79, .goto (-76), 3, 82, 3), (82, .iconst (-1), 1, 83, 1), (83, .ireturn, 1, 84, 0)]
theorem dk_M_lonePlace : sn_tabOk prog_12_method_41_code tb_M_lonePlace := by unfold sn_tabOk; decide +kernel
def md_M_layer : sn_Md := (⟨"SureNoesModel", "layer", "(IJJ)Z"⟩, prog_12_method_43_code, 15, (Option.some FieldType.boolean))
def tb_M_layer : sn_Tb := [(0, .iconst 0, 1, 1, 0), (1, .istore 6, 2, 3, 0), (3, .lload_n 2, 1, 4, 0), (4, .lstore 7, 2, 6, 0), (6, .lload 4, 2, 8, 0), (8, .lstore 9, 2, 10, 0), (10, .iconst 1, 1, 11, 1), (11, .istore 11, 2, 13, 0), (13, .iload 11, 2, 15, 0), (15, .ifCond .eq 134, 3, 18, 149), (18, .iload 6, 2, 20, 0), (20, .iconst 2, 1, 21, 2), (21, .irem, 1, 22, 0), (22, .ifCond .ne 8, 3, 25, 30), (25, .lload 7, 2, 27, 0), (27, .goto 5, 3, 30, 32), (30, .lload 9, 2, 32, 0), (32, .lstore 12, 2, 34, 0), (34, .lload 12, 2, 36, 0), (36, .lconst 0, 1, 37, 0), (37, .lcmp, 1, 38, 0), (38, .ifCond .eq 7, 3, 41, 45), (41, .iconst 1, 1, 42, 1), (42, .goto 4, 3, 45, 46), (45, .iconst 0, 1, 46, 0), (46, .istore 11, 2, 48, 0), (48, .iload 11, 2, 50, 0), (50, .ifCond .eq 96, 3, 53, 146), (53, .iload 6, 2, 55, 0), (55, .bipush 6, 2, 57, 6), (57, .if_icmp .ne 5, 3, 60, 62), (60, .iconst 0, 1, 61, 0), (61, .ireturn, 1, 62, 0), (62, .aload_n 0, 1, 63, 0), (63, .getfield 47, 3, 66, 0), (66, .iload 6, 2, 68, 0), (68, .lconst 0, 1, 69, 0), (69, .lastore, 1, 70, 0), (70, .iconst 0, 1, 71, 0), (71, .istore 14, 2, 73, 0), (73, .iload 14, 2, 75, 0), (75, .bipush 32, 2, 77, 32), (77, .if_icmp .ge 44, 3, 80, 121), (80, .aload_n 0, 1, 81, 0), (81, .getfield 47, 3, 84, 0), (84, .iload 6, 2, 86, 0), (86, .dup2, 1, 87, 0), (87, .laload, 1, 88, 0), (88, .lload 12, 2, 90, 0), (90, .iload 14, 2, 92, 0), (92, .invokestatic 100, 3, 95, 0), (95, .ifCond .eq 17, 3, 98, 112), (98, .lconst 1, 1, 99, 0), (99, .aload_n 0, 1, 100, 0), (100, .iload_n 1, 1, 101, 0), (101, .iload 6, 2, 103, 0), (103, .iload 14, 2, 105, 0), (105, .invokevirtual 173, 3, 108, 0), (108, .lshl, 1, 109, 0), (109, .goto 4, 3, 112, 113), (112, .lconst 0, 1, 113, 0), (113, .lor, 1, 114, 0), (114, .lastore, 1, 115, 0), (115, .iinc 14 1, 3, 118, 1), (118, .goto (-45), 3, 121, 73), (121, .aload_n 0, 1, 122, 0), (122, .iload_n 1, 1, 123, 0), (123, .iload 6, 2, 125, 0), (125, .lload 7, 2, 127, 0), (127, .invokevirtual 195, 3, 130, 0), (130, .lstore 7, 2, 132, 0), (132, .aload_n 0, 1, 133, 0), (133, .iload_n 1, 1, 134, 0), (134, .iload 6, 2, 136, 0), (136, .lload 9, 2, 138, 0), (138, .invokevirtual 195, 3, 141, 0), (141, .lstore 9, 2, 143, 0), (143, .iinc 6 1, 3, 146, 1), (146, .goto (-133), 3, 149, 13), (149, .aload_n 0, 1, 150, 0), (150, .getfield 31, 3, 153, 0), (153, .iload_n 1, 1, 154, 0), (154, .iload 6, 2, 156, 0), (156, .iastore, 1, 157, 0), (157, .iconst 0, 1, 158, 0), (158, .istore 12, 2, 160, 0), (160, .iload 12, 2, 162, 0), (162, .iload 6, 2, 164, 0), (164, .if_icmp .ge 28, 3, 167, 192), (167, .aload_n 0, 1, 168, 0), (168, .getfield 34, 3, 171, 0), (171, .bipush 6, 2, 173, 6), (173, .iload_n 1, 1, 174, 0), (174, .imul, 1, 175, 0), (175, .iload 12, 2, 177, 0), (177, .iadd, 1, 178, 0), (178, .aload_n 0, 1, 179, 0), (179, .getfield 47, 3, 182, 0), (182, .iload 12, 2, 184, 0), (184, .laload, 1, 185, 0), (185, .lastore, 1, 186, 0), (186, .iinc 12 1, 3, 189, 1), (189, .goto (-29), 3, 192, 160), (192, .iconst 1, 1, 193, 1), (193, .ireturn, 1, 194, 0)]
theorem dk_M_layer : sn_tabOk prog_12_method_43_code tb_M_layer := by unfold sn_tabOk; decide +kernel
def md_M_thoseIn : sn_Md := (⟨"SureNoesModel", "thoseIn", "(IIJ)J"⟩, prog_12_method_44_code, 8, (Option.some FieldType.long))
def tb_M_thoseIn : sn_Tb := [(0, .lconst 0, 1, 1, 0), (1, .lstore 5, 2, 3, 0), (3, .iconst 0, 1, 4, 0), (4, .istore 7, 2, 6, 0), (6, .iload 7, 2, 8, 0), (8, .bipush 32, 2, 10, 32), (10, .if_icmp .ge 51, 3, 13, 61), (13, .lload 5, 2, 15, 0), (15, .lload_n 3, 1, 16, 0), (16, .iload 7, 2, 18, 0), (18, .invokestatic 100, 3, 21, 0), (21, .ifCond .eq 30, 3, 24, 51), (24, .aload_n 0, 1, 25, 0), (25, .getfield 47, 3, 28, 0), (28, .iload_n 2, 1, 29, 0), (29, .laload, 1, 30, 0), (30, .aload_n 0, 1, 31, 0), (31, .iload_n 1, 1, 32, 0), (32, .iload_n 2, 1, 33, 0), (33, .iload 7, 2, 35, 0), (35, .invokevirtual 173, 3, 38, 0), (38, .invokestatic 100, 3, 41, 0), (41, .ifCond .eq 10, 3, 44, 51), (44, .lconst 1, 1, 45, 0), (45, .iload 7, 2, 47, 0), (47, .lshl, 1, 48, 0), (48, .goto 4, 3, 51, 52), (51, .lconst 0, 1, 52, 0), (52, .lor, 1, 53, 0), (53, .lstore 5, 2, 55, 0), (55, .iinc 7 1, 3, 58, 1), (58, .goto (-52), 3, 61, 6), (61, .lload 5, 2, 63, 0), (63, .lreturn, 1, 64, 0)]
theorem dk_M_thoseIn : sn_tabOk prog_12_method_44_code tb_M_thoseIn := by unfold sn_tabOk; decide +kernel
def md_M_real : sn_Md := (⟨"SureNoesModel", "real", "(II)I"⟩, prog_12_method_46_code, 3, (Option.some FieldType.int))
def tb_M_real : sn_Tb := [(0, .aload_n 0, 1, 1, 0), (1, .iload_n 1, 1, 2, 0), (2, .invokevirtual 131, 3, 5, 0), (5, .ifCond .eq 24, 3, 8, 29), (8, .iload_n 2, 1, 9, 0), (9, .invokestatic 93, 3, 12, 0), (12, .ifCond .eq 17, 3, 15, 29), (15, .aload_n 0, 1, 16, 0), (16, .getfield 28, 3, 19, 0), (19, .bipush 32, 2, 21, 32), (21, .iload_n 1, 1, 22, 0), (22, .imul, 1, 23, 0), (23, .iload_n 2, 1, 24, 0), (24, .iadd, 1, 25, 0), (25, .iaload, 1, 26, 0), (26, .goto 5, 3, 29, 31), (29, .bipush (-101), 2, 31, 101), (31, .ireturn, 1, 32, 0)]
theorem dk_M_real : sn_tabOk prog_12_method_46_code tb_M_real := by unfold sn_tabOk; decide +kernel
def md_M_keys : sn_Md := (⟨"SureNoesModel", "keys", "(II)J"⟩, prog_12_method_49_code, 3, (Option.some FieldType.long))
def tb_M_keys : sn_Tb := [(0, .aload_n 0, 1, 1, 0), (1, .iload_n 1, 1, 2, 0), (2, .invokevirtual 131, 3, 5, 0), (5, .ifCond .ne 9, 3, 8, 14), (8, .ldc2_w 145, 3, 11, 0), (11, .goto 27, 3, 14, 38), (14, .iload_n 2, 1, 15, 0), (15, .i2l, 1, 16, 0), (16, .lconst 0, 1, 17, 0), (17, .ldc2_w 125, 3, 20, 0), (20, .invokestatic 77, 3, 23, 0), (23, .ifCond .eq 12, 3, 26, 35), (26, .aload_n 0, 1, 27, 0), (27, .iload_n 1, 1, 28, 0), (28, .iload_n 2, 1, 29, 0), (29, .invokevirtual 210, 3, 32, 0), (32, .goto 6, 3, 35, 38), (35, .ldc2_w 213, 3, 38, 0), (38, .lreturn, 1, 39, 0)]
theorem dk_M_keys : sn_tabOk prog_12_method_49_code tb_M_keys := by unfold sn_tabOk; decide +kernel
def md_M_keysOf : sn_Md := (⟨"SureNoesModel", "keysOf", "(II)J"⟩, prog_12_method_48_code, 7, (Option.some FieldType.long))
def tb_M_keysOf : sn_Tb := [(0, .aload_n 0, 1, 1, 0), (1, .iload_n 1, 1, 2, 0), (2, .invokevirtual 207, 3, 5, 0), (5, .lstore_n 3, 1, 6, 0), (6, .aload_n 0, 1, 7, 0), (7, .iload_n 1, 1, 8, 0), (8, .invokevirtual 138, 3, 11, 0), (11, .lstore 5, 2, 13, 0), (13, .iload_n 2, 1, 14, 0), (14, .ifCond .ne 7, 3, 17, 21), (17, .lload_n 3, 1, 18, 0), (18, .goto 37, 3, 21, 55), (21, .iload_n 2, 1, 22, 0), (22, .iconst 1, 1, 23, 1), (23, .if_icmp .ne 14, 3, 26, 37), (26, .lload_n 3, 1, 27, 0), (27, .lload 5, 2, 29, 0), (29, .ldc2_w 179, 3, 32, 0), (32, .lxor, 1, 33, 0), (33, .land, 1, 34, 0), (34, .goto 21, 3, 37, 55), (37, .iload_n 2, 1, 38, 0), (38, .iconst 2, 1, 39, 2), (39, .if_icmp .ne 14, 3, 42, 53), (42, .lload 5, 2, 44, 0), (44, .lload_n 3, 1, 45, 0), (45, .ldc2_w 179, 3, 48, 0), (48, .lxor, 1, 49, 0), (49, .land, 1, 50, 0), (50, .goto 5, 3, 53, 55), (53, .lload 5, 2, 55, 0), (55, .lreturn, 1, 56, 0)]
theorem dk_M_keysOf : sn_tabOk prog_12_method_48_code tb_M_keysOf := by unfold sn_tabOk; decide +kernel
def md_M_allIn : sn_Md := (⟨"SureNoesModel", "allIn", "(I)J"⟩, prog_12_method_47_code, 5, (Option.some FieldType.long))
def tb_M_allIn : sn_Tb := [(0, .lconst 0, 1, 1, 0), (1, .lstore_n 2, 1, 2, 0), (2, .iconst 0, 1, 3, 0), (3, .istore 4, 2, 5, 0), (5, .iload 4, 2, 7, 0), (7, .bipush 32, 2, 9, 32), (9, .if_icmp .ge 30, 3, 12, 39), (12, .lload_n 2, 1, 13, 0), (13, .aload_n 0, 1, 14, 0), (14, .iload_n 1, 1, 15, 0), (15, .iload 4, 2, 17, 0), (17, .invokevirtual 181, 3, 20, 0), (20, .ifCond .eq 10, 3, 23, 30), (23, .lconst 1, 1, 24, 0), (24, .iload 4, 2, 26, 0), (26, .lshl, 1, 27, 0), (27, .goto 4, 3, 30, 31), (30, .lconst 0, 1, 31, 0), (31, .lor, 1, 32, 0), (32, .lstore_n 2, 1, 33, 0), (33, .iinc 4 1, 3, 36, 1), (36, .goto (-31), 3, 39, 5), (39, .lload_n 2, 1, 40, 0), (40, .lreturn, 1, 41, 0)]
theorem dk_M_allIn : sn_tabOk prog_12_method_47_code tb_M_allIn := by unfold sn_tabOk; decide +kernel
def md_M_join : sn_Md := (⟨"SureNoesModel", "join", "(IIZ)I"⟩, prog_12_method_51_code, 6, (Option.some FieldType.int))
def tb_M_join : sn_Tb := [(0, .aload_n 0, 1, 1, 0), (1, .iload_n 1, 1, 2, 0), (2, .invokevirtual 131, 3, 5, 0), (5, .ifCond .eq 11, 3, 8, 16), (8, .aload_n 0, 1, 9, 0), (9, .iload_n 2, 1, 10, 0), (10, .invokevirtual 131, 3, 13, 0), (13, .ifCond .ne 6, 3, 16, 19), (16, .bipush (-101), 2, 18, 101), (18, .ireturn, 1, 19, 0), (19, .aload_n 0, 1, 20, 0), (20, .getfield 16, 3, 23, 0), (23, .iload_n 1, 1, 24, 0), (24, .iaload, 1, 25, 0), (25, .aload_n 0, 1, 26, 0), (26, .getfield 16, 3, 29, 0), (29, .iload_n 2, 1, 30, 0), (30, .iaload, 1, 31, 0), (31, .if_icmp .ne 56, 3, 34, 87), (34, .aload_n 0, 1, 35, 0), (35, .getfield 16, 3, 38, 0), (38, .iload_n 1, 1, 39, 0), (39, .iaload, 1, 40, 0), (40, .ifCond .eq 13, 3, 43, 53), (43, .aload_n 0, 1, 44, 0), (44, .getfield 16, 3, 47, 0), (47, .iload_n 1, 1, 48, 0), (48, .iaload, 1, 49, 0), (49, .iconst 2, 1, 50, 2), (50, .if_icmp .ne 37, 3, 53, 87), (53, .aload_n 0, 1, 54, 0), (54, .getfield 19, 3, 57, 0), (57, .iload_n 1, 1, 58, 0), (58, .iaload, 1, 59, 0), (59, .aload_n 0, 1, 60, 0), (60, .getfield 19, 3, 63, 0), (63, .iload_n 2, 1, 64, 0), (64, .iaload, 1, 65, 0), (65, .if_icmp .ne 22, 3, 68, 87), (68, .aload_n 0, 1, 69, 0), (69, .getfield 22, 3, 72, 0), (72, .iload_n 1, 1, 73, 0), (73, .iaload, 1, 74, 0), (74, .aload_n 0, 1, 75, 0), (75, .getfield 22, 3, 78, 0), (78, .iload_n 2, 1, 79, 0), (79, .iaload, 1, 80, 0), (80, .if_icmp .ne 7, 3, 83, 87), (83, .iconst 1, 1, 84, 1), (84, .goto 4, 3, 87, 88), (87, .iconst 0, 1, 88, 0), (88, .istore 4, 2, 90, 0), (90, .iload 4, 2, 92, 0), (92, .ifCond .ne 6, 3, 95, 98), (95, .bipush (-103), 2, 97, 103), (97, .ireturn, 1, 98, 0), (98, .aload_n 0, 1, 99, 0), (99, .getfield 120, 3, 102, 0), (102, .bipush 8, 2, 104, 8), (104, .if_icmp .ne 6, 3, 107, 110), (107, .bipush (-104), 2, 109, 104), (109, .ireturn, 1, 110, 0), (110, .aload_n 0, 1, 111, 0), (111, .getfield 16, 3, 114, 0), (114, .aload_n 0, 1, 115, 0), (115, .getfield 120, 3, 118, 0), (118, .aload_n 0, 1, 119, 0), (119, .getfield 16, 3, 122, 0), (122, .iload_n 1, 1, 123, 0), (123, .iaload, 1, 124, 0), (124, .iastore, 1, 125, 0), (125, .aload_n 0, 1, 126, 0), (126, .getfield 19, 3, 129, 0), (129, .aload_n 0, 1, 130, 0), (130, .getfield 120, 3, 133, 0), (133, .aload_n 0, 1, 134, 0), (134, .getfield 19, 3, 137, 0), (137, .iload_n 1, 1, 138, 0), (138, .iaload, 1, 139, 0), (139, .iastore, 1, 140, 0), (140, .aload_n 0, 1, 141, 0), (141, .getfield 22, 3, 144, 0), (144, .aload_n 0, 1, 145, 0), (145, .getfield 120, 3, 148, 0), (148, .aload_n 0, 1, 149, 0), (149, .getfield 22, 3, 152, 0), (152, .iload_n 1, 1, 153, 0), (153, .iaload, 1, 154, 0), (154, .iastore, 1, 155, 0), (155, .aload_n 0, 1, 156, 0), (156, .getfield 31, 3, 159, 0), (159, .aload_n 0, 1, 160, 0), (160, .getfield 120, 3, 163, 0), (163, .iconst 0, 1, 164, 0), (164, .iastore, 1, 165, 0), (165, .iconst 0, 1, 166, 0), (166, .istore 5, 2, 168, 0), (168, .iload 5, 2, 170, 0), (170, .bipush 32, 2, 172, 32), (172, .if_icmp .ge 95, 3, 175, 267), (175, .aload_n 0, 1, 176, 0), (176, .getfield 25, 3, 179, 0), (179, .bipush 32, 2, 181, 32), (181, .aload_n 0, 1, 182, 0), (182, .getfield 120, 3, 185, 0), (185, .imul, 1, 186, 0), (186, .iload 5, 2, 188, 0), (188, .iadd, 1, 189, 0), (189, .aload_n 0, 1, 190, 0), (190, .getfield 25, 3, 193, 0), (193, .bipush 32, 2, 195, 32), (195, .iload_n 1, 1, 196, 0), (196, .imul, 1, 197, 0), (197, .iload 5, 2, 199, 0), (199, .iadd, 1, 200, 0), (200, .iaload, 1, 201, 0), (201, .aload_n 0, 1, 202, 0), (202, .getfield 25, 3, 205, 0), (205, .bipush 32, 2, 207, 32), (207, .iload_n 2, 1, 208, 0), (208, .imul, 1, 209, 0), (209, .iload 5, 2, 211, 0), (211, .iadd, 1, 212, 0), (212, .iaload, 1, 213, 0), (213, .iload_n 3, 1, 214, 0), (214, .invokestatic 215, 3, 217, 0), (217, .iastore, 1, 218, 0), (218, .aload_n 0, 1, 219, 0), (219, .getfield 28, 3, 222, 0), (222, .bipush 32, 2, 224, 32), (224, .aload_n 0, 1, 225, 0), (225, .getfield 120, 3, 228, 0), (228, .imul, 1, 229, 0), (229, .iload 5, 2, 231, 0), (231, .iadd, 1, 232, 0), (232, .aload_n 0, 1, 233, 0), (233, .getfield 28, 3, 236, 0), (236, .bipush 32, 2, 238, 32), (238, .iload_n 1, 1, 239, 0), (239, .imul, 1, 240, 0), (240, .iload 5, 2, 242, 0), (242, .iadd, 1, 243, 0), (243, .iaload, 1, 244, 0), (244, .aload_n 0, 1, 245, 0), (245, .getfield 28, 3, 248, 0), (248, .bipush 32, 2, 250, 32), (250, .iload_n 2, 1, 251, 0), (251, .imul, 1, 252, 0), (252, .iload 5, 2, 254, 0), (254, .iadd, 1, 255, 0), (255, .iaload, 1, 256, 0), (256, .iload_n 3, 1, 257, 0), (257, .invokestatic 215, 3, 260, 0), (260, .iastore, 1, 261, 0), (261, .iinc 5 1, 3, 264, 1), (264, .goto (-96), 3, 267, 168), (267, .aload_n 0, 1, 268, 0), (268, .dup, 1, 269, 0), (269, .getfield 120, 3, 272, 0), (272, .iconst 1, 1, 273, 1), (273, .iadd, 1, 274, 0), (274, .putfield 120, 3, 277, 0), (277, .aload_n 0, 1, 278, 0), (278, .getfield 120, 3, 281, 0), (281, .iconst 1, 1, 282, 1), (282, .isub, 1, 283, 0), (283, .ireturn, 1, 284, 0)]
theorem dk_M_join : sn_tabOk prog_12_method_51_code tb_M_join := by unfold sn_tabOk; decide +kernel
def md_M_chosen : sn_Md := (⟨"SureNoesModel", "chosen", "(IIZ)I"⟩, prog_12_method_50_code, 3, (Option.some FieldType.int))
def tb_M_chosen : sn_Tb := [(0, .iload_n 0, 1, 1, 0), (1, .iload_n 1, 1, 2, 0), (2, .if_icmp .ge 7, 3, 5, 9), (5, .iconst 1, 1, 6, 1), (6, .goto 4, 3, 9, 10), (9, .iconst 0, 1, 10, 0), (10, .iload_n 2, 1, 11, 0), (11, .if_icmp .ne 7, 3, 14, 18), (14, .iload_n 0, 1, 15, 0), (15, .goto 4, 3, 18, 19), (18, .iload_n 1, 1, 19, 0), (19, .ireturn, 1, 20, 0)]
theorem dk_M_chosen : sn_tabOk prog_12_method_50_code tb_M_chosen := by unfold sn_tabOk; decide +kernel
def md_M_halve : sn_Md := (⟨"SureNoesModel", "halve", "(I)I"⟩, prog_12_method_52_code, 4, (Option.some FieldType.int))
def tb_M_halve : sn_Tb := [(0, .aload_n 0, 1, 1, 0), (1, .iload_n 1, 1, 2, 0), (2, .invokevirtual 131, 3, 5, 0), (5, .ifCond .ne 6, 3, 8, 11), (8, .bipush (-101), 2, 10, 101), (10, .ireturn, 1, 11, 0), (11, .aload_n 0, 1, 12, 0), (12, .getfield 19, 3, 15, 0), (15, .iload_n 1, 1, 16, 0), (16, .iaload, 1, 17, 0), (17, .iconst 2, 1, 18, 2), (18, .idiv, 1, 19, 0), (19, .istore_n 2, 1, 20, 0), (20, .aload_n 0, 1, 21, 0), (21, .getfield 16, 3, 24, 0), (24, .iload_n 1, 1, 25, 0), (25, .iaload, 1, 26, 0), (26, .ifCond .ne 20, 3, 29, 46), (29, .aload_n 0, 1, 30, 0), (30, .getfield 19, 3, 33, 0), (33, .iload_n 1, 1, 34, 0), (34, .iaload, 1, 35, 0), (35, .iconst 2, 1, 36, 2), (36, .irem, 1, 37, 0), (37, .iconst 1, 1, 38, 1), (38, .if_icmp .eq 8, 3, 41, 46), (41, .iload_n 2, 1, 42, 0), (42, .iconst 2, 1, 43, 2), (43, .if_icmp .ge 6, 3, 46, 49), (46, .bipush (-103), 2, 48, 103), (48, .ireturn, 1, 49, 0), (49, .aload_n 0, 1, 50, 0), (50, .getfield 120, 3, 53, 0), (53, .bipush 8, 2, 55, 8), (55, .if_icmp .ne 6, 3, 58, 61), (58, .bipush (-104), 2, 60, 104), (60, .ireturn, 1, 61, 0), (61, .aload_n 0, 1, 62, 0), (62, .getfield 16, 3, 65, 0), (65, .aload_n 0, 1, 66, 0), (66, .getfield 120, 3, 69, 0), (69, .iconst 0, 1, 70, 0), (70, .iastore, 1, 71, 0), (71, .aload_n 0, 1, 72, 0), (72, .getfield 19, 3, 75, 0), (75, .aload_n 0, 1, 76, 0), (76, .getfield 120, 3, 79, 0), (79, .iload_n 2, 1, 80, 0), (80, .iastore, 1, 81, 0), (81, .aload_n 0, 1, 82, 0), (82, .getfield 22, 3, 85, 0), (85, .aload_n 0, 1, 86, 0), (86, .getfield 120, 3, 89, 0), (89, .aload_n 0, 1, 90, 0), (90, .getfield 22, 3, 93, 0), (93, .iload_n 1, 1, 94, 0), (94, .iaload, 1, 95, 0), (95, .iastore, 1, 96, 0), (96, .aload_n 0, 1, 97, 0), (97, .getfield 31, 3, 100, 0), (100, .aload_n 0, 1, 101, 0), (101, .getfield 120, 3, 104, 0), (104, .iconst 0, 1, 105, 0), (105, .iastore, 1, 106, 0), (106, .iconst 0, 1, 107, 0), (107, .istore_n 3, 1, 108, 0), (108, .iload_n 3, 1, 109, 0), (109, .bipush 32, 2, 111, 32), (111, .if_icmp .ge 85, 3, 114, 196), (114, .aload_n 0, 1, 115, 0), (115, .getfield 25, 3, 118, 0), (118, .bipush 32, 2, 120, 32), (120, .aload_n 0, 1, 121, 0), (121, .getfield 120, 3, 124, 0), (124, .imul, 1, 125, 0), (125, .iload_n 3, 1, 126, 0), (126, .iadd, 1, 127, 0), (127, .iload_n 3, 1, 128, 0), (128, .iload_n 2, 1, 129, 0), (129, .if_icmp .ge 34, 3, 132, 163), (132, .aload_n 0, 1, 133, 0), (133, .getfield 25, 3, 136, 0), (136, .bipush 32, 2, 138, 32), (138, .iload_n 1, 1, 139, 0), (139, .imul, 1, 140, 0), (140, .iload_n 3, 1, 141, 0), (141, .iadd, 1, 142, 0), (142, .iaload, 1, 143, 0), (143, .aload_n 0, 1, 144, 0), (144, .getfield 25, 3, 147, 0), (147, .bipush 32, 2, 149, 32), (149, .iload_n 1, 1, 150, 0), (150, .imul, 1, 151, 0), (151, .iload_n 2, 1, 152, 0), (152, .iadd, 1, 153, 0), (153, .iload_n 3, 1, 154, 0), (154, .iadd, 1, 155, 0), (155, .iaload, 1, 156, 0), (156, .iconst 0, 1, 157, 0), (157, .invokestatic 215, 3, 160, 0), (160, .goto 4, 3, 163, 164), (163, .iconst 0, 1, 164, 0), (164, .iastore, 1, 165, 0), (165, .aload_n 0, 1, 166, 0), (166, .getfield 28, 3, 169, 0), (169, .bipush 32, 2, 171, 32), (171, .aload_n 0, 1, 172, 0), (172, .getfield 120, 3, 175, 0), (175, .imul, 1, 176, 0), (176, .iload_n 3, 1, 177, 0), (177, .iadd, 1, 178, 0), (178, .aload_n 0, 1, 179, 0), (179, .getfield 28, 3, 182, 0), (182, .bipush 32, 2, 184, 32), (184, .iload_n 1, 1, 185, 0), (185, .imul, 1, 186, 0), (186, .iload_n 3, 1, 187, 0), (187, .iadd, 1, 188, 0), (188, .iaload, 1, 189, 0), (189, .iastore, 1, 190, 0), (190, .iinc 3 1, 3, 193, 1), (193, .goto (-85), 3, 196, 108), (196, .aload_n 0, 1, 197, 0), (197, .dup, 1, 198, 0), (198, .getfield 120, 3, 201, 0), (201, .iconst 1, 1, 202, 1), (202, .iadd, 1, 203, 0), (203, .putfield 120, 3, 206, 0), (206, .aload_n 0, 1, 207, 0), (207, .getfield 120, 3, 210, 0), (210, .iconst 1, 1, 211, 1), (211, .isub, 1, 212, 0), (212, .ireturn, 1, 213, 0)]
theorem dk_M_halve : sn_tabOk prog_12_method_52_code tb_M_halve := by unfold sn_tabOk; decide +kernel
def md_M_spoil : sn_Md := (⟨"SureNoesModel", "spoil", "(II)J"⟩, prog_12_method_54_code, 8, (Option.some FieldType.long))
def tb_M_spoil : sn_Tb := [(0, .aload_n 0, 1, 1, 0), (1, .iload_n 1, 1, 2, 0), (2, .invokevirtual 131, 3, 5, 0), (5, .ifCond .eq 10, 3, 8, 15), (8, .iload_n 2, 1, 9, 0), (9, .invokestatic 93, 3, 12, 0), (12, .ifCond .ne 7, 3, 15, 19), (15, .ldc2_w 145, 3, 18, 0), (18, .lreturn, 1, 19, 0), (19, .aload_n 0, 1, 20, 0), (20, .getfield 16, 3, 23, 0), (23, .iload_n 1, 1, 24, 0), (24, .iaload, 1, 25, 0), (25, .iconst 2, 1, 26, 2), (26, .if_icmp .le 7, 3, 29, 33), (29, .ldc2_w 219, 3, 32, 0), (32, .lreturn, 1, 33, 0), (33, .aload_n 0, 1, 34, 0), (34, .iload_n 1, 1, 35, 0), (35, .invokevirtual 221, 3, 38, 0), (38, .aload_n 0, 1, 39, 0), (39, .getfield 50, 3, 42, 0), (42, .iload_n 2, 1, 43, 0), (43, .laload, 1, 44, 0), (44, .aload_n 0, 1, 45, 0), (45, .iload_n 1, 1, 46, 0), (46, .invokevirtual 176, 3, 49, 0), (49, .ldc2_w 179, 3, 52, 0), (52, .lxor, 1, 53, 0), (53, .land, 1, 54, 0), (54, .lstore_n 3, 1, 55, 0), (55, .lload_n 3, 1, 56, 0), (56, .lconst 0, 1, 57, 0), (57, .lcmp, 1, 58, 0), (58, .ifCond .ne 5, 3, 61, 63), (61, .lconst 0, 1, 62, 0), (62, .lreturn, 1, 63, 0), (63, .iconst 1, 1, 64, 1), (64, .istore 5, 2, 66, 0), (66, .iload 5, 2, 68, 0), (68, .iconst 3, 1, 69, 3), (69, .if_icmp .gt 31, 3, 72, 100), (72, .aload_n 0, 1, 73, 0), (73, .iload_n 2, 1, 74, 0), (74, .lload_n 3, 1, 75, 0), (75, .iload 5, 2, 77, 0), (77, .invokevirtual 225, 3, 80, 0), (80, .lstore 6, 2, 82, 0), (82, .lload 6, 2, 84, 0), (84, .ldc2_w 179, 3, 87, 0), (87, .lcmp, 1, 88, 0), (88, .ifCond .eq 6, 3, 91, 94), (91, .lload 6, 2, 93, 0), (93, .lreturn, 1, 94, 0), (94, .iinc 5 1, 3, 97, 1), (97, .goto (-31), 3, 100, 66), (100, .ldc2_w 179, 3, 103, 0), (103, .lreturn, 1, 104, 0)]
theorem dk_M_spoil : sn_tabOk prog_12_method_54_code tb_M_spoil := by unfold sn_tabOk; decide +kernel
def md_M_layPlaces : sn_Md := (⟨"SureNoesModel", "layPlaces", "(I)V"⟩, prog_12_method_53_code, 3, (Option.none : Option FieldType))
def tb_M_layPlaces : sn_Tb := [(0, .iconst 0, 1, 1, 0), (1, .istore_n 2, 1, 2, 0), (2, .iload_n 2, 1, 3, 0), (3, .bipush 32, 2, 5, 32), (5, .if_icmp .ge 21, 3, 8, 26), (8, .aload_n 0, 1, 9, 0), (9, .getfield 50, 3, 12, 0), (12, .iload_n 2, 1, 13, 0), (13, .aload_n 0, 1, 14, 0), (14, .iload_n 1, 1, 15, 0), (15, .iload_n 2, 1, 16, 0), (16, .invokevirtual 166, 3, 19, 0), (19, .lastore, 1, 20, 0), (20, .iinc 2 1, 3, 23, 1), (23, .goto (-21), 3, 26, 2), (26, .return_, 1, 27, 0)]
theorem dk_M_layPlaces : sn_tabOk prog_12_method_53_code tb_M_layPlaces := by unfold sn_tabOk; decide +kernel
def md_M_spoilBy : sn_Md := (⟨"SureNoesModel", "spoilBy", "(IJI)J"⟩, prog_12_method_55_code, 13, (Option.some FieldType.long))
def tb_M_spoilBy : sn_Tb := [(0, .ldc2_w 179, 3, 3, 0), (3, .lstore 5, 2, 5, 0), (5, .iconst 0, 1, 6, 0), (6, .istore 7, 2, 8, 0), (8, .iload 7, 2, 10, 0), (10, .bipush 32, 2, 12, 32), (12, .if_icmp .ge 187, 3, 15, 199), (15, .iload 4, 2, 17, 0), (17, .iconst 1, 1, 18, 1), (18, .if_icmp .le 10, 3, 21, 28), (21, .iload 7, 2, 23, 0), (23, .iconst 1, 1, 24, 1), (24, .iadd, 1, 25, 0), (25, .goto 5, 3, 28, 30), (28, .iload 7, 2, 30, 0), (30, .istore 8, 2, 32, 0), (32, .iload 8, 2, 34, 0), (34, .iload 4, 2, 36, 0), (36, .iconst 1, 1, 37, 1), (37, .if_icmp .le 8, 3, 40, 45), (40, .bipush 32, 2, 42, 32), (42, .goto 7, 3, 45, 49), (45, .iload 7, 2, 47, 0), (47, .iconst 1, 1, 48, 1), (48, .iadd, 1, 49, 0), (49, .if_icmp .ge 144, 3, 52, 193), (52, .iload 4, 2, 54, 0), (54, .iconst 2, 1, 55, 2), (55, .if_icmp .le 10, 3, 58, 65), (58, .iload 8, 2, 60, 0), (60, .iconst 1, 1, 61, 1), (61, .iadd, 1, 62, 0), (62, .goto 5, 3, 65, 67), (65, .iload 8, 2, 67, 0), (67, .istore 9, 2, 69, 0), (69, .iload 9, 2, 71, 0), (71, .iload 4, 2, 73, 0), (73, .iconst 2, 1, 74, 2), (74, .if_icmp .le 8, 3, 77, 82), (77, .bipush 32, 2, 79, 32), (79, .goto 7, 3, 82, 86), (82, .iload 8, 2, 84, 0), (84, .iconst 1, 1, 85, 1), (85, .iadd, 1, 86, 0), (86, .if_icmp .ge 101, 3, 89, 187), (89, .lconst 1, 1, 90, 0), (90, .iload 7, 2, 92, 0), (92, .lshl, 1, 93, 0), (93, .lconst 1, 1, 94, 0), (94, .iload 8, 2, 96, 0), (96, .lshl, 1, 97, 0), (97, .lor, 1, 98, 0), (98, .lconst 1, 1, 99, 0), (99, .iload 9, 2, 101, 0), (101, .lshl, 1, 102, 0), (102, .lor, 1, 103, 0), (103, .lstore 10, 2, 105, 0), (105, .lload_n 2, 1, 106, 0), (106, .aload_n 0, 1, 107, 0), (107, .getfield 50, 3, 110, 0), (110, .iload 7, 2, 112, 0), (112, .laload, 1, 113, 0), (113, .aload_n 0, 1, 114, 0), (114, .getfield 50, 3, 117, 0), (117, .iload 8, 2, 119, 0), (119, .laload, 1, 120, 0), (120, .lor, 1, 121, 0), (121, .aload_n 0, 1, 122, 0), (122, .getfield 50, 3, 125, 0), (125, .iload 9, 2, 127, 0), (127, .laload, 1, 128, 0), (128, .lor, 1, 129, 0), (129, .ldc2_w 179, 3, 132, 0), (132, .lxor, 1, 133, 0), (133, .land, 1, 134, 0), (134, .lconst 0, 1, 135, 0), (135, .lcmp, 1, 136, 0), (136, .ifCond .ne 7, 3, 139, 143), (139, .iconst 1, 1, 140, 1), (140, .goto 4, 3, 143, 144), (143, .iconst 0, 1, 144, 0), (144, .istore 12, 2, 146, 0), (146, .iload 12, 2, 148, 0), (148, .ifCond .eq 33, 3, 151, 181), (151, .lload 10, 2, 153, 0), (153, .iload_n 1, 1, 154, 0), (154, .invokestatic 100, 3, 157, 0), (157, .ifCond .ne 24, 3, 160, 181), (160, .lload 5, 2, 162, 0), (162, .ldc2_w 179, 3, 165, 0), (165, .lcmp, 1, 166, 0), (166, .ifCond .eq 11, 3, 169, 177), (169, .lload 10, 2, 171, 0), (171, .lload 5, 2, 173, 0), (173, .lcmp, 1, 174, 0), (174, .ifCond .ge 7, 3, 177, 181), (177, .lload 10, 2, 179, 0), (179, .lstore 5, 2, 181, 0), (181, .iinc 9 1, 3, 184, 1), (184, .goto (-115), 3, 187, 69), (187, .iinc 8 1, 3, 190, 1), (190, .goto (-158), 3, 193, 32), (193, .iinc 7 1, 3, 196, 1), (196, .goto (-188), 3, 199, 8), (199, .lload 5, 2, 201, 0), (201, .lreturn, 1, 202, 0)]
theorem dk_M_spoilBy : sn_tabOk prog_12_method_55_code tb_M_spoilBy := by unfold sn_tabOk; decide +kernel
def md_M_made : sn_Md := (⟨"SureNoesModel", "made", "(II)J"⟩, prog_12_method_59_code, 11, (Option.some FieldType.long))
def tb_M_made : sn_Tb := [(0, .aload_n 0, 1, 1, 0), (1, .iload_n 1, 1, 2, 0), (2, .invokevirtual 131, 3, 5, 0), (5, .ifCond .ne 7, 3, 8, 12), (8, .ldc2_w 145, 3, 11, 0), (11, .lreturn, 1, 12, 0), (12, .iload_n 2, 1, 13, 0), (13, .i2l, 1, 14, 0), (14, .lconst 0, 1, 15, 0), (15, .ldc2_w 125, 3, 18, 0), (18, .invokestatic 77, 3, 21, 0), (21, .ifCond .ne 7, 3, 24, 28), (24, .ldc2_w 213, 3, 27, 0), (27, .lreturn, 1, 28, 0), (28, .aload_n 0, 1, 29, 0), (29, .getfield 16, 3, 32, 0), (32, .iload_n 1, 1, 33, 0), (33, .iaload, 1, 34, 0), (34, .ifCond .eq 17, 3, 37, 51), (37, .aload_n 0, 1, 38, 0), (38, .getfield 16, 3, 41, 0), (41, .iload_n 1, 1, 42, 0), (42, .iaload, 1, 43, 0), (43, .iconst 2, 1, 44, 2), (44, .if_icmp .eq 7, 3, 47, 51), (47, .ldc2_w 219, 3, 50, 0), (50, .lreturn, 1, 51, 0), (51, .aload_n 0, 1, 52, 0), (52, .iload_n 1, 1, 53, 0), (53, .invokevirtual 221, 3, 56, 0), (56, .aload_n 0, 1, 57, 0), (57, .iload_n 1, 1, 58, 0), (58, .invokevirtual 176, 3, 61, 0), (61, .lstore_n 3, 1, 62, 0), (62, .lconst 0, 1, 63, 0), (63, .lstore 5, 2, 65, 0), (65, .iconst 0, 1, 66, 0), (66, .istore 7, 2, 68, 0), (68, .iload 7, 2, 70, 0), (70, .bipush 32, 2, 72, 32), (72, .if_icmp .ge 40, 3, 75, 112), (75, .lload 5, 2, 77, 0), (77, .aload_n 0, 1, 78, 0), (78, .getfield 50, 3, 81, 0), (81, .iload 7, 2, 83, 0), (83, .laload, 1, 84, 0), (84, .lload_n 3, 1, 85, 0), (85, .ldc2_w 179, 3, 88, 0), (88, .lxor, 1, 89, 0), (89, .land, 1, 90, 0), (90, .lconst 0, 1, 91, 0), (91, .lcmp, 1, 92, 0), (92, .ifCond .ne 10, 3, 95, 102), (95, .lconst 1, 1, 96, 0), (96, .iload 7, 2, 98, 0), (98, .lshl, 1, 99, 0), (99, .goto 4, 3, 102, 103), (102, .lconst 0, 1, 103, 0), (103, .lor, 1, 104, 0), (104, .lstore 5, 2, 106, 0), (106, .iinc 7 1, 3, 109, 1), (109, .goto (-41), 3, 112, 68), (112, .aload_n 0, 1, 113, 0), (113, .lload 5, 2, 115, 0), (115, .iconst (-1), 1, 116, 1), (116, .invokevirtual 233, 3, 119, 0), (119, .lload_n 3, 1, 120, 0), (120, .lcmp, 1, 121, 0), (121, .ifCond .ne 7, 3, 124, 128), (124, .iconst 1, 1, 125, 1), (125, .goto 4, 3, 128, 129), (128, .iconst 0, 1, 129, 0), (129, .istore 7, 2, 131, 0), (131, .iload_n 2, 1, 132, 0), (132, .iconst 2, 1, 133, 2), (133, .if_icmp .ge 53, 3, 136, 186), (136, .lload_n 3, 1, 137, 0), (137, .invokestatic 127, 3, 140, 0), (140, .bipush 12, 2, 142, 12), (142, .if_icmp .le 7, 3, 145, 149), (145, .ldc2_w 237, 3, 148, 0), (148, .lreturn, 1, 149, 0), (149, .iload 7, 2, 151, 0), (151, .ifCond .ne 7, 3, 154, 158), (154, .ldc2_w 179, 3, 157, 0), (157, .lreturn, 1, 158, 0), (158, .aload_n 0, 1, 159, 0), (159, .lload 5, 2, 161, 0), (161, .lload_n 3, 1, 162, 0), (162, .invokevirtual 239, 3, 165, 0), (165, .iload_n 2, 1, 166, 0), (166, .ifCond .ne 13, 3, 169, 179), (169, .aload_n 0, 1, 170, 0), (170, .getfield 53, 3, 173, 0), (173, .iconst 0, 1, 174, 0), (174, .baload, 1, 175, 0), (175, .i2l, 1, 176, 0), (176, .goto 9, 3, 179, 185), (179, .aload_n 0, 1, 180, 0), (180, .getfield 57, 3, 183, 0), (183, .iconst 0, 1, 184, 0), (184, .laload, 1, 185, 0), (185, .lreturn, 1, 186, 0), (186, .lconst 0, 1, 187, 0), (187, .lstore 8, 2, 189, 0), (189, .iconst 0, 1, 190, 0), (190, .istore 10, 2, 192, 0), (192, .iload 10, 2, 194, 0), (194, .bipush 32, 2, 196, 32), (196, .if_icmp .ge 45, 3, 199, 241), (199, .lload 8, 2, 201, 0), (201, .lload 5, 2, 203, 0), (203, .iload 10, 2, 205, 0), (205, .invokestatic 100, 3, 208, 0), (208, .ifCond .eq 23, 3, 211, 231), (211, .aload_n 0, 1, 212, 0), (212, .lload 5, 2, 214, 0), (214, .iload 10, 2, 216, 0), (216, .invokevirtual 233, 3, 219, 0), (219, .lload_n 3, 1, 220, 0), (220, .lcmp, 1, 221, 0), (221, .ifCond .eq 10, 3, 224, 231), (224, .lconst 1, 1, 225, 0), (225, .iload 10, 2, 227, 0), (227, .lshl, 1, 228, 0), (228, .goto 4, 3, 231, 232), (231, .lconst 0, 1, 232, 0), (232, .lor, 1, 233, 0), (233, .lstore 8, 2, 235, 0), (235, .iinc 10 1, 3, 238, 1), (238, .goto (-46), 3, 241, 192), (241, .iload 7, 2, 243, 0), (243, .ifCond .ne 7, 3, 246, 250), (246, .lconst 0, 1, 247, 0), (247, .goto 15, 3, 250, 262), (250, .iload_n 2, 1, 251, 0), (251, .iconst 2, 1, 252, 2), (252, .if_icmp .ne 8, 3, 255, 260), (255, .lload 8, 2, 257, 0), (257, .goto 5, 3, 260, 262), (260, .lload 5, 2, 262, 0), (262, .lreturn, 1, 263, 0)]
theorem dk_M_made : sn_tabOk prog_12_method_59_code tb_M_made := by unfold sn_tabOk; decide +kernel
def md_M_unionOf : sn_Md := (⟨"SureNoesModel", "unionOf", "(JI)J"⟩, prog_12_method_58_code, 7, (Option.some FieldType.long))
def tb_M_unionOf : sn_Tb := [(0, .lconst 0, 1, 1, 0), (1, .lstore 4, 2, 3, 0), (3, .iconst 0, 1, 4, 0), (4, .istore 6, 2, 6, 0), (6, .iload 6, 2, 8, 0), (8, .bipush 32, 2, 10, 32), (10, .if_icmp .ge 40, 3, 13, 50), (13, .lload 4, 2, 15, 0), (15, .lload_n 1, 1, 16, 0), (16, .iload 6, 2, 18, 0), (18, .invokestatic 100, 3, 21, 0), (21, .ifCond .eq 19, 3, 24, 40), (24, .iload 6, 2, 26, 0), (26, .iload_n 3, 1, 27, 0), (27, .if_icmp .eq 13, 3, 30, 40), (30, .aload_n 0, 1, 31, 0), (31, .getfield 50, 3, 34, 0), (34, .iload 6, 2, 36, 0), (36, .laload, 1, 37, 0), (37, .goto 4, 3, 40, 41), (40, .lconst 0, 1, 41, 0), (41, .lor, 1, 42, 0), (42, .lstore 4, 2, 44, 0), (44, .iinc 6 1, 3, 47, 1), (47, .goto (-41), 3, 50, 6), (50, .lload 4, 2, 52, 0), (52, .lreturn, 1, 53, 0)]
theorem dk_M_unionOf : sn_tabOk prog_12_method_58_code tb_M_unionOf := by unfold sn_tabOk; decide +kernel
def md_M_cover : sn_Md := (⟨"SureNoesModel", "cover", "(JJ)V"⟩, prog_12_method_57_code, 13, (Option.none : Option FieldType))
def tb_M_cover : sn_Tb := [(0, .iconst 1, 1, 1, 1), (1, .lload_n 3, 1, 2, 0), (2, .invokestatic 127, 3, 5, 0), (5, .ishl, 1, 6, 0), (6, .iconst 1, 1, 7, 1), (7, .isub, 1, 8, 0), (8, .istore 5, 2, 10, 0), (10, .iconst 0, 1, 11, 0), (11, .istore 6, 2, 13, 0), (13, .iload 6, 2, 15, 0), (15, .bipush 32, 2, 17, 32), (17, .if_icmp .ge 40, 3, 20, 57), (20, .aload_n 0, 1, 21, 0), (21, .getfield 60, 3, 24, 0), (24, .iload 6, 2, 26, 0), (26, .lload_n 1, 1, 27, 0), (27, .iload 6, 2, 29, 0), (29, .invokestatic 100, 3, 32, 0), (32, .ifCond .eq 17, 3, 35, 49), (35, .aload_n 0, 1, 36, 0), (36, .getfield 50, 3, 39, 0), (39, .iload 6, 2, 41, 0), (41, .laload, 1, 42, 0), (42, .lload_n 3, 1, 43, 0), (43, .invokestatic 229, 3, 46, 0), (46, .goto 4, 3, 49, 50), (49, .iconst 0, 1, 50, 0), (50, .iastore, 1, 51, 0), (51, .iinc 6 1, 3, 54, 1), (54, .goto (-41), 3, 57, 13), (57, .aload_n 0, 1, 58, 0), (58, .getfield 53, 3, 61, 0), (61, .iload 5, 2, 63, 0), (63, .iconst 0, 1, 64, 0), (64, .bastore, 1, 65, 0), (65, .aload_n 0, 1, 66, 0), (66, .getfield 57, 3, 69, 0), (69, .iload 5, 2, 71, 0), (71, .lconst 0, 1, 72, 0), (72, .lastore, 1, 73, 0), (73, .iload 5, 2, 75, 0), (75, .iconst 1, 1, 76, 1), (76, .isub, 1, 77, 0), (77, .istore 6, 2, 79, 0), (79, .iload 6, 2, 81, 0), (81, .ifCond .lt 163, 3, 84, 244), (84, .aload_n 0, 1, 85, 0), (85, .getfield 53, 3, 88, 0), (88, .iload 6, 2, 90, 0), (90, .bipush 99, 2, 92, 99), (92, .bastore, 1, 93, 0), (93, .iload 6, 2, 95, 0), (95, .iconst (-1), 1, 96, 1), (96, .ixor, 1, 97, 0), (97, .iload 6, 2, 99, 0), (99, .iconst 1, 1, 100, 1), (100, .iadd, 1, 101, 0), (101, .iand, 1, 102, 0), (102, .istore 7, 2, 104, 0), (104, .iconst 0, 1, 105, 0), (105, .istore 8, 2, 107, 0), (107, .iload 8, 2, 109, 0), (109, .bipush 32, 2, 111, 32), (111, .if_icmp .ge 127, 3, 114, 238), (114, .iload 6, 2, 116, 0), (116, .aload_n 0, 1, 117, 0), (117, .getfield 60, 3, 120, 0), (120, .iload 8, 2, 122, 0), (122, .iaload, 1, 123, 0), (123, .ior, 1, 124, 0), (124, .istore 9, 2, 126, 0), (126, .aload_n 0, 1, 127, 0), (127, .getfield 60, 3, 130, 0), (130, .iload 8, 2, 132, 0), (132, .iaload, 1, 133, 0), (133, .iload 7, 2, 135, 0), (135, .iand, 1, 136, 0), (136, .ifCond .eq 96, 3, 139, 232), (139, .aload_n 0, 1, 140, 0), (140, .getfield 53, 3, 143, 0), (143, .iload 9, 2, 145, 0), (145, .baload, 1, 146, 0), (146, .bipush 99, 2, 148, 99), (148, .if_icmp .ge 84, 3, 151, 232), (151, .aload_n 0, 1, 152, 0), (152, .getfield 53, 3, 155, 0), (155, .iload 9, 2, 157, 0), (157, .baload, 1, 158, 0), (158, .iconst 1, 1, 159, 1), (159, .iadd, 1, 160, 0), (160, .istore 10, 2, 162, 0), (162, .aload_n 0, 1, 163, 0), (163, .getfield 57, 3, 166, 0), (166, .iload 9, 2, 168, 0), (168, .laload, 1, 169, 0), (169, .lconst 1, 1, 170, 0), (170, .iload 8, 2, 172, 0), (172, .lshl, 1, 173, 0), (173, .lor, 1, 174, 0), (174, .lstore 11, 2, 176, 0), (176, .iload 10, 2, 178, 0), (178, .aload_n 0, 1, 179, 0), (179, .getfield 53, 3, 182, 0), (182, .iload 6, 2, 184, 0), (184, .baload, 1, 185, 0), (185, .if_icmp .lt 28, 3, 188, 213), (188, .iload 10, 2, 190, 0), (190, .aload_n 0, 1, 191, 0), (191, .getfield 53, 3, 194, 0), (194, .iload 6, 2, 196, 0), (196, .baload, 1, 197, 0), (197, .if_icmp .ne 35, 3, 200, 232), (200, .lload 11, 2, 202, 0), (202, .aload_n 0, 1, 203, 0), (203, .getfield 57, 3, 206, 0), (206, .iload 6, 2, 208, 0), (208, .laload, 1, 209, 0), (209, .lcmp, 1, 210, 0), (210, .ifCond .ge 22, 3, 213, 232), (213, .aload_n 0, 1, 214, 0), (214, .getfield 53, 3, 217, 0), (217, .iload 6, 2, 219, 0), (219, .iload 10, 2, 221, 0), (221, .i2b, 1, 222, 0), (222, .bastore, 1, 223, 0), (223, .aload_n 0, 1, 224, 0), (224, .getfield 57, 3, 227, 0), (227, .iload 6, 2, 229, 0), (229, .lload 11, 2, 231, 0), (231, .lastore, 1, 232, 0), (232, .iinc 8 1, 3, 235, 1), (235, .goto (-128), 3, 238, 107), (238, .iinc 6 (-1), 3, 241, 1), (241, .goto (-162), 3, 244, 79), (244, .return_, 1, 245, 0)]
theorem dk_M_cover : sn_tabOk prog_12_method_57_code tb_M_cover := by unfold sn_tabOk; decide +kernel
def md_M_folded : sn_Md := (⟨"SureNoesModel", "folded", "(JJ)I"⟩, prog_12_method_56_code, 7, (Option.some FieldType.int))
def tb_M_folded : sn_Tb := [(0, .iconst 0, 1, 1, 0), (1, .istore 4, 2, 3, 0), (3, .iconst 0, 1, 4, 0), (4, .istore 5, 2, 6, 0), (6, .iconst 0, 1, 7, 0), (7, .istore 6, 2, 9, 0), (9, .iload 6, 2, 11, 0), (11, .bipush 32, 2, 13, 32), (13, .if_icmp .ge 43, 3, 16, 56), (16, .lload_n 2, 1, 17, 0), (17, .iload 6, 2, 19, 0), (19, .invokestatic 100, 3, 22, 0), (22, .ifCond .eq 28, 3, 25, 50), (25, .iload 4, 2, 27, 0), (27, .lload_n 0, 1, 28, 0), (28, .iload 6, 2, 30, 0), (30, .invokestatic 100, 3, 33, 0), (33, .ifCond .eq 10, 3, 36, 43), (36, .iconst 1, 1, 37, 1), (37, .iload 5, 2, 39, 0), (39, .ishl, 1, 40, 0), (40, .goto 4, 3, 43, 44), (43, .iconst 0, 1, 44, 0), (44, .ior, 1, 45, 0), (45, .istore 4, 2, 47, 0), (47, .iinc 5 1, 3, 50, 1), (50, .iinc 6 1, 3, 53, 1), (53, .goto (-44), 3, 56, 9), (56, .iload 4, 2, 58, 0), (58, .ireturn, 1, 59, 0)]
theorem dk_M_folded : sn_tabOk prog_12_method_56_code tb_M_folded := by unfold sn_tabOk; decide +kernel
def md_M_order : sn_Md := (⟨"SureNoesModel", "order", "(IJI)I"⟩, prog_12_method_62_code, 8, (Option.some FieldType.int))
def tb_M_order : sn_Tb := [(0, .aload_n 0, 1, 1, 0), (1, .iload_n 1, 1, 2, 0), (2, .invokevirtual 131, 3, 5, 0), (5, .ifCond .ne 6, 3, 8, 11), (8, .bipush (-101), 2, 10, 101), (10, .ireturn, 1, 11, 0), (11, .lload_n 2, 1, 12, 0), (12, .invokestatic 108, 3, 15, 0), (15, .ifCond .eq 25, 3, 18, 40), (18, .lload_n 2, 1, 19, 0), (19, .invokestatic 127, 3, 22, 0), (22, .bipush 6, 2, 24, 6), (24, .if_icmp .gt 16, 3, 27, 40), (27, .iload 4, 2, 29, 0), (29, .i2l, 1, 30, 0), (30, .lconst 0, 1, 31, 0), (31, .ldc2_w 123, 3, 34, 0), (34, .invokestatic 77, 3, 37, 0), (37, .ifCond .ne 6, 3, 40, 43), (40, .bipush (-102), 2, 42, 102), (42, .ireturn, 1, 43, 0), (43, .aload_n 0, 1, 44, 0), (44, .getfield 16, 3, 47, 0), (47, .iload_n 1, 1, 48, 0), (48, .iaload, 1, 49, 0), (49, .iconst 3, 1, 50, 3), (50, .if_icmp .eq 6, 3, 53, 56), (53, .bipush (-103), 2, 55, 103), (55, .ireturn, 1, 56, 0), (56, .iconst 0, 1, 57, 0), (57, .istore 5, 2, 59, 0), (59, .iconst 1, 1, 60, 1), (60, .istore 6, 2, 62, 0), (62, .iconst 0, 1, 63, 0), (63, .istore 7, 2, 65, 0), (65, .iload 7, 2, 67, 0), (67, .bipush 32, 2, 69, 32), (69, .if_icmp .ge 37, 3, 72, 106), (72, .lload_n 2, 1, 73, 0), (73, .iload 7, 2, 75, 0), (75, .invokestatic 100, 3, 78, 0), (78, .ifCond .eq 22, 3, 81, 100), (81, .aload_n 0, 1, 82, 0), (82, .getfield 63, 3, 85, 0), (85, .iload 5, 2, 87, 0), (87, .iload 7, 2, 89, 0), (89, .iastore, 1, 90, 0), (90, .iinc 5 1, 3, 93, 1), (93, .iload 6, 2, 95, 0), (95, .iload 5, 2, 97, 0), (97, .imul, 1, 98, 0), (98, .istore 6, 2, 100, 0), (100, .iinc 7 1, 3, 103, 1), (103, .goto (-38), 3, 106, 65), (106, .iconst 0, 1, 107, 0), (107, .istore 7, 2, 109, 0), (109, .iload 7, 2, 111, 0), (111, .iload 6, 2, 113, 0), (113, .if_icmp .ge 46, 3, 116, 159), (116, .aload_n 0, 1, 117, 0), (117, .iload 7, 2, 119, 0), (119, .iload 5, 2, 121, 0), (121, .invokevirtual 243, 3, 124, 0), (124, .aload_n 0, 1, 125, 0), (125, .iload_n 1, 1, 126, 0), (126, .iload 5, 2, 128, 0), (128, .invokevirtual 247, 3, 131, 0), (131, .ifCond .eq 22, 3, 134, 153), (134, .iload 4, 2, 136, 0), (136, .iload 5, 2, 138, 0), (138, .if_icmp .ge 13, 3, 141, 151), (141, .aload_n 0, 1, 142, 0), (142, .getfield 66, 3, 145, 0), (145, .iload 4, 2, 147, 0), (147, .iaload, 1, 148, 0), (148, .goto 4, 3, 151, 152), (151, .iconst (-1), 1, 152, 1), (152, .ireturn, 1, 153, 0), (153, .iinc 7 1, 3, 156, 1), (156, .goto (-47), 3, 159, 109), (159, .iconst (-1), 1, 160, 1), (160, .ireturn, 1, 161, 0)]
theorem dk_M_order : sn_tabOk prog_12_method_62_code tb_M_order := by unfold sn_tabOk; decide +kernel
def md_M_layOrder : sn_Md := (⟨"SureNoesModel", "layOrder", "(II)V"⟩, prog_12_method_60_code, 9, (Option.none : Option FieldType))
def tb_M_layOrder : sn_Tb := [(0, .iload_n 1, 1, 1, 0), (1, .istore_n 3, 1, 2, 0), (2, .iconst 1, 1, 3, 1), (3, .istore 4, 2, 5, 0), (5, .iconst 2, 1, 6, 2), (6, .istore 5, 2, 8, 0), (8, .iload 5, 2, 10, 0), (10, .iload_n 2, 1, 11, 0), (11, .if_icmp .ge 16, 3, 14, 27), (14, .iload 4, 2, 16, 0), (16, .iload 5, 2, 18, 0), (18, .imul, 1, 19, 0), (19, .istore 4, 2, 21, 0), (21, .iinc 5 1, 3, 24, 1), (24, .goto (-16), 3, 27, 8), (27, .iconst 0, 1, 28, 0), (28, .istore 5, 2, 30, 0), (30, .iconst 0, 1, 31, 0), (31, .istore 6, 2, 33, 0), (33, .iload 6, 2, 35, 0), (35, .iload_n 2, 1, 36, 0), (36, .if_icmp .ge 113, 3, 39, 149), (39, .iload_n 3, 1, 40, 0), (40, .iload 4, 2, 42, 0), (42, .idiv, 1, 43, 0), (43, .istore 7, 2, 45, 0), (45, .iload_n 3, 1, 46, 0), (46, .iload 4, 2, 48, 0), (48, .irem, 1, 49, 0), (49, .istore_n 3, 1, 50, 0), (50, .iload 4, 2, 52, 0), (52, .iload_n 2, 1, 53, 0), (53, .iconst 1, 1, 54, 1), (54, .isub, 1, 55, 0), (55, .iload 6, 2, 57, 0), (57, .isub, 1, 58, 0), (58, .ifCond .le 12, 3, 61, 70), (61, .iload_n 2, 1, 62, 0), (62, .iconst 1, 1, 63, 1), (63, .isub, 1, 64, 0), (64, .iload 6, 2, 66, 0), (66, .isub, 1, 67, 0), (67, .goto 4, 3, 70, 71), (70, .iconst 1, 1, 71, 1), (71, .idiv, 1, 72, 0), (72, .istore 4, 2, 74, 0), (74, .iconst 0, 1, 75, 0), (75, .istore 8, 2, 77, 0), (77, .iload 5, 2, 79, 0), (79, .iload 8, 2, 81, 0), (81, .ishr, 1, 82, 0), (82, .iconst 1, 1, 83, 1), (83, .iand, 1, 84, 0), (84, .iconst 1, 1, 85, 1), (85, .if_icmp .eq 8, 3, 88, 93), (88, .iload 7, 2, 90, 0), (90, .ifCond .le 30, 3, 93, 120), (93, .iload 7, 2, 95, 0), (95, .iload 5, 2, 97, 0), (97, .iload 8, 2, 99, 0), (99, .ishr, 1, 100, 0), (100, .iconst 1, 1, 101, 1), (101, .iand, 1, 102, 0), (102, .iconst 1, 1, 103, 1), (103, .if_icmp .ne 7, 3, 106, 110), (106, .iconst 0, 1, 107, 0), (107, .goto 4, 3, 110, 111), (110, .iconst 1, 1, 111, 1), (111, .isub, 1, 112, 0), (112, .istore 7, 2, 114, 0), (114, .iinc 8 1, 3, 117, 1), (117, .goto (-40), 3, 120, 77), (120, .iload 5, 2, 122, 0), (122, .iconst 1, 1, 123, 1), (123, .iload 8, 2, 125, 0), (125, .ishl, 1, 126, 0), (126, .ior, 1, 127, 0), (127, .istore 5, 2, 129, 0), (129, .aload_n 0, 1, 130, 0), (130, .getfield 66, 3, 133, 0), (133, .iload 6, 2, 135, 0), (135, .aload_n 0, 1, 136, 0), (136, .getfield 63, 3, 139, 0), (139, .iload 8, 2, 141, 0), (141, .iaload, 1, 142, 0), (142, .iastore, 1, 143, 0), (143, .iinc 6 1, 3, 146, 1), (146, .goto (-113), 3, 149, 33), (149, .return_, 1, 150, 0)]
theorem dk_M_layOrder : sn_tabOk prog_12_method_60_code tb_M_layOrder := by unfold sn_tabOk; decide +kernel
def md_M_goes : sn_Md := (⟨"SureNoesModel", "goes", "(II)Z"⟩, prog_12_method_61_code, 5, (Option.some FieldType.boolean))
def tb_M_goes : sn_Tb := [(0, .iconst 0, 1, 1, 0), (1, .istore_n 3, 1, 2, 0), (2, .iload_n 3, 1, 3, 0), (3, .bipush 32, 2, 5, 32), (5, .if_icmp .ge 38, 3, 8, 43), (8, .aload_n 0, 1, 9, 0), (9, .getfield 69, 3, 12, 0), (12, .iload_n 3, 1, 13, 0), (13, .aload_n 0, 1, 14, 0), (14, .getfield 25, 3, 17, 0), (17, .bipush 32, 2, 19, 32), (19, .iload_n 1, 1, 20, 0), (20, .imul, 1, 21, 0), (21, .iload_n 3, 1, 22, 0), (22, .iadd, 1, 23, 0), (23, .iaload, 1, 24, 0), (24, .iastore, 1, 25, 0), (25, .aload_n 0, 1, 26, 0), (26, .getfield 25, 3, 29, 0), (29, .bipush 32, 2, 31, 32), (31, .iload_n 1, 1, 32, 0), (32, .imul, 1, 33, 0), (33, .iload_n 3, 1, 34, 0), (34, .iadd, 1, 35, 0), (35, .iconst 0, 1, 36, 0), (36, .iastore, 1, 37, 0), (37, .iinc 3 1, 3, 40, 1), (40, .goto (-38), 3, 43, 2), (43, .iconst 1, 1, 44, 1), (44, .istore_n 3, 1, 45, 0), (45, .iconst 0, 1, 46, 0), (46, .istore 4, 2, 48, 0), (48, .iload 4, 2, 50, 0), (50, .iload_n 2, 1, 51, 0), (51, .if_icmp .ge 26, 3, 54, 77), (54, .iload_n 3, 1, 55, 0), (55, .ifCond .eq 22, 3, 58, 77), (58, .aload_n 0, 1, 59, 0), (59, .iload_n 1, 1, 60, 0), (60, .aload_n 0, 1, 61, 0), (61, .getfield 66, 3, 64, 0), (64, .iload 4, 2, 66, 0), (66, .iaload, 1, 67, 0), (67, .invokevirtual 185, 3, 70, 0), (70, .istore_n 3, 1, 71, 0), (71, .iinc 4 1, 3, 74, 1), (74, .goto (-26), 3, 77, 48), (77, .iconst 0, 1, 78, 0), (78, .istore 4, 2, 80, 0), (80, .iload 4, 2, 82, 0), (82, .bipush 32, 2, 84, 32), (84, .if_icmp .ge 28, 3, 87, 112), (87, .aload_n 0, 1, 88, 0), (88, .getfield 25, 3, 91, 0), (91, .bipush 32, 2, 93, 32), (93, .iload_n 1, 1, 94, 0), (94, .imul, 1, 95, 0), (95, .iload 4, 2, 97, 0), (97, .iadd, 1, 98, 0), (98, .aload_n 0, 1, 99, 0), (99, .getfield 69, 3, 102, 0), (102, .iload 4, 2, 104, 0), (104, .iaload, 1, 105, 0), (105, .iastore, 1, 106, 0), (106, .iinc 4 1, 3, 109, 1), (109, .goto (-29), 3, 112, 80), (112, .iload_n 3, 1, 113, 0), (113, .ireturn, 1, 114, 0)]
theorem dk_M_goes : sn_tabOk prog_12_method_61_code tb_M_goes := by unfold sn_tabOk; decide +kernel
def md_M_most : sn_Md := (⟨"SureNoesModel", "most", "(IJ)I"⟩, prog_12_method_64_code, 9, (Option.some FieldType.int))
def tb_M_most : sn_Tb := [(0, .aload_n 0, 1, 1, 0), (1, .iload_n 1, 1, 2, 0), (2, .invokevirtual 131, 3, 5, 0), (5, .ifCond .ne 6, 3, 8, 11), (8, .bipush (-101), 2, 10, 101), (10, .ireturn, 1, 11, 0), (11, .lload_n 2, 1, 12, 0), (12, .invokestatic 108, 3, 15, 0), (15, .ifCond .ne 6, 3, 18, 21), (18, .bipush (-102), 2, 20, 102), (20, .ireturn, 1, 21, 0), (21, .aload_n 0, 1, 22, 0), (22, .getfield 16, 3, 25, 0), (25, .iload_n 1, 1, 26, 0), (26, .iaload, 1, 27, 0), (27, .iconst 3, 1, 28, 3), (28, .if_icmp .eq 6, 3, 31, 34), (31, .bipush (-103), 2, 33, 103), (33, .ireturn, 1, 34, 0), (34, .iconst 0, 1, 35, 0), (35, .istore 4, 2, 37, 0), (37, .iload 4, 2, 39, 0), (39, .bipush 32, 2, 41, 32), (41, .if_icmp .ge 18, 3, 44, 59), (44, .aload_n 0, 1, 45, 0), (45, .getfield 72, 3, 48, 0), (48, .iload 4, 2, 50, 0), (50, .iload 4, 2, 52, 0), (52, .iastore, 1, 53, 0), (53, .iinc 4 1, 3, 56, 1), (56, .goto (-19), 3, 59, 37), (59, .iconst 0, 1, 60, 0), (60, .istore 4, 2, 62, 0), (62, .iload 4, 2, 64, 0), (64, .bipush 32, 2, 66, 32), (66, .if_icmp .ge 56, 3, 69, 122), (69, .lload_n 2, 1, 70, 0), (70, .iload 4, 2, 72, 0), (72, .invokestatic 100, 3, 75, 0), (75, .ifCond .eq 41, 3, 78, 116), (78, .aload_n 0, 1, 79, 0), (79, .iload_n 1, 1, 80, 0), (80, .iload 4, 2, 82, 0), (82, .invokevirtual 153, 3, 85, 0), (85, .istore 5, 2, 87, 0), (87, .aload_n 0, 1, 88, 0), (88, .getfield 72, 3, 91, 0), (91, .aload_n 0, 1, 92, 0), (92, .iload 5, 2, 94, 0), (94, .invokevirtual 250, 3, 97, 0), (97, .aload_n 0, 1, 98, 0), (98, .aload_n 0, 1, 99, 0), (99, .iload_n 1, 1, 100, 0), (100, .iload 5, 2, 102, 0), (102, .aload_n 0, 1, 103, 0), (103, .iload_n 1, 1, 104, 0), (104, .iload 4, 2, 106, 0), (106, .invokevirtual 156, 3, 109, 0), (109, .invokevirtual 159, 3, 112, 0), (112, .invokevirtual 250, 3, 115, 0), (115, .iastore, 1, 116, 0), (116, .iinc 4 1, 3, 119, 1), (119, .goto (-57), 3, 122, 62), (122, .iconst 0, 1, 123, 0), (123, .istore 4, 2, 125, 0), (125, .iconst 0, 1, 126, 0), (126, .istore 5, 2, 128, 0), (128, .iload 5, 2, 130, 0), (130, .aload_n 0, 1, 131, 0), (131, .getfield 19, 3, 134, 0), (134, .iload_n 1, 1, 135, 0), (135, .iaload, 1, 136, 0), (136, .if_icmp .ge 138, 3, 139, 274), (139, .iconst 0, 1, 140, 0), (140, .istore 6, 2, 142, 0), (142, .iconst 0, 1, 143, 0), (143, .istore 7, 2, 145, 0), (145, .iconst 0, 1, 146, 0), (146, .istore 8, 2, 148, 0), (148, .iload 8, 2, 150, 0), (150, .aload_n 0, 1, 151, 0), (151, .getfield 19, 3, 154, 0), (154, .iload_n 1, 1, 155, 0), (155, .iaload, 1, 156, 0), (156, .if_icmp .ge 42, 3, 159, 198), (159, .iload 6, 2, 161, 0), (161, .aload_n 0, 1, 162, 0), (162, .getfield 72, 3, 165, 0), (165, .iload 5, 2, 167, 0), (167, .iaload, 1, 168, 0), (168, .iload 5, 2, 170, 0), (170, .if_icmp .ne 18, 3, 173, 188), (173, .aload_n 0, 1, 174, 0), (174, .iload 8, 2, 176, 0), (176, .invokevirtual 250, 3, 179, 0), (179, .iload 5, 2, 181, 0), (181, .if_icmp .ne 7, 3, 184, 188), (184, .iconst 1, 1, 185, 1), (185, .goto 4, 3, 188, 189), (188, .iconst 0, 1, 189, 0), (189, .iadd, 1, 190, 0), (190, .istore 6, 2, 192, 0), (192, .iinc 8 1, 3, 195, 1), (195, .goto (-47), 3, 198, 148), (198, .iconst 0, 1, 199, 0), (199, .istore 8, 2, 201, 0), (201, .iload 8, 2, 203, 0), (203, .bipush 32, 2, 205, 32), (205, .if_icmp .ge 44, 3, 208, 249), (208, .iload 7, 2, 210, 0), (210, .lload_n 2, 1, 211, 0), (211, .iload 8, 2, 213, 0), (213, .invokestatic 100, 3, 216, 0), (216, .ifCond .eq 23, 3, 219, 239), (219, .aload_n 0, 1, 220, 0), (220, .aload_n 0, 1, 221, 0), (221, .iload_n 1, 1, 222, 0), (222, .iload 8, 2, 224, 0), (224, .invokevirtual 153, 3, 227, 0), (227, .invokevirtual 250, 3, 230, 0), (230, .iload 5, 2, 232, 0), (232, .if_icmp .ne 7, 3, 235, 239), (235, .iconst 1, 1, 236, 1), (236, .goto 4, 3, 239, 240), (239, .iconst 0, 1, 240, 0), (240, .iadd, 1, 241, 0), (241, .istore 7, 2, 243, 0), (243, .iinc 8 1, 3, 246, 1), (246, .goto (-45), 3, 249, 201), (249, .iload 4, 2, 251, 0), (251, .iload 7, 2, 253, 0), (253, .iload 6, 2, 255, 0), (255, .if_icmp .ge 8, 3, 258, 263), (258, .iload 7, 2, 260, 0), (260, .goto 5, 3, 263, 265), (263, .iload 6, 2, 265, 0), (265, .iadd, 1, 266, 0), (266, .istore 4, 2, 268, 0), (268, .iinc 5 1, 3, 271, 1), (271, .goto (-143), 3, 274, 128), (274, .iload 4, 2, 276, 0), (276, .ireturn, 1, 277, 0)]
theorem dk_M_most : sn_tabOk prog_12_method_64_code tb_M_most := by unfold sn_tabOk; decide +kernel
def md_M_head : sn_Md := (⟨"SureNoesModel", "head", "(I)I"⟩, prog_12_method_63_code, 3, (Option.some FieldType.int))
def tb_M_head : sn_Tb := [(0, .iload_n 1, 1, 1, 0), (1, .istore_n 2, 1, 2, 0), (2, .aload_n 0, 1, 3, 0), (3, .getfield 72, 3, 6, 0), (6, .iload_n 2, 1, 7, 0), (7, .iaload, 1, 8, 0), (8, .iload_n 2, 1, 9, 0), (9, .if_icmp .eq 13, 3, 12, 22), (12, .aload_n 0, 1, 13, 0), (13, .getfield 72, 3, 16, 0), (16, .iload_n 2, 1, 17, 0), (17, .iaload, 1, 18, 0), (18, .istore_n 2, 1, 19, 0), (19, .goto (-17), 3, 22, 2), (22, .iload_n 2, 1, 23, 0), (23, .ireturn, 1, 24, 0)]
theorem dk_M_head : sn_tabOk prog_12_method_63_code tb_M_head := by unfold sn_tabOk; decide +kernel
def md_M_count : sn_Md := (⟨"SureNoesModel", "count", "(I)I"⟩, prog_12_method_66_code, 2, (Option.some FieldType.int))
def tb_M_count : sn_Tb := [(0, .aload_n 0, 1, 1, 0), (1, .iload_n 1, 1, 2, 0), (2, .invokevirtual 253, 3, 5, 0), (5, .ireturn, 1, 6, 0)]
theorem dk_M_count : sn_tabOk prog_12_method_66_code tb_M_count := by unfold sn_tabOk; decide +kernel
def md_M_howMany : sn_Md := (⟨"SureNoesModel", "howMany", "(I)I"⟩, prog_12_method_65_code, 7, (Option.some FieldType.int))
def tb_M_howMany : sn_Tb := [(0, .lconst 0, 1, 1, 0), (1, .lstore_n 2, 1, 2, 0), (2, .aload_n 0, 1, 3, 0), (3, .getfield 120, 3, 6, 0), (6, .ifCond .ne 7, 3, 9, 13), (9, .lconst 0, 1, 10, 0), (10, .goto 6, 3, 13, 16), (13, .ldc2_w 81, 3, 16, 0), (16, .lstore 4, 2, 18, 0), (18, .iconst 0, 1, 19, 0), (19, .istore 6, 2, 21, 0), (21, .iload 6, 2, 23, 0), (23, .aload_n 0, 1, 24, 0), (24, .getfield 120, 3, 27, 0), (27, .if_icmp .ge 29, 3, 30, 56), (30, .lload_n 2, 1, 31, 0), (31, .aload_n 0, 1, 32, 0), (32, .iload 6, 2, 34, 0), (34, .invokevirtual 138, 3, 37, 0), (37, .lor, 1, 38, 0), (38, .lstore_n 2, 1, 39, 0), (39, .lload 4, 2, 41, 0), (41, .aload_n 0, 1, 42, 0), (42, .iload 6, 2, 44, 0), (44, .invokevirtual 207, 3, 47, 0), (47, .land, 1, 48, 0), (48, .lstore 4, 2, 50, 0), (50, .iinc 6 1, 3, 53, 1), (53, .goto (-32), 3, 56, 21), (56, .iload_n 1, 1, 57, 0), (57, .ifCond .ne 10, 3, 60, 67), (60, .aload_n 0, 1, 61, 0), (61, .getfield 83, 3, 64, 0), (64, .goto 42, 3, 67, 106), (67, .iload_n 1, 1, 68, 0), (68, .iconst 1, 1, 69, 1), (69, .if_icmp .ne 10, 3, 72, 79), (72, .aload_n 0, 1, 73, 0), (73, .getfield 120, 3, 76, 0), (76, .goto 30, 3, 79, 106), (79, .iload_n 1, 1, 80, 0), (80, .iconst 2, 1, 81, 2), (81, .if_icmp .ne 10, 3, 84, 91), (84, .lload_n 2, 1, 85, 0), (85, .invokestatic 127, 3, 88, 0), (88, .goto 18, 3, 91, 106), (91, .iload_n 1, 1, 92, 0), (92, .iconst 3, 1, 93, 3), (93, .if_icmp .ne 11, 3, 96, 104), (96, .lload 4, 2, 98, 0), (98, .invokestatic 127, 3, 101, 0), (101, .goto 5, 3, 104, 106), (104, .bipush (-102), 2, 106, 102), (106, .ireturn, 1, 107, 0)]
theorem dk_M_howMany : sn_tabOk prog_12_method_65_code tb_M_howMany := by unfold sn_tabOk; decide +kernel
def md_M_digest : sn_Md := (⟨"SureNoesModel", "digest", "()J"⟩, prog_12_method_68_code, 3, (Option.some FieldType.long))
def tb_M_digest : sn_Tb := [(0, .aload_n 0, 1, 1, 0), (1, .ldc2_w 260, 3, 4, 0), (4, .putfield 256, 3, 7, 0), (7, .iconst 0, 1, 8, 0), (8, .istore_n 1, 1, 9, 0), (9, .iload_n 1, 1, 10, 0), (10, .aload_n 0, 1, 11, 0), (11, .getfield 83, 3, 14, 0), (14, .if_icmp .ge 34, 3, 17, 48), (17, .iconst 0, 1, 18, 0), (18, .istore_n 2, 1, 19, 0), (19, .iload_n 2, 1, 20, 0), (20, .bipush 32, 2, 22, 32), (22, .if_icmp .ge 20, 3, 25, 42), (25, .aload_n 0, 1, 26, 0), (26, .aload_n 0, 1, 27, 0), (27, .iload_n 1, 1, 28, 0), (28, .iload_n 2, 1, 29, 0), (29, .invokevirtual 96, 3, 32, 0), (32, .i2l, 1, 33, 0), (33, .invokevirtual 262, 3, 36, 0), (36, .iinc 2 1, 3, 39, 1), (39, .goto (-20), 3, 42, 19), (42, .iinc 1 1, 3, 45, 1), (45, .goto (-36), 3, 48, 9), (48, .iconst 0, 1, 49, 0), (49, .istore_n 1, 1, 50, 0), (50, .iload_n 1, 1, 51, 0), (51, .aload_n 0, 1, 52, 0), (52, .getfield 120, 3, 55, 0), (55, .if_icmp .ge 124, 3, 58, 179), (58, .iconst 0, 1, 59, 0), (59, .istore_n 2, 1, 60, 0), (60, .iload_n 2, 1, 61, 0), (61, .bipush 6, 2, 63, 6), (63, .if_icmp .ge 20, 3, 66, 83), (66, .aload_n 0, 1, 67, 0), (67, .aload_n 0, 1, 68, 0), (68, .iload_n 1, 1, 69, 0), (69, .iload_n 2, 1, 70, 0), (70, .invokevirtual 142, 3, 73, 0), (73, .i2l, 1, 74, 0), (74, .invokevirtual 262, 3, 77, 0), (77, .iinc 2 1, 3, 80, 1), (80, .goto (-20), 3, 83, 60), (83, .iconst 0, 1, 84, 0), (84, .istore_n 2, 1, 85, 0), (85, .iload_n 2, 1, 86, 0), (86, .aload_n 0, 1, 87, 0), (87, .getfield 19, 3, 90, 0), (90, .iload_n 1, 1, 91, 0), (91, .iaload, 1, 92, 0), (92, .if_icmp .ge 25, 3, 95, 117), (95, .aload_n 0, 1, 96, 0), (96, .aload_n 0, 1, 97, 0), (97, .getfield 25, 3, 100, 0), (100, .bipush 32, 2, 102, 32), (102, .iload_n 1, 1, 103, 0), (103, .imul, 1, 104, 0), (104, .iload_n 2, 1, 105, 0), (105, .iadd, 1, 106, 0), (106, .iaload, 1, 107, 0), (107, .i2l, 1, 108, 0), (108, .invokevirtual 262, 3, 111, 0), (111, .iinc 2 1, 3, 114, 1), (114, .goto (-29), 3, 117, 85), (117, .iconst 0, 1, 118, 0), (118, .istore_n 2, 1, 119, 0), (119, .iload_n 2, 1, 120, 0), (120, .aload_n 0, 1, 121, 0), (121, .getfield 31, 3, 124, 0), (124, .iload_n 1, 1, 125, 0), (125, .iaload, 1, 126, 0), (126, .if_icmp .ge 24, 3, 129, 150), (129, .aload_n 0, 1, 130, 0), (130, .aload_n 0, 1, 131, 0), (131, .getfield 34, 3, 134, 0), (134, .bipush 6, 2, 136, 6), (136, .iload_n 1, 1, 137, 0), (137, .imul, 1, 138, 0), (138, .iload_n 2, 1, 139, 0), (139, .iadd, 1, 140, 0), (140, .laload, 1, 141, 0), (141, .invokevirtual 262, 3, 144, 0), (144, .iinc 2 1, 3, 147, 1), (147, .goto (-28), 3, 150, 119), (150, .iconst 0, 1, 151, 0), (151, .istore_n 2, 1, 152, 0), (152, .iload_n 2, 1, 153, 0), (153, .iconst 4, 1, 154, 4), (154, .if_icmp .ge 19, 3, 157, 173), (157, .aload_n 0, 1, 158, 0), (158, .aload_n 0, 1, 159, 0), (159, .iload_n 1, 1, 160, 0), (160, .iload_n 2, 1, 161, 0), (161, .invokevirtual 210, 3, 164, 0), (164, .invokevirtual 262, 3, 167, 0), (167, .iinc 2 1, 3, 170, 1), (170, .goto (-18), 3, 173, 152), (173, .iinc 1 1, 3, 176, 1), (176, .goto (-126), 3, 179, 50), (179, .iconst 0, 1, 180, 0), (180, .istore_n 1, 1, 181, 0), (181, .iload_n 1, 1, 182, 0), (182, .iconst 4, 1, 183, 4), (183, .if_icmp .ge 19, 3, 186, 202), (186, .aload_n 0, 1, 187, 0), (187, .aload_n 0, 1, 188, 0), (188, .iload_n 1, 1, 189, 0), (189, .invokevirtual 253, 3, 192, 0), (192, .i2l, 1, 193, 0), (193, .invokevirtual 262, 3, 196, 0), (196, .iinc 1 1, 3, 199, 1), (199, .goto (-18), 3, 202, 181), (202, .aload_n 0, 1, 203, 0), (203, .getfield 256, 3, 206, 0), (206, .lreturn, 1, 207, 0)]
theorem dk_M_digest : sn_tabOk prog_12_method_68_code tb_M_digest := by unfold sn_tabOk; decide +kernel
def md_M_mix : sn_Md := (⟨"SureNoesModel", "mix", "(J)V"⟩, prog_12_method_67_code, 3, (Option.none : Option FieldType))
def tb_M_mix : sn_Tb := [(0, .aload_n 0, 1, 1, 0), (1, .ldc2_w 75, 3, 4, 0), (4, .aload_n 0, 1, 5, 0), (5, .getfield 256, 3, 8, 0), (8, .lmul, 1, 9, 0), (9, .lload_n 1, 1, 10, 0), (10, .ladd, 1, 11, 0), (11, .putfield 256, 3, 14, 0), (14, .return_, 1, 15, 0)]
theorem dk_M_mix : sn_tabOk prog_12_method_67_code tb_M_mix := by unfold sn_tabOk; decide +kernel
def tl_0 : sn_Tb := [(0, .new 7, 3, 3, 0), (3, .dup, 1, 4, 0), (4, .invokespecial 9, 3, 7, 0), (7, .astore_n 1, 1, 8, 0), (8, .new 10, 3, 11, 0), (11, .dup, 1, 12, 0), (12, .invokespecial 12, 3, 15, 0), (15, .astore_n 2, 1, 16, 0), (16, .iconst 0, 1, 17, 0), (17, .istore_n 3, 1, 18, 0), (18, .iload_n 3, 1, 19, 0), (19, .aload_n 0, 1, 20, 0), (20, .arraylength, 1, 21, 0), (21, .bipush 6, 2, 23, 6), (23, .isub, 1, 24, 0), (24, .if_icmp .gt 1190, 3, 27, 1214), (27, .aload_n 0, 1, 28, 0), (28, .iload_n 3, 1, 29, 0), (29, .iaload, 1, 30, 0), (30, .bipush 31, 2, 32, 31), (32, .iand, 1, 33, 0), (33, .tableswitch 1175 0 23 #[111, 144, 177, 260, 333, 406, 449, 482, 515, 548, 582, 616, 649, 682, 785, 818, 852, 911, 934, 968, 1002, 1075, 1138, 1161], 111, 144, 0), (144, .aload_n 1, 1, 145, 0), (145, .aload_n 0, 1, 146, 0), (146, .iload_n 3, 1, 147, 0), (147, .iconst 1, 1, 148, 1), (148, .iadd, 1, 149, 0), (149, .iaload, 1, 150, 0), (150, .aload_n 0, 1, 151, 0), (151, .iload_n 3, 1, 152, 0), (152, .iconst 2, 1, 153, 2), (153, .iadd, 1, 154, 0), (154, .iaload, 1, 155, 0), (155, .invokevirtual 13, 3, 158, 0), (158, .aload_n 2, 1, 159, 0), (159, .aload_n 0, 1, 160, 0), (160, .iload_n 3, 1, 161, 0), (161, .iconst 1, 1, 162, 1), (162, .iadd, 1, 163, 0), (163, .iaload, 1, 164, 0), (164, .aload_n 0, 1, 165, 0), (165, .iload_n 3, 1, 166, 0), (166, .iconst 2, 1, 167, 2), (167, .iadd, 1, 168, 0), (168, .iaload, 1, 169, 0), (169, .invokevirtual 17, 3, 172, 0), (172, .if_icmp .eq 1036, 3, 175, 1208), (175, .iconst 0, 1, 176, 0), (176, .ireturn, 1, 177, 0), (177, .aload_n 1, 1, 178, 0)]
theorem dl_0 : sn_tabOk code tl_0 := by unfold sn_tabOk; decide +kernel
def tl_1 : sn_Tb := [(178, .aload_n 0, 1, 179, 0), (179, .iload_n 3, 1, 180, 0), (180, .iconst 1, 1, 181, 1), (181, .iadd, 1, 182, 0), (182, .iaload, 1, 183, 0), (183, .aload_n 0, 1, 184, 0), (184, .iload_n 3, 1, 185, 0), (185, .iconst 2, 1, 186, 2), (186, .iadd, 1, 187, 0), (187, .iaload, 1, 188, 0), (188, .invokevirtual 18, 3, 191, 0), (191, .aload_n 2, 1, 192, 0), (192, .aload_n 0, 1, 193, 0), (193, .iload_n 3, 1, 194, 0), (194, .iconst 1, 1, 195, 1), (195, .iadd, 1, 196, 0), (196, .iaload, 1, 197, 0), (197, .aload_n 0, 1, 198, 0), (198, .iload_n 3, 1, 199, 0), (199, .iconst 2, 1, 200, 2), (200, .iadd, 1, 201, 0), (201, .iaload, 1, 202, 0), (202, .invokevirtual 21, 3, 205, 0), (205, .if_icmp .eq 1003, 3, 208, 1208), (208, .iconst 0, 1, 209, 0), (209, .ireturn, 1, 210, 0), (210, .aload_n 1, 1, 211, 0), (211, .aload_n 0, 1, 212, 0), (212, .iload_n 3, 1, 213, 0), (213, .iconst 1, 1, 214, 1), (214, .iadd, 1, 215, 0), (215, .iaload, 1, 216, 0), (216, .i2l, 1, 217, 0), (217, .bipush 32, 2, 219, 32), (219, .lshl, 1, 220, 0), (220, .aload_n 0, 1, 221, 0), (221, .iload_n 3, 1, 222, 0), (222, .iconst 2, 1, 223, 2), (223, .iadd, 1, 224, 0), (224, .iaload, 1, 225, 0), (225, .i2l, 1, 226, 0), (226, .ldc2_w 22, 3, 229, 0), (229, .land, 1, 230, 0), (230, .lor, 1, 231, 0), (231, .aload_n 0, 1, 232, 0), (232, .iload_n 3, 1, 233, 0), (233, .iconst 3, 1, 234, 3), (234, .iadd, 1, 235, 0), (235, .iaload, 1, 236, 0), (236, .aload_n 0, 1, 237, 0)]
theorem dl_1 : sn_tabOk code tl_1 := by unfold sn_tabOk; decide +kernel
def tl_2 : sn_Tb := [(237, .iload_n 3, 1, 238, 0), (238, .iconst 4, 1, 239, 4), (239, .iadd, 1, 240, 0), (240, .iaload, 1, 241, 0), (241, .aload_n 0, 1, 242, 0), (242, .iload_n 3, 1, 243, 0), (243, .iconst 5, 1, 244, 5), (244, .iadd, 1, 245, 0), (245, .iaload, 1, 246, 0), (246, .invokevirtual 24, 3, 249, 0), (249, .aload_n 2, 1, 250, 0), (250, .aload_n 0, 1, 251, 0), (251, .iload_n 3, 1, 252, 0), (252, .iconst 1, 1, 253, 1), (253, .iadd, 1, 254, 0), (254, .iaload, 1, 255, 0), (255, .i2l, 1, 256, 0), (256, .bipush 32, 2, 258, 32), (258, .lshl, 1, 259, 0), (259, .aload_n 0, 1, 260, 0), (260, .iload_n 3, 1, 261, 0), (261, .iconst 2, 1, 262, 2), (262, .iadd, 1, 263, 0), (263, .iaload, 1, 264, 0), (264, .i2l, 1, 265, 0), (265, .ldc2_w 22, 3, 268, 0), (268, .land, 1, 269, 0), (269, .lor, 1, 270, 0), (270, .aload_n 0, 1, 271, 0), (271, .iload_n 3, 1, 272, 0), (272, .iconst 3, 1, 273, 3), (273, .iadd, 1, 274, 0), (274, .iaload, 1, 275, 0), (275, .aload_n 0, 1, 276, 0), (276, .iload_n 3, 1, 277, 0), (277, .iconst 4, 1, 278, 4), (278, .iadd, 1, 279, 0), (279, .iaload, 1, 280, 0), (280, .aload_n 0, 1, 281, 0), (281, .iload_n 3, 1, 282, 0), (282, .iconst 5, 1, 283, 5), (283, .iadd, 1, 284, 0), (284, .iaload, 1, 285, 0), (285, .invokevirtual 28, 3, 288, 0), (288, .if_icmp .eq 920, 3, 291, 1208), (291, .iconst 0, 1, 292, 0), (292, .ireturn, 1, 293, 0), (293, .aload_n 1, 1, 294, 0), (294, .aload_n 0, 1, 295, 0), (295, .iload_n 3, 1, 296, 0)]
theorem dl_2 : sn_tabOk code tl_2 := by unfold sn_tabOk; decide +kernel
def tl_3 : sn_Tb := [(296, .iconst 1, 1, 297, 1), (297, .iadd, 1, 298, 0), (298, .iaload, 1, 299, 0), (299, .i2l, 1, 300, 0), (300, .bipush 32, 2, 302, 32), (302, .lshl, 1, 303, 0), (303, .aload_n 0, 1, 304, 0), (304, .iload_n 3, 1, 305, 0), (305, .iconst 2, 1, 306, 2), (306, .iadd, 1, 307, 0), (307, .iaload, 1, 308, 0), (308, .i2l, 1, 309, 0), (309, .ldc2_w 22, 3, 312, 0), (312, .land, 1, 313, 0), (313, .lor, 1, 314, 0), (314, .aload_n 0, 1, 315, 0), (315, .iload_n 3, 1, 316, 0), (316, .iconst 3, 1, 317, 3), (317, .iadd, 1, 318, 0), (318, .iaload, 1, 319, 0), (319, .aload_n 0, 1, 320, 0), (320, .iload_n 3, 1, 321, 0), (321, .iconst 4, 1, 322, 4), (322, .iadd, 1, 323, 0), (323, .iaload, 1, 324, 0), (324, .invokevirtual 29, 3, 327, 0), (327, .aload_n 2, 1, 328, 0), (328, .aload_n 0, 1, 329, 0), (329, .iload_n 3, 1, 330, 0), (330, .iconst 1, 1, 331, 1), (331, .iadd, 1, 332, 0), (332, .iaload, 1, 333, 0), (333, .i2l, 1, 334, 0), (334, .bipush 32, 2, 336, 32), (336, .lshl, 1, 337, 0), (337, .aload_n 0, 1, 338, 0), (338, .iload_n 3, 1, 339, 0), (339, .iconst 2, 1, 340, 2), (340, .iadd, 1, 341, 0), (341, .iaload, 1, 342, 0), (342, .i2l, 1, 343, 0), (343, .ldc2_w 22, 3, 346, 0), (346, .land, 1, 347, 0), (347, .lor, 1, 348, 0), (348, .aload_n 0, 1, 349, 0), (349, .iload_n 3, 1, 350, 0), (350, .iconst 3, 1, 351, 3), (351, .iadd, 1, 352, 0), (352, .iaload, 1, 353, 0), (353, .aload_n 0, 1, 354, 0)]
theorem dl_3 : sn_tabOk code tl_3 := by unfold sn_tabOk; decide +kernel
def tl_4 : sn_Tb := [(354, .iload_n 3, 1, 355, 0), (355, .iconst 4, 1, 356, 4), (356, .iadd, 1, 357, 0), (357, .iaload, 1, 358, 0), (358, .invokevirtual 33, 3, 361, 0), (361, .if_icmp .eq 847, 3, 364, 1208), (364, .iconst 0, 1, 365, 0), (365, .ireturn, 1, 366, 0), (366, .aload_n 1, 1, 367, 0), (367, .aload_n 0, 1, 368, 0), (368, .iload_n 3, 1, 369, 0), (369, .iconst 1, 1, 370, 1), (370, .iadd, 1, 371, 0), (371, .iaload, 1, 372, 0), (372, .i2l, 1, 373, 0), (373, .bipush 32, 2, 375, 32), (375, .lshl, 1, 376, 0), (376, .aload_n 0, 1, 377, 0), (377, .iload_n 3, 1, 378, 0), (378, .iconst 2, 1, 379, 2), (379, .iadd, 1, 380, 0), (380, .iaload, 1, 381, 0), (381, .i2l, 1, 382, 0), (382, .ldc2_w 22, 3, 385, 0), (385, .land, 1, 386, 0), (386, .lor, 1, 387, 0), (387, .aload_n 0, 1, 388, 0), (388, .iload_n 3, 1, 389, 0), (389, .iconst 3, 1, 390, 3), (390, .iadd, 1, 391, 0), (391, .iaload, 1, 392, 0), (392, .aload_n 0, 1, 393, 0), (393, .iload_n 3, 1, 394, 0), (394, .iconst 4, 1, 395, 4), (395, .iadd, 1, 396, 0), (396, .iaload, 1, 397, 0), (397, .invokevirtual 34, 3, 400, 0), (400, .aload_n 2, 1, 401, 0), (401, .aload_n 0, 1, 402, 0), (402, .iload_n 3, 1, 403, 0), (403, .iconst 1, 1, 404, 1), (404, .iadd, 1, 405, 0), (405, .iaload, 1, 406, 0), (406, .i2l, 1, 407, 0), (407, .bipush 32, 2, 409, 32), (409, .lshl, 1, 410, 0), (410, .aload_n 0, 1, 411, 0), (411, .iload_n 3, 1, 412, 0), (412, .iconst 2, 1, 413, 2), (413, .iadd, 1, 414, 0)]
theorem dl_4 : sn_tabOk code tl_4 := by unfold sn_tabOk; decide +kernel
def tl_5 : sn_Tb := [(414, .iaload, 1, 415, 0), (415, .i2l, 1, 416, 0), (416, .ldc2_w 22, 3, 419, 0), (419, .land, 1, 420, 0), (420, .lor, 1, 421, 0), (421, .aload_n 0, 1, 422, 0), (422, .iload_n 3, 1, 423, 0), (423, .iconst 3, 1, 424, 3), (424, .iadd, 1, 425, 0), (425, .iaload, 1, 426, 0), (426, .aload_n 0, 1, 427, 0), (427, .iload_n 3, 1, 428, 0), (428, .iconst 4, 1, 429, 4), (429, .iadd, 1, 430, 0), (430, .iaload, 1, 431, 0), (431, .invokevirtual 37, 3, 434, 0), (434, .if_icmp .eq 774, 3, 437, 1208), (437, .iconst 0, 1, 438, 0), (438, .ireturn, 1, 439, 0), (439, .aload_n 1, 1, 440, 0), (440, .aload_n 0, 1, 441, 0), (441, .iload_n 3, 1, 442, 0), (442, .iconst 1, 1, 443, 1), (443, .iadd, 1, 444, 0), (444, .iaload, 1, 445, 0), (445, .aload_n 0, 1, 446, 0), (446, .iload_n 3, 1, 447, 0), (447, .iconst 2, 1, 448, 2), (448, .iadd, 1, 449, 0), (449, .iaload, 1, 450, 0), (450, .aload_n 0, 1, 451, 0), (451, .iload_n 3, 1, 452, 0), (452, .iconst 3, 1, 453, 3), (453, .iadd, 1, 454, 0), (454, .iaload, 1, 455, 0), (455, .invokevirtual 38, 3, 458, 0), (458, .aload_n 2, 1, 459, 0), (459, .aload_n 0, 1, 460, 0), (460, .iload_n 3, 1, 461, 0), (461, .iconst 1, 1, 462, 1), (462, .iadd, 1, 463, 0), (463, .iaload, 1, 464, 0), (464, .aload_n 0, 1, 465, 0), (465, .iload_n 3, 1, 466, 0), (466, .iconst 2, 1, 467, 2), (467, .iadd, 1, 468, 0), (468, .iaload, 1, 469, 0), (469, .aload_n 0, 1, 470, 0), (470, .iload_n 3, 1, 471, 0), (471, .iconst 3, 1, 472, 3)]
theorem dl_5 : sn_tabOk code tl_5 := by unfold sn_tabOk; decide +kernel
def tl_6 : sn_Tb := [(472, .iadd, 1, 473, 0), (473, .iaload, 1, 474, 0), (474, .invokevirtual 42, 3, 477, 0), (477, .if_icmp .eq 731, 3, 480, 1208), (480, .iconst 0, 1, 481, 0), (481, .ireturn, 1, 482, 0), (482, .aload_n 1, 1, 483, 0), (483, .aload_n 0, 1, 484, 0), (484, .iload_n 3, 1, 485, 0), (485, .iconst 1, 1, 486, 1), (486, .iadd, 1, 487, 0), (487, .iaload, 1, 488, 0), (488, .aload_n 0, 1, 489, 0), (489, .iload_n 3, 1, 490, 0), (490, .iconst 2, 1, 491, 2), (491, .iadd, 1, 492, 0), (492, .iaload, 1, 493, 0), (493, .invokevirtual 43, 3, 496, 0), (496, .aload_n 2, 1, 497, 0), (497, .aload_n 0, 1, 498, 0), (498, .iload_n 3, 1, 499, 0), (499, .iconst 1, 1, 500, 1), (500, .iadd, 1, 501, 0), (501, .iaload, 1, 502, 0), (502, .aload_n 0, 1, 503, 0), (503, .iload_n 3, 1, 504, 0), (504, .iconst 2, 1, 505, 2), (505, .iadd, 1, 506, 0), (506, .iaload, 1, 507, 0), (507, .invokevirtual 46, 3, 510, 0), (510, .if_icmp .eq 698, 3, 513, 1208), (513, .iconst 0, 1, 514, 0), (514, .ireturn, 1, 515, 0), (515, .aload_n 1, 1, 516, 0), (516, .aload_n 0, 1, 517, 0), (517, .iload_n 3, 1, 518, 0), (518, .iconst 1, 1, 519, 1), (519, .iadd, 1, 520, 0), (520, .iaload, 1, 521, 0), (521, .aload_n 0, 1, 522, 0), (522, .iload_n 3, 1, 523, 0), (523, .iconst 2, 1, 524, 2), (524, .iadd, 1, 525, 0), (525, .iaload, 1, 526, 0), (526, .invokevirtual 47, 3, 529, 0), (529, .aload_n 2, 1, 530, 0), (530, .aload_n 0, 1, 531, 0), (531, .iload_n 3, 1, 532, 0), (532, .iconst 1, 1, 533, 1), (533, .iadd, 1, 534, 0)]
theorem dl_6 : sn_tabOk code tl_6 := by unfold sn_tabOk; decide +kernel
def tl_7 : sn_Tb := [(534, .iaload, 1, 535, 0), (535, .aload_n 0, 1, 536, 0), (536, .iload_n 3, 1, 537, 0), (537, .iconst 2, 1, 538, 2), (538, .iadd, 1, 539, 0), (539, .iaload, 1, 540, 0), (540, .invokevirtual 50, 3, 543, 0), (543, .if_icmp .eq 665, 3, 546, 1208), (546, .iconst 0, 1, 547, 0), (547, .ireturn, 1, 548, 0), (548, .aload_n 1, 1, 549, 0), (549, .aload_n 0, 1, 550, 0), (550, .iload_n 3, 1, 551, 0), (551, .iconst 1, 1, 552, 1), (552, .iadd, 1, 553, 0), (553, .iaload, 1, 554, 0), (554, .aload_n 0, 1, 555, 0), (555, .iload_n 3, 1, 556, 0), (556, .iconst 2, 1, 557, 2), (557, .iadd, 1, 558, 0), (558, .iaload, 1, 559, 0), (559, .invokevirtual 51, 3, 562, 0), (562, .aload_n 2, 1, 563, 0), (563, .aload_n 0, 1, 564, 0), (564, .iload_n 3, 1, 565, 0), (565, .iconst 1, 1, 566, 1), (566, .iadd, 1, 567, 0), (567, .iaload, 1, 568, 0), (568, .aload_n 0, 1, 569, 0), (569, .iload_n 3, 1, 570, 0), (570, .iconst 2, 1, 571, 2), (571, .iadd, 1, 572, 0), (572, .iaload, 1, 573, 0), (573, .invokevirtual 54, 3, 576, 0), (576, .if_icmp .eq 632, 3, 579, 1208), (579, .iconst 0, 1, 580, 0), (580, .ireturn, 1, 581, 0), (581, .aload_n 1, 1, 582, 0), (582, .aload_n 0, 1, 583, 0), (583, .iload_n 3, 1, 584, 0), (584, .iconst 1, 1, 585, 1), (585, .iadd, 1, 586, 0), (586, .iaload, 1, 587, 0), (587, .aload_n 0, 1, 588, 0), (588, .iload_n 3, 1, 589, 0), (589, .iconst 2, 1, 590, 2), (590, .iadd, 1, 591, 0), (591, .iaload, 1, 592, 0), (592, .invokevirtual 55, 3, 595, 0), (595, .aload_n 2, 1, 596, 0)]
theorem dl_7 : sn_tabOk code tl_7 := by unfold sn_tabOk; decide +kernel
def tl_8 : sn_Tb := [(596, .aload_n 0, 1, 597, 0), (597, .iload_n 3, 1, 598, 0), (598, .iconst 1, 1, 599, 1), (599, .iadd, 1, 600, 0), (600, .iaload, 1, 601, 0), (601, .aload_n 0, 1, 602, 0), (602, .iload_n 3, 1, 603, 0), (603, .iconst 2, 1, 604, 2), (604, .iadd, 1, 605, 0), (605, .iaload, 1, 606, 0), (606, .invokevirtual 59, 3, 609, 0), (609, .lcmp, 1, 610, 0), (610, .ifCond .eq 598, 3, 613, 1208), (613, .iconst 0, 1, 614, 0), (614, .ireturn, 1, 615, 0), (615, .aload_n 1, 1, 616, 0), (616, .aload_n 0, 1, 617, 0), (617, .iload_n 3, 1, 618, 0), (618, .iconst 1, 1, 619, 1), (619, .iadd, 1, 620, 0), (620, .iaload, 1, 621, 0), (621, .aload_n 0, 1, 622, 0), (622, .iload_n 3, 1, 623, 0), (623, .iconst 2, 1, 624, 2), (624, .iadd, 1, 625, 0), (625, .iaload, 1, 626, 0), (626, .invokevirtual 60, 3, 629, 0), (629, .aload_n 2, 1, 630, 0), (630, .aload_n 0, 1, 631, 0), (631, .iload_n 3, 1, 632, 0), (632, .iconst 1, 1, 633, 1), (633, .iadd, 1, 634, 0), (634, .iaload, 1, 635, 0), (635, .aload_n 0, 1, 636, 0), (636, .iload_n 3, 1, 637, 0), (637, .iconst 2, 1, 638, 2), (638, .iadd, 1, 639, 0), (639, .iaload, 1, 640, 0), (640, .invokevirtual 63, 3, 643, 0), (643, .lcmp, 1, 644, 0), (644, .ifCond .eq 564, 3, 647, 1208), (647, .iconst 0, 1, 648, 0), (648, .ireturn, 1, 649, 0), (649, .aload_n 1, 1, 650, 0), (650, .aload_n 0, 1, 651, 0), (651, .iload_n 3, 1, 652, 0), (652, .iconst 1, 1, 653, 1), (653, .iadd, 1, 654, 0), (654, .iaload, 1, 655, 0), (655, .aload_n 0, 1, 656, 0)]
theorem dl_8 : sn_tabOk code tl_8 := by unfold sn_tabOk; decide +kernel
def tl_9 : sn_Tb := [(656, .iload_n 3, 1, 657, 0), (657, .iconst 2, 1, 658, 2), (658, .iadd, 1, 659, 0), (659, .iaload, 1, 660, 0), (660, .invokevirtual 64, 3, 663, 0), (663, .aload_n 2, 1, 664, 0), (664, .aload_n 0, 1, 665, 0), (665, .iload_n 3, 1, 666, 0), (666, .iconst 1, 1, 667, 1), (667, .iadd, 1, 668, 0), (668, .iaload, 1, 669, 0), (669, .aload_n 0, 1, 670, 0), (670, .iload_n 3, 1, 671, 0), (671, .iconst 2, 1, 672, 2), (672, .iadd, 1, 673, 0), (673, .iaload, 1, 674, 0), (674, .invokevirtual 67, 3, 677, 0), (677, .if_icmp .eq 531, 3, 680, 1208), (680, .iconst 0, 1, 681, 0), (681, .ireturn, 1, 682, 0), (682, .aload_n 1, 1, 683, 0), (683, .aload_n 0, 1, 684, 0), (684, .iload_n 3, 1, 685, 0), (685, .iconst 1, 1, 686, 1), (686, .iadd, 1, 687, 0), (687, .iaload, 1, 688, 0), (688, .aload_n 0, 1, 689, 0), (689, .iload_n 3, 1, 690, 0), (690, .iconst 2, 1, 691, 2), (691, .iadd, 1, 692, 0), (692, .iaload, 1, 693, 0), (693, .invokevirtual 68, 3, 696, 0), (696, .aload_n 2, 1, 697, 0), (697, .aload_n 0, 1, 698, 0), (698, .iload_n 3, 1, 699, 0), (699, .iconst 1, 1, 700, 1), (700, .iadd, 1, 701, 0), (701, .iaload, 1, 702, 0), (702, .aload_n 0, 1, 703, 0), (703, .iload_n 3, 1, 704, 0), (704, .iconst 2, 1, 705, 2), (705, .iadd, 1, 706, 0), (706, .iaload, 1, 707, 0), (707, .invokevirtual 71, 3, 710, 0), (710, .if_icmp .eq 498, 3, 713, 1208), (713, .iconst 0, 1, 714, 0), (714, .ireturn, 1, 715, 0), (715, .aload_n 1, 1, 716, 0), (716, .aload_n 0, 1, 717, 0), (717, .iload_n 3, 1, 718, 0)]
theorem dl_9 : sn_tabOk code tl_9 := by unfold sn_tabOk; decide +kernel
def tl_10 : sn_Tb := [(718, .iconst 1, 1, 719, 1), (719, .iadd, 1, 720, 0), (720, .iaload, 1, 721, 0), (721, .aload_n 0, 1, 722, 0), (722, .iload_n 3, 1, 723, 0), (723, .iconst 2, 1, 724, 2), (724, .iadd, 1, 725, 0), (725, .iaload, 1, 726, 0), (726, .i2l, 1, 727, 0), (727, .bipush 32, 2, 729, 32), (729, .lshl, 1, 730, 0), (730, .aload_n 0, 1, 731, 0), (731, .iload_n 3, 1, 732, 0), (732, .iconst 3, 1, 733, 3), (733, .iadd, 1, 734, 0), (734, .iaload, 1, 735, 0), (735, .i2l, 1, 736, 0), (736, .ldc2_w 22, 3, 739, 0), (739, .land, 1, 740, 0), (740, .lor, 1, 741, 0), (741, .aload_n 0, 1, 742, 0), (742, .iload_n 3, 1, 743, 0), (743, .iconst 4, 1, 744, 4), (744, .iadd, 1, 745, 0), (745, .iaload, 1, 746, 0), (746, .i2l, 1, 747, 0), (747, .bipush 32, 2, 749, 32), (749, .lshl, 1, 750, 0), (750, .aload_n 0, 1, 751, 0), (751, .iload_n 3, 1, 752, 0), (752, .iconst 5, 1, 753, 5), (753, .iadd, 1, 754, 0), (754, .iaload, 1, 755, 0), (755, .i2l, 1, 756, 0), (756, .ldc2_w 22, 3, 759, 0), (759, .land, 1, 760, 0), (760, .lor, 1, 761, 0), (761, .invokevirtual 72, 3, 764, 0), (764, .aload_n 2, 1, 765, 0), (765, .aload_n 0, 1, 766, 0), (766, .iload_n 3, 1, 767, 0), (767, .iconst 1, 1, 768, 1), (768, .iadd, 1, 769, 0), (769, .iaload, 1, 770, 0), (770, .aload_n 0, 1, 771, 0), (771, .iload_n 3, 1, 772, 0), (772, .iconst 2, 1, 773, 2), (773, .iadd, 1, 774, 0), (774, .iaload, 1, 775, 0), (775, .i2l, 1, 776, 0)]
theorem dl_10 : sn_tabOk code tl_10 := by unfold sn_tabOk; decide +kernel
def tl_11 : sn_Tb := [(776, .bipush 32, 2, 778, 32), (778, .lshl, 1, 779, 0), (779, .aload_n 0, 1, 780, 0), (780, .iload_n 3, 1, 781, 0), (781, .iconst 3, 1, 782, 3), (782, .iadd, 1, 783, 0), (783, .iaload, 1, 784, 0), (784, .i2l, 1, 785, 0), (785, .ldc2_w 22, 3, 788, 0), (788, .land, 1, 789, 0), (789, .lor, 1, 790, 0), (790, .aload_n 0, 1, 791, 0), (791, .iload_n 3, 1, 792, 0), (792, .iconst 4, 1, 793, 4), (793, .iadd, 1, 794, 0), (794, .iaload, 1, 795, 0), (795, .i2l, 1, 796, 0), (796, .bipush 32, 2, 798, 32), (798, .lshl, 1, 799, 0), (799, .aload_n 0, 1, 800, 0), (800, .iload_n 3, 1, 801, 0), (801, .iconst 5, 1, 802, 5), (802, .iadd, 1, 803, 0), (803, .iaload, 1, 804, 0), (804, .i2l, 1, 805, 0), (805, .ldc2_w 22, 3, 808, 0), (808, .land, 1, 809, 0), (809, .lor, 1, 810, 0), (810, .invokevirtual 76, 3, 813, 0), (813, .if_icmp .eq 395, 3, 816, 1208), (816, .iconst 0, 1, 817, 0), (817, .ireturn, 1, 818, 0), (818, .aload_n 1, 1, 819, 0), (819, .aload_n 0, 1, 820, 0), (820, .iload_n 3, 1, 821, 0), (821, .iconst 1, 1, 822, 1), (822, .iadd, 1, 823, 0), (823, .iaload, 1, 824, 0), (824, .aload_n 0, 1, 825, 0), (825, .iload_n 3, 1, 826, 0), (826, .iconst 2, 1, 827, 2), (827, .iadd, 1, 828, 0), (828, .iaload, 1, 829, 0), (829, .invokevirtual 77, 3, 832, 0), (832, .aload_n 2, 1, 833, 0), (833, .aload_n 0, 1, 834, 0), (834, .iload_n 3, 1, 835, 0), (835, .iconst 1, 1, 836, 1), (836, .iadd, 1, 837, 0), (837, .iaload, 1, 838, 0)]
theorem dl_11 : sn_tabOk code tl_11 := by unfold sn_tabOk; decide +kernel
def tl_12 : sn_Tb := [(838, .aload_n 0, 1, 839, 0), (839, .iload_n 3, 1, 840, 0), (840, .iconst 2, 1, 841, 2), (841, .iadd, 1, 842, 0), (842, .iaload, 1, 843, 0), (843, .invokevirtual 80, 3, 846, 0), (846, .if_icmp .eq 362, 3, 849, 1208), (849, .iconst 0, 1, 850, 0), (850, .ireturn, 1, 851, 0), (851, .aload_n 1, 1, 852, 0), (852, .aload_n 0, 1, 853, 0), (853, .iload_n 3, 1, 854, 0), (854, .iconst 1, 1, 855, 1), (855, .iadd, 1, 856, 0), (856, .iaload, 1, 857, 0), (857, .aload_n 0, 1, 858, 0), (858, .iload_n 3, 1, 859, 0), (859, .iconst 2, 1, 860, 2), (860, .iadd, 1, 861, 0), (861, .iaload, 1, 862, 0), (862, .invokevirtual 81, 3, 865, 0), (865, .aload_n 2, 1, 866, 0), (866, .aload_n 0, 1, 867, 0), (867, .iload_n 3, 1, 868, 0), (868, .iconst 1, 1, 869, 1), (869, .iadd, 1, 870, 0), (870, .iaload, 1, 871, 0), (871, .aload_n 0, 1, 872, 0), (872, .iload_n 3, 1, 873, 0), (873, .iconst 2, 1, 874, 2), (874, .iadd, 1, 875, 0), (875, .iaload, 1, 876, 0), (876, .invokevirtual 84, 3, 879, 0), (879, .lcmp, 1, 880, 0), (880, .ifCond .eq 328, 3, 883, 1208), (883, .iconst 0, 1, 884, 0), (884, .ireturn, 1, 885, 0), (885, .aload_n 1, 1, 886, 0), (886, .aload_n 0, 1, 887, 0), (887, .iload_n 3, 1, 888, 0), (888, .iconst 1, 1, 889, 1), (889, .iadd, 1, 890, 0), (890, .iaload, 1, 891, 0), (891, .aload_n 0, 1, 892, 0), (892, .iload_n 3, 1, 893, 0), (893, .iconst 2, 1, 894, 2), (894, .iadd, 1, 895, 0), (895, .iaload, 1, 896, 0), (896, .aload_n 0, 1, 897, 0), (897, .iload_n 3, 1, 898, 0)]
theorem dl_12 : sn_tabOk code tl_12 := by unfold sn_tabOk; decide +kernel
def tl_13 : sn_Tb := [(898, .iconst 3, 1, 899, 3), (899, .iadd, 1, 900, 0), (900, .iaload, 1, 901, 0), (901, .ifCond .eq 7, 3, 904, 908), (904, .iconst 1, 1, 905, 1), (905, .goto 4, 3, 908, 909), (908, .iconst 0, 1, 909, 0), (909, .invokevirtual 85, 3, 912, 0), (912, .aload_n 2, 1, 913, 0), (913, .aload_n 0, 1, 914, 0), (914, .iload_n 3, 1, 915, 0), (915, .iconst 1, 1, 916, 1), (916, .iadd, 1, 917, 0), (917, .iaload, 1, 918, 0), (918, .aload_n 0, 1, 919, 0), (919, .iload_n 3, 1, 920, 0), (920, .iconst 2, 1, 921, 2), (921, .iadd, 1, 922, 0), (922, .iaload, 1, 923, 0), (923, .aload_n 0, 1, 924, 0), (924, .iload_n 3, 1, 925, 0), (925, .iconst 3, 1, 926, 3), (926, .iadd, 1, 927, 0), (927, .iaload, 1, 928, 0), (928, .ifCond .eq 7, 3, 931, 935), (931, .iconst 1, 1, 932, 1), (932, .goto 4, 3, 935, 936), (935, .iconst 0, 1, 936, 0), (936, .invokevirtual 89, 3, 939, 0), (939, .if_icmp .eq 269, 3, 942, 1208), (942, .iconst 0, 1, 943, 0), (943, .ireturn, 1, 944, 0), (944, .aload_n 1, 1, 945, 0), (945, .aload_n 0, 1, 946, 0), (946, .iload_n 3, 1, 947, 0), (947, .iconst 1, 1, 948, 1), (948, .iadd, 1, 949, 0), (949, .iaload, 1, 950, 0), (950, .invokevirtual 90, 3, 953, 0), (953, .aload_n 2, 1, 954, 0), (954, .aload_n 0, 1, 955, 0), (955, .iload_n 3, 1, 956, 0), (956, .iconst 1, 1, 957, 1), (957, .iadd, 1, 958, 0), (958, .iaload, 1, 959, 0), (959, .invokevirtual 94, 3, 962, 0), (962, .if_icmp .eq 246, 3, 965, 1208), (965, .iconst 0, 1, 966, 0), (966, .ireturn, 1, 967, 0), (967, .aload_n 1, 1, 968, 0)]
theorem dl_13 : sn_tabOk code tl_13 := by unfold sn_tabOk; decide +kernel
def tl_14 : sn_Tb := [(968, .aload_n 0, 1, 969, 0), (969, .iload_n 3, 1, 970, 0), (970, .iconst 1, 1, 971, 1), (971, .iadd, 1, 972, 0), (972, .iaload, 1, 973, 0), (973, .aload_n 0, 1, 974, 0), (974, .iload_n 3, 1, 975, 0), (975, .iconst 2, 1, 976, 2), (976, .iadd, 1, 977, 0), (977, .iaload, 1, 978, 0), (978, .invokevirtual 95, 3, 981, 0), (981, .aload_n 2, 1, 982, 0), (982, .aload_n 0, 1, 983, 0), (983, .iload_n 3, 1, 984, 0), (984, .iconst 1, 1, 985, 1), (985, .iadd, 1, 986, 0), (986, .iaload, 1, 987, 0), (987, .aload_n 0, 1, 988, 0), (988, .iload_n 3, 1, 989, 0), (989, .iconst 2, 1, 990, 2), (990, .iadd, 1, 991, 0), (991, .iaload, 1, 992, 0), (992, .invokevirtual 98, 3, 995, 0), (995, .lcmp, 1, 996, 0), (996, .ifCond .eq 212, 3, 999, 1208), (999, .iconst 0, 1, 1000, 0), (1000, .ireturn, 1, 1001, 0), (1001, .aload_n 1, 1, 1002, 0), (1002, .aload_n 0, 1, 1003, 0), (1003, .iload_n 3, 1, 1004, 0), (1004, .iconst 1, 1, 1005, 1), (1005, .iadd, 1, 1006, 0), (1006, .iaload, 1, 1007, 0), (1007, .aload_n 0, 1, 1008, 0), (1008, .iload_n 3, 1, 1009, 0), (1009, .iconst 2, 1, 1010, 2), (1010, .iadd, 1, 1011, 0), (1011, .iaload, 1, 1012, 0), (1012, .invokevirtual 99, 3, 1015, 0), (1015, .aload_n 2, 1, 1016, 0), (1016, .aload_n 0, 1, 1017, 0), (1017, .iload_n 3, 1, 1018, 0), (1018, .iconst 1, 1, 1019, 1), (1019, .iadd, 1, 1020, 0), (1020, .iaload, 1, 1021, 0), (1021, .aload_n 0, 1, 1022, 0), (1022, .iload_n 3, 1, 1023, 0), (1023, .iconst 2, 1, 1024, 2), (1024, .iadd, 1, 1025, 0), (1025, .iaload, 1, 1026, 0)]
theorem dl_14 : sn_tabOk code tl_14 := by unfold sn_tabOk; decide +kernel
def tl_15 : sn_Tb := [(1026, .invokevirtual 102, 3, 1029, 0), (1029, .lcmp, 1, 1030, 0), (1030, .ifCond .eq 178, 3, 1033, 1208), (1033, .iconst 0, 1, 1034, 0), (1034, .ireturn, 1, 1035, 0), (1035, .aload_n 1, 1, 1036, 0), (1036, .aload_n 0, 1, 1037, 0), (1037, .iload_n 3, 1, 1038, 0), (1038, .iconst 1, 1, 1039, 1), (1039, .iadd, 1, 1040, 0), (1040, .iaload, 1, 1041, 0), (1041, .aload_n 0, 1, 1042, 0), (1042, .iload_n 3, 1, 1043, 0), (1043, .iconst 2, 1, 1044, 2), (1044, .iadd, 1, 1045, 0), (1045, .iaload, 1, 1046, 0), (1046, .i2l, 1, 1047, 0), (1047, .bipush 32, 2, 1049, 32), (1049, .lshl, 1, 1050, 0), (1050, .aload_n 0, 1, 1051, 0), (1051, .iload_n 3, 1, 1052, 0), (1052, .iconst 3, 1, 1053, 3), (1053, .iadd, 1, 1054, 0), (1054, .iaload, 1, 1055, 0), (1055, .i2l, 1, 1056, 0), (1056, .ldc2_w 22, 3, 1059, 0), (1059, .land, 1, 1060, 0), (1060, .lor, 1, 1061, 0), (1061, .aload_n 0, 1, 1062, 0), (1062, .iload_n 3, 1, 1063, 0), (1063, .iconst 4, 1, 1064, 4), (1064, .iadd, 1, 1065, 0), (1065, .iaload, 1, 1066, 0), (1066, .invokevirtual 103, 3, 1069, 0), (1069, .aload_n 2, 1, 1070, 0), (1070, .aload_n 0, 1, 1071, 0), (1071, .iload_n 3, 1, 1072, 0), (1072, .iconst 1, 1, 1073, 1), (1073, .iadd, 1, 1074, 0), (1074, .iaload, 1, 1075, 0), (1075, .aload_n 0, 1, 1076, 0), (1076, .iload_n 3, 1, 1077, 0), (1077, .iconst 2, 1, 1078, 2), (1078, .iadd, 1, 1079, 0), (1079, .iaload, 1, 1080, 0), (1080, .i2l, 1, 1081, 0), (1081, .bipush 32, 2, 1083, 32), (1083, .lshl, 1, 1084, 0), (1084, .aload_n 0, 1, 1085, 0), (1085, .iload_n 3, 1, 1086, 0)]
theorem dl_15 : sn_tabOk code tl_15 := by unfold sn_tabOk; decide +kernel
def tl_16 : sn_Tb := [(1086, .iconst 3, 1, 1087, 3), (1087, .iadd, 1, 1088, 0), (1088, .iaload, 1, 1089, 0), (1089, .i2l, 1, 1090, 0), (1090, .ldc2_w 22, 3, 1093, 0), (1093, .land, 1, 1094, 0), (1094, .lor, 1, 1095, 0), (1095, .aload_n 0, 1, 1096, 0), (1096, .iload_n 3, 1, 1097, 0), (1097, .iconst 4, 1, 1098, 4), (1098, .iadd, 1, 1099, 0), (1099, .iaload, 1, 1100, 0), (1100, .invokevirtual 107, 3, 1103, 0), (1103, .if_icmp .eq 105, 3, 1106, 1208), (1106, .iconst 0, 1, 1107, 0), (1107, .ireturn, 1, 1108, 0), (1108, .aload_n 1, 1, 1109, 0), (1109, .aload_n 0, 1, 1110, 0), (1110, .iload_n 3, 1, 1111, 0), (1111, .iconst 1, 1, 1112, 1), (1112, .iadd, 1, 1113, 0), (1113, .iaload, 1, 1114, 0), (1114, .aload_n 0, 1, 1115, 0), (1115, .iload_n 3, 1, 1116, 0), (1116, .iconst 2, 1, 1117, 2), (1117, .iadd, 1, 1118, 0), (1118, .iaload, 1, 1119, 0), (1119, .i2l, 1, 1120, 0), (1120, .bipush 32, 2, 1122, 32), (1122, .lshl, 1, 1123, 0), (1123, .aload_n 0, 1, 1124, 0), (1124, .iload_n 3, 1, 1125, 0), (1125, .iconst 3, 1, 1126, 3), (1126, .iadd, 1, 1127, 0), (1127, .iaload, 1, 1128, 0), (1128, .i2l, 1, 1129, 0), (1129, .ldc2_w 22, 3, 1132, 0), (1132, .land, 1, 1133, 0), (1133, .lor, 1, 1134, 0), (1134, .invokevirtual 108, 3, 1137, 0), (1137, .aload_n 2, 1, 1138, 0), (1138, .aload_n 0, 1, 1139, 0), (1139, .iload_n 3, 1, 1140, 0), (1140, .iconst 1, 1, 1141, 1), (1141, .iadd, 1, 1142, 0), (1142, .iaload, 1, 1143, 0), (1143, .aload_n 0, 1, 1144, 0), (1144, .iload_n 3, 1, 1145, 0), (1145, .iconst 2, 1, 1146, 2), (1146, .iadd, 1, 1147, 0)]
theorem dl_16 : sn_tabOk code tl_16 := by unfold sn_tabOk; decide +kernel
def tl_17 : sn_Tb := [(1147, .iaload, 1, 1148, 0), (1148, .i2l, 1, 1149, 0), (1149, .bipush 32, 2, 1151, 32), (1151, .lshl, 1, 1152, 0), (1152, .aload_n 0, 1, 1153, 0), (1153, .iload_n 3, 1, 1154, 0), (1154, .iconst 3, 1, 1155, 3), (1155, .iadd, 1, 1156, 0), (1156, .iaload, 1, 1157, 0), (1157, .i2l, 1, 1158, 0), (1158, .ldc2_w 22, 3, 1161, 0), (1161, .land, 1, 1162, 0), (1162, .lor, 1, 1163, 0), (1163, .invokevirtual 112, 3, 1166, 0), (1166, .if_icmp .eq 42, 3, 1169, 1208), (1169, .iconst 0, 1, 1170, 0), (1170, .ireturn, 1, 1171, 0), (1171, .aload_n 1, 1, 1172, 0), (1172, .aload_n 0, 1, 1173, 0), (1173, .iload_n 3, 1, 1174, 0), (1174, .iconst 1, 1, 1175, 1), (1175, .iadd, 1, 1176, 0), (1176, .iaload, 1, 1177, 0), (1177, .invokevirtual 113, 3, 1180, 0), (1180, .aload_n 2, 1, 1181, 0), (1181, .aload_n 0, 1, 1182, 0), (1182, .iload_n 3, 1, 1183, 0), (1183, .iconst 1, 1, 1184, 1), (1184, .iadd, 1, 1185, 0), (1185, .iaload, 1, 1186, 0), (1186, .invokevirtual 116, 3, 1189, 0), (1189, .if_icmp .eq 19, 3, 1192, 1208), (1192, .iconst 0, 1, 1193, 0), (1193, .ireturn, 1, 1194, 0), (1194, .aload_n 1, 1, 1195, 0), (1195, .invokevirtual 117, 3, 1198, 0), (1198, .aload_n 2, 1, 1199, 0), (1199, .invokevirtual 121, 3, 1202, 0), (1202, .lcmp, 1, 1203, 0), (1203, .ifCond .eq 5, 3, 1206, 1208), (1206, .iconst 0, 1, 1207, 0), (1207, .ireturn, 1, 1208, 0), (1208, .iinc 3 6, 3, 1211, 6), (1211, .goto (-1193), 3, 1214, 18), (1214, .iconst 1, 1, 1215, 1), (1215, .ireturn, 1, 1216, 0)]
theorem dl_17 : sn_tabOk code tl_17 := by unfold sn_tabOk; decide +kernel
def sn_cl : Nat → Nat → Option Int64 := fun o i => match o, i with
  | 0, 232 => some (4294967295)
  | 13, 314 => some (6148914691236517205)
  | 13, 316 => some (3689348814741910323)
  | 13, 318 => some (1085102592571150095)
  | 0, 140 => some (-101)
  | 3, 31 => some (-1)
  | 7, 74 => some (-1)
  | 0, 176 => some (-1)
  | 0, 178 => some (-102)
  | 0, 202 => some (-103)
  | 0, 219 => some (-2)
  | 9, 21 => some (141733920768)
  | 9, 23 => some (-1)
  | 9, 33 => some (4294967296)
  | 0, 228 => some (141733920768)
  | 0, 230 => some (4294967296)
  | 0, 249 => some (367)
  | 0, 251 => some (31)
  | 1, 87 => some (36)
  | 1, 75 => some (31)
  | 1, 81 => some (4294967295)
  | 1, 112 => some (2)
  | 1, 114 => some (32)
  | 1, 123 => some (5)
  | 1, 125 => some (3)
  | 1, 145 => some (-101)
  | 1, 179 => some (-1)
  | 1, 213 => some (-102)
  | 1, 219 => some (-103)
  | 1, 237 => some (-2)
  | 1, 260 => some (367)
  | 11, 22 => some (4294967295)
  | _, _ => none
def sn_ci : Nat → Nat → Option Int32 := fun o i => match o, i with
  | 12, 265 => some (1431655765)
  | 12, 266 => some (858993459)
  | 12, 267 => some (252645135)
  | 12, 264 => some (65536)
  | _, _ => none
theorem sn_cl_ok {o i : Nat} {v : Int64} (h : sn_cl o i = some v) : .constantLong (sn_rn o) i v ∈ sn_gw := by
  unfold sn_cl at h
  split at h
  · cases h; exact tw_88
  · cases h; exact tw_334
  · cases h; exact tw_335
  · cases h; exact tw_336
  · cases h; exact tw_367
  · cases h; exact tw_462
  · cases h; exact tw_574
  · cases h; exact tw_622
  · cases h; exact tw_623
  · cases h; exact tw_647
  · cases h; exact tw_667
  · cases h; exact tw_683
  · cases h; exact tw_684
  · cases h; exact tw_693
  · cases h; exact tw_697
  · cases h; exact tw_698
  · cases h; exact tw_753
  · cases h; exact tw_754
  · cases h; exact tw_852
  · cases h; exact tw_867
  · cases h; exact tw_879
  · cases h; exact tw_880
  · cases h; exact tw_881
  · cases h; exact tw_903
  · cases h; exact tw_904
  · cases h; exact tw_940
  · cases h; exact tw_992
  · cases h; exact tw_1037
  · cases h; exact tw_1053
  · cases h; exact tw_1070
  · cases h; exact tw_1110
  · cases h; exact tw_1115
  · cases h
theorem sn_ci_ok {o i : Nat} {v : Int32} (h : sn_ci o i = some v) : .constant (sn_rn o) i v ∈ sn_gw := by
  unfold sn_ci at h
  split at h
  · cases h; exact tw_132
  · cases h; exact tw_133
  · cases h; exact tw_134
  · cases h; exact tw_581
  · cases h
end
section
/-! THE LAYER: cells by their number (0 is the script's), values by it; what a machine of cells does, tied to the real one by sn_HR -/
def sn_ad (b sz i : Nat) : Nat := match i with
  | 0 => b
  | k + 1 => sz + k
abbrev sn_G : Type := va_G × (Nat → ClassId) × Nat × Nat
abbrev sn_H : Type := List va_E
def sn_tr (γ : sn_G) (v : Value) : Value := match v with
  | .ref i => .ref (sn_ad γ.2.2.1 γ.2.2.2 i)
  | .int x => .int x
  | .long x => .long x
  | .float x => .float x
  | .double x => .double x
  | .null => .null
  | .retAddr x => .retAddr x
def sn_te (γ : sn_G) (c : va_E) : va_E := match c with
  | .inl (k, n, .inl f) => .inl (γ.2.1 k, n, .inl f)
  | .inl (k, n, .inr (.inl f)) => .inl (γ.2.1 k, n, .inr (.inl f))
  | .inl (k, n, .inr (.inr (.inl f))) => .inl (γ.2.1 k, n, .inr (.inr (.inl f)))
  | .inl (k, n, .inr (.inr (.inr (.inl f)))) => .inl (γ.2.1 k, n, .inr (.inr (.inr (.inl f))))
  | .inl (k, n, .inr (.inr (.inr (.inr f)))) => .inl (γ.2.1 k, n, .inr (.inr (.inr (.inr fun j => (f j).map (sn_ad γ.2.2.1 γ.2.2.2)))))
  | .inr (ci, fs) => .inr (ci, fs.map (sn_tr γ))
def sn_c0 : va_E := .inl (9, 0, .inl fun _ => 0)
def sn_HR (γ : sn_G) (h : sn_H) (H : Heap) : Prop := h[0]? = some sn_c0 ∧ H.size + 1 = γ.2.2.2 + h.length ∧ ∀ (i : Nat) (c : va_E), h[i + 1]? = some c → va_at γ.1 sn_cls (γ.2.2.2 + i, sn_te γ c) H
def sn_tys (γ : sn_G) : List (ClassId × FieldType) := [(γ.2.1 0, .int), (γ.2.1 1, .long), (γ.2.1 2, .byte), (γ.2.1 3, .object "SureNoes$Law"), (γ.2.1 4, .object "SureNoes$Book")]
def sn_isN (w : Cond) : Bool := match w with
  | .methodLinkNest .. => true
  | .declares _ => true
  | .castable .. => true
  | _ => false
def sn_nc : List (String × String) := [("SureNoes$Plain", "SureNoes$Counted"), ("SureNoes$Plain", "SureNoes$Parted"), ("SureNoes$Plain", "SureNoes$Pushed"), ("SureNoes$Plain", "SureNoes$Folded"), ("SureNoes$Plain", "SureNoes$Layered"), ("SureNoes$Counted", "SureNoes$Parted"), ("SureNoes$Counted", "SureNoes$Pushed"), ("SureNoes$Counted", "SureNoes$Folded"), ("SureNoes$Counted", "SureNoes$Layered"), ("SureNoes$Parted", "SureNoes$Counted"), ("SureNoes$Parted", "SureNoes$Pushed"), ("SureNoes$Parted", "SureNoes$Folded"), ("SureNoes$Parted", "SureNoes$Layered"), ("SureNoes$Pushed", "SureNoes$Plain"), ("SureNoes$Pushed", "SureNoes$Counted"), ("SureNoes$Pushed", "SureNoes$Parted"), ("SureNoes$Pushed", "SureNoes$Folded"), ("SureNoes$Pushed", "SureNoes$Layered"), ("SureNoes$Folded", "SureNoes$Counted"), ("SureNoes$Folded", "SureNoes$Pushed"), ("SureNoes$Folded", "SureNoes$Layered"), ("SureNoes$Layered", "SureNoes$Counted"), ("SureNoes$Layered", "SureNoes$Parted"), ("SureNoes$Layered", "SureNoes$Pushed"), ("SureNoes$Layered", "SureNoes$Folded")]
def sn_GN (U : State) : Prop := (∀ w ∈ lw_tbl, sn_isN w = true → va_Nw w U) ∧ (va_AO "SureNoes$Law" U ∧ va_AO "SureNoes$Book" U) ∧ ∀ q ∈ sn_nc, va_Nc q.1 q.2 U
theorem sn_isN_on {w : Cond} (h : sn_isN w = true) : w.onTables = true := by
  cases w <;> first | rfl | cases h
theorem sn_GN.warm {s U : State} (hW : s.WarmedH U.vm) (h : sn_GN s) : sn_GN U := by
  refine ⟨fun w hw hn => ?_, ⟨h.2.1.1.moved hW.alike, h.2.1.2.moved hW.alike⟩, fun q hq => (h.2.2 q hq).moved hW.alike⟩
  have h1 := h.1 w hw hn
  cases w <;> first | exact va_Nw.warmM hW h1 | exact va_Nw.warmD hW h1 | exact va_Nw.warmC hW h1 | cases hn
theorem sn_GN.same {s U : State} (e : s.vm = U.vm) (h : sn_GN s) : sn_GN U := by
  have ha : s.vm.Alike U.vm := by rw [← e]; exact Vm.Alike.refl s.vm
  exact ⟨fun w hw hn => va_Nw.same (sn_isN_on hn) e (h.1 w hw hn), ⟨h.2.1.1.moved ha, h.2.1.2.moved ha⟩, fun q hq => (h.2.2 q hq).moved ha⟩
def sn_GK (γ : sn_G) (U : State) : Prop := va_K γ.1 sn_cls (sn_tys γ) U ∧ sn_GN U
def sn_rm (d mc ms : Nat) : Room := { frames := d, cells := mc, slots := ms, locals := 40 * d }
def sn_A (γ : sn_G) : Nat → Prop := fun q => γ.2.2.2 ≤ q
def sn_Q (γ : sn_G) (r : Option Value) (h' : sn_H) : Array Value → State → Outcome → State → Prop := fun _ st oc t => oc = .returned (r.map (sn_tr γ)) ∧ sn_HR γ h' t.heap ∧ va_F (sn_A γ) st t
def sn_ws (M : sn_Md) : List Cond := .code M.1 M.2.1 M.2.2.1 M.2.2.2 :: sn_gw
def sn_Pc (γ : sn_G) (args : List Value) (h : sn_H) : Array Value → State → Prop := va_Pc (args.map (sn_tr γ)) (fun U => sn_HR γ h U.heap ∧ sn_GK γ U)
/-- METHOD M, called with args where the cells are h, answers r and leaves h'; d levels of calls, mc new cells of ms slots at most -/
def sn_Sp (γ : sn_G) (l : Launch) (d : Nat) (M : sn_Md) (args : List Value) (h : sn_H) (r : Option Value) (h' : sn_H) (mc ms : Nat) : Prop :=
  Met l M.1 (sn_ws M) (sn_rm d mc ms) (sn_Pc γ args h) (sn_Q γ r h') mc ms (sn_A γ)
abbrev sn_K : Type := Program × Launch × Env × Room × State × MethodId × Array Value × List Frame × Method × Code
def sn_real (v : Value) : Bool := match v with
  | .retAddr _ => false
  | _ => true
/-- the locals by their places; a place that holds nothing known: .retAddr 0 -/
def sn_lo (i : Nat) (L : List Value) : List (Nat × Value) := match L with
  | [] => []
  | v :: r => bif sn_real v then (i, v) :: sn_lo (i + 1) r else sn_lo (i + 1) r
def sn_lov (γ : sn_G) (L : List Value) : List (Nat × Value) := (sn_lo 0 L).map fun q => (q.1, sn_tr γ q.2)
/-- the walk: at pc, with cells h, locals lv, stack st -/
def sn_AW (γ : sn_G) (κ : sn_K) (nL : Nat) (Q : State → Prop) (h : sn_H) (pc : Nat) (lv : List Value) (st : List Value) (n k : Nat) : Prop :=
  ∀ (H : Heap) (locs : List Loc) (ls : Array Slot), sn_HR γ h H → lv_has ls nL (sn_lov γ lv) → va_S (sn_A γ) κ.2.2.2.2.1.heap H locs →
    W κ.1 κ.2.1 κ.2.2.1 κ.2.2.2.1 κ.2.2.2.2.1 κ.2.2.2.2.2.1 κ.2.2.2.2.2.2.1 κ.2.2.2.2.2.2.2.1 κ.2.2.2.2.2.2.2.2.1 κ.2.2.2.2.2.2.2.2.2 H locs n k Q (F0 κ.2.2.2.2.2.1 pc ls (st.map (sn_tr γ)))
/-- what holds all through a method's walk -/
def sn_KF (γ : sn_G) (κ : sn_K) (o : Nat) (tab : sn_Tb) (M : sn_Md) (d mc ms : Nat) : Prop :=
  κ.1.tables.exec = Jvm.exec ∧ κ.2.2.2.2.2.2.2.2.2.code = M.2.1 ∧ κ.2.2.2.2.2.2.2.2.2.maxLocals = M.2.2.1 ∧ κ.2.2.2.2.1.vm.findClass (sn_rn o) = some κ.2.2.2.2.2.1.cls ∧ (∀ w ∈ sn_gw, w.before κ.2.2.2.2.2.2.1 κ.2.2.2.2.1 = true) ∧ sn_GK γ κ.2.2.2.2.1 ∧ γ.2.2.2 ≤ κ.2.2.2.2.1.heap.size ∧ κ.2.2.2.2.2.2.2.2.1.locks = false ∧ κ.2.2.2.2.2.2.2.2.1.sig.returnType = M.2.2.2 ∧ sn_tabOk M.2.1 tab ∧ (d ≤ κ.2.2.2.1.frames ∧ 40 * d ≤ κ.2.2.2.1.locals ∧ mc ≤ κ.2.2.2.1.cells ∧ ms ≤ κ.2.2.2.1.slots) ∧ κ.2.2.2.2.2.2.2.2.1.name = M.1.name
theorem sn_tr_cat (γ : sn_G) (v : Value) : (sn_tr γ v).category = v.category := by cases v <;> rfl
-- HEAPS
theorem sn_HR.sz {γ : sn_G} {h : sn_H} {H : Heap} (hR : sn_HR γ h H) : γ.2.2.2 ≤ H.size := by
  have h1 : 0 < h.length := (List.getElem?_eq_some_iff.mp hR.1).1
  have := hR.2.1
  omega
theorem sn_HR.new {γ : sn_G} {h : sn_H} {H : Heap} (hR : sn_HR γ h H) : sn_ad γ.2.2.1 γ.2.2.2 h.length = H.size := by
  have h1 : 0 < h.length := (List.getElem?_eq_some_iff.mp hR.1).1
  have := hR.2.1
  obtain ⟨k, hk⟩ : ∃ k, h.length = k + 1 := ⟨h.length - 1, by omega⟩
  rw [hk]
  show γ.2.2.2 + k = H.size
  omega
theorem sn_HR.lt {γ : sn_G} {h : sn_H} {H : Heap} (hR : sn_HR γ h H) {i : Nat} {c : va_E} (hi : h[i + 1]? = some c) : γ.2.2.2 + i < H.size := by
  have h1 : i + 1 < h.length := (List.getElem?_eq_some_iff.mp hi).1
  have := hR.2.1
  omega
theorem sn_HR.set {γ : sn_G} {h : sn_H} {H H1 : Heap} (hR : sn_HR γ h H) {i : Nat} {c c' : va_E} (hi : h[i + 1]? = some c) (hat : va_at γ.1 sn_cls (γ.2.2.2 + i, sn_te γ c') H1) (hz : H1.size = H.size) (ho : ∀ q, q ≠ γ.2.2.2 + i → H1[q]? = H[q]?) : sn_HR γ (h.set (i + 1) c') H1 := by
  refine ⟨?_, ?_, fun j e hj => ?_⟩
  · rw [List.getElem?_set_ne (by omega)]; exact hR.1
  · rw [List.length_set, hz]; exact hR.2.1
  · by_cases hij : i = j
    · subst hij
      have hl : i + 1 < h.length := (List.getElem?_eq_some_iff.mp hi).1
      rw [List.getElem?_set_self hl] at hj
      cases hj
      exact hat
    · rw [List.getElem?_set_ne (by omega)] at hj
      exact (hR.2.2 j e hj).kept (ho _ (by show γ.2.2.2 + j ≠ _; omega))
theorem sn_HR.push {γ : sn_G} {h : sn_H} {H H1 : Heap} (hR : sn_HR γ h H) {c : va_E} (hat : va_at γ.1 sn_cls (H.size, sn_te γ c) H1) (hz : H1.size = H.size + 1) (ho : ∀ q, q < H.size → H1[q]? = H[q]?) : sn_HR γ (h ++ [c]) H1 := by
  have h1 : 0 < h.length := (List.getElem?_eq_some_iff.mp hR.1).1
  refine ⟨?_, ?_, fun j e hj => ?_⟩
  · rw [List.getElem?_append_left h1]; exact hR.1
  · rw [List.length_append, List.length_singleton, hz]; have := hR.2.1; omega
  · by_cases hl : j + 1 < h.length
    · rw [List.getElem?_append_left hl] at hj
      exact (hR.2.2 j e hj).kept (ho _ (hR.lt hj))
    · rw [List.getElem?_append_right (by omega)] at hj
      have hz2 : j + 1 - h.length < 1 := (List.getElem?_eq_some_iff.mp hj).1
      rw [show j + 1 - h.length = 0 by omega] at hj
      cases hj
      have := hR.2.1
      rw [show γ.2.2.2 + j = H.size by omega]
      exact hat
theorem sn_HR.ne0 {γ : sn_G} {h : sn_H} {H : Heap} (hR : sn_HR γ h H) {a : Nat} {c : va_E} (hi : h[a]? = some c) (hc : c ≠ sn_c0) : ∃ i, a = i + 1 := by
  cases a with
  | zero => exact absurd (Option.some.inj (hi.symm.trans hR.1)) hc
  | succ i => exact ⟨i, rfl⟩
theorem sn_va_P1 {D : va_G} {cl : List vw_C} {q : Nat × va_E} {H : Heap} (h : va_at D cl q H) : va_P D cl [q] H := by
  intro k x hk
  have hz : k < 1 := (List.getElem?_eq_some_iff.mp hk).1
  rw [show k = 0 by omega] at hk
  cases hk
  exact h
-- LOCALS
theorem sn_lo_mem {L : List Value} {i j : Nat} {w : Value} : (j, w) ∈ sn_lo i L ↔ ∃ k, j = i + k ∧ L[k]? = some w ∧ sn_real w = true := by
  induction L generalizing i with
  | nil => simp [sn_lo]
  | cons v r ih =>
    unfold sn_lo
    constructor
    · intro hm
      cases hv : sn_real v with
      | true =>
        rw [hv, cond_true] at hm
        rcases List.mem_cons.mp hm with q | q
        · cases q; exact ⟨0, rfl, rfl, hv⟩
        · obtain ⟨k, h1, h2, h3⟩ := ih.mp q
          exact ⟨k + 1, by omega, h2, h3⟩
      | false =>
        rw [hv, cond_false] at hm
        obtain ⟨k, h1, h2, h3⟩ := ih.mp hm
        exact ⟨k + 1, by omega, h2, h3⟩
    · rintro ⟨k, h1, h2, h3⟩
      cases k with
      | zero =>
        have e : v = w := Option.some.inj h2
        subst e; subst h1
        rw [h3, cond_true]
        exact List.mem_cons_self
      | succ k =>
        have h4 : (j, w) ∈ sn_lo (i + 1) r := ih.mpr ⟨k, by omega, h2, h3⟩
        cases hv : sn_real v with
        | true => rw [cond_true]; exact List.mem_cons_of_mem _ h4
        | false => rw [cond_false]; exact h4
def sn_gl (L : List Value) (k : Nat) : Option Value := match L with
  | [] => none
  | v :: r => match k with
    | 0 => some v
    | j + 1 => sn_gl r j
theorem sn_gl_eq (L : List Value) (k : Nat) : sn_gl L k = L[k]? := by
  induction L generalizing k with
  | nil => simp [sn_gl]
  | cons v r ih =>
    cases k with
    | zero => rfl
    | succ j => exact ih j
def sn_kill (L : List Value) (k : Nat) : List Value := match k with
  | 0 => L
  | j + 1 => match sn_gl L j with
    | some (.long _) => L.set j (.retAddr 0)
    | some (.double _) => L.set j (.retAddr 0)
    | _ => L
def sn_s1 (L : List Value) (k : Nat) (v : Value) : List Value := (sn_kill L k).set k v
def sn_s2 (L : List Value) (k : Nat) (v : Value) : List Value := ((sn_kill L k).set k v).set (k + 1) (.retAddr 0)
theorem sn_set_dead {L : List Value} {j k : Nat} {w : Value} (hk : (L.set j (.retAddr 0))[k]? = some w) (hr : sn_real w = true) : L[k]? = some w ∧ k ≠ j := by
  by_cases e : j = k
  · subst e
    rw [List.getElem?_set_self'] at hk
    cases hq : L[j]? with
    | none => rw [hq] at hk; cases hk
    | some z => rw [hq] at hk; cases hk; cases hr
  · rw [List.getElem?_set_ne e] at hk
    exact ⟨hk, fun q => e q.symm⟩
theorem sn_kill_get {L : List Value} {i k : Nat} {w : Value} (hk : (sn_kill L i)[k]? = some w) (hr : sn_real w = true) : L[k]? = some w ∧ ¬ (k + 1 = i ∧ w.category = 2) := by
  cases i with
  | zero => exact ⟨hk, fun q => by omega⟩
  | succ j =>
    simp only [sn_kill] at hk
    split at hk
    · rename_i x hx
      obtain ⟨h1, h2⟩ := sn_set_dead hk hr
      exact ⟨h1, fun q => h2 (by omega)⟩
    · rename_i x hx
      obtain ⟨h1, h2⟩ := sn_set_dead hk hr
      exact ⟨h1, fun q => h2 (by omega)⟩
    · rename_i h1 h2
      refine ⟨hk, fun q => ?_⟩
      have e : k = j := by omega
      subst e
      have h3 := sn_gl_eq L k
      rw [hk] at h3
      cases w with
      | long x => exact h1 x h3
      | double x => exact h2 x h3
      | _ => simp [Value.category] at q
theorem sn_L1 {γ : sn_G} {ls : Array Slot} {nL : Nat} {L : List Value} {i : Nat} {v : Value} (h : lv_has ls nL ((i, sn_tr γ v) :: (sn_lov γ L).filter (fun q => !(q.1 == i) && !(q.1 + 1 == i && q.2.category == 2)))) : lv_has ls nL (sn_lov γ (sn_s1 L i v)) := by
  refine ⟨h.1, h.2.1, fun q hq => h.2.2 q ?_⟩
  obtain ⟨⟨j, w⟩, hm, rfl⟩ := List.mem_map.mp hq
  obtain ⟨k, e, hk, hr⟩ := sn_lo_mem.mp hm
  have e : j = k := by omega
  subst e
  unfold sn_s1 at hk
  by_cases e : i = j
  · subst e
    rw [List.getElem?_set_self'] at hk
    cases hq : (sn_kill L i)[i]? with
    | none => rw [hq] at hk; cases hk
    | some z => rw [hq] at hk; cases hk; exact List.mem_cons_self
  · rw [List.getElem?_set_ne e] at hk
    obtain ⟨h1, h2⟩ := sn_kill_get hk hr
    refine List.mem_cons_of_mem _ (List.mem_filter.mpr ⟨List.mem_map.mpr ⟨(j, w), sn_lo_mem.mpr ⟨j, by omega, h1, hr⟩, rfl⟩, ?_⟩)
    have e2 : j ≠ i := fun q => e q.symm
    by_cases e3 : j + 1 = i
    · have e4 : w.category ≠ 2 := fun q => h2 ⟨e3, q⟩
      simp [e2, e3, sn_tr_cat, e4]
    · simp [e2, e3]
theorem sn_L2 {γ : sn_G} {ls : Array Slot} {nL : Nat} {L : List Value} {i : Nat} {v : Value} (h : lv_has ls nL ((i, sn_tr γ v) :: (sn_lov γ L).filter (fun q => !(q.1 == i) && (!(q.1 == i + 1) && !(q.1 + 1 == i && q.2.category == 2))))) : lv_has ls nL (sn_lov γ (sn_s2 L i v)) := by
  refine ⟨h.1, h.2.1, fun q hq => h.2.2 q ?_⟩
  obtain ⟨⟨j, w⟩, hm, rfl⟩ := List.mem_map.mp hq
  obtain ⟨k, e, hk, hr⟩ := sn_lo_mem.mp hm
  have e : j = k := by omega
  subst e
  unfold sn_s2 at hk
  obtain ⟨hk, e9⟩ := sn_set_dead hk hr
  by_cases e : i = j
  · subst e
    rw [List.getElem?_set_self'] at hk
    cases hq : (sn_kill L i)[i]? with
    | none => rw [hq] at hk; cases hk
    | some z => rw [hq] at hk; cases hk; exact List.mem_cons_self
  · rw [List.getElem?_set_ne e] at hk
    obtain ⟨h1, h2⟩ := sn_kill_get hk hr
    refine List.mem_cons_of_mem _ (List.mem_filter.mpr ⟨List.mem_map.mpr ⟨(j, w), sn_lo_mem.mpr ⟨j, by omega, h1, hr⟩, rfl⟩, ?_⟩)
    have e2 : j ≠ i := fun q => e q.symm
    by_cases e3 : j + 1 = i
    · have e4 : w.category ≠ 2 := fun q => h2 ⟨e3, q⟩
      simp [e2, e3, e9, sn_tr_cat, e4]
    · simp [e2, e3, e9]
theorem sn_gl_mem {γ : sn_G} {lv : List Value} {k : Nat} {v : Value} (hg : sn_gl lv k = some v) (hr : sn_real v = true) : (k, sn_tr γ v) ∈ sn_lov γ lv := by
  rw [sn_gl_eq] at hg
  exact List.mem_map.mpr ⟨(k, v), sn_lo_mem.mpr ⟨k, by omega, hg, hr⟩, rfl⟩
theorem sn_lv {γ : sn_G} {lv : List Value} {ls : Array Slot} {nL k : Nat} {v : Value} (hl : lv_has ls nL (sn_lov γ lv)) (hg : sn_gl lv k = some v) (hr : sn_real v = true) : ls[k]? = some (.val (sn_tr γ v)) :=
  hl.2.2 (k, sn_tr γ v) (sn_gl_mem hg hr)
-- THE PURE STEP
def sn_tg (t : sn_Tb) (pc : Nat) : Option (Instr × Nat × Nat × Nat) := match t with
  | [] => none
  | q :: r => bif Nat.beq q.1 pc then some q.2 else sn_tg r pc
def sn_sw (pc : Nat) (dflt lo hi : Int) (offs : Array Int) (x : Int32) : Nat := if x.toInt < lo ∨ hi < x.toInt then ((pc : Int) + dflt).toNat else ((pc : Int) + (offs[(x.toInt - lo).toNat]?.getD 0)).toNat
def sn_swok (pc : Nat) (dflt lo hi : Int) (offs : Array Int) : Bool := decide (0 ≤ (pc : Int) + dflt) && offs.toList.all (fun o => decide (0 ≤ (pc : Int) + o)) && decide (hi - lo < offs.size)
abbrev sn_St : Type := Prop × Nat × List Value × List Value
theorem sn_tg_mem {t : sn_Tb} {pc : Nat} {i : Instr} {n nx tg : Nat} (h : sn_tg t pc = some (i, n, nx, tg)) : (pc, i, n, nx, tg) ∈ t := by
  induction t with
  | nil => cases h
  | cons q r ih =>
    unfold sn_tg at h
    cases hb : Nat.beq q.1 pc with
    | true =>
      rw [hb] at h
      have e := Nat.eq_of_beq_eq_true hb
      obtain ⟨a, b2⟩ := q
      cases h
      cases e
      exact List.mem_cons_self
    | false =>
      rw [hb] at h
      exact List.mem_cons_of_mem _ (ih h)
theorem sn_jok_nx {pc : Nat} {i : Instr} {n nx tg : Nat} (h : sn_jok (pc, i, n, nx, tg) = true) : nx = pc + n := by
  simp only [sn_jok, Bool.and_eq_true, beq_iff_eq] at h
  exact h.1.1.2
theorem sn_jok_con {pc : Nat} {i : Instr} {n nx tg : Nat} {c : Int} (h : sn_jok (pc, i, n, nx, tg) = true) (hc : sn_con i = some c) : c.natAbs = tg := by
  simp only [sn_jok, Bool.and_eq_true, hc, beq_iff_eq] at h
  exact h.1.1.1
theorem sn_jok_len {pc : Nat} {i : Instr} {n nx tg : Nat} (h : sn_jok (pc, i, n, nx, tg) = true) (h0 : sn_len i ≠ 0) : n = sn_len i := by
  simp only [sn_jok, Bool.and_eq_true, beq_iff_eq, Bool.or_eq_true] at h
  rcases h.1.2 with q | q
  · exact absurd q h0
  · exact q.symm
theorem sn_jok_tg {pc : Nat} {i : Instr} {n nx tg : Nat} {o : Int} (h : sn_jok (pc, i, n, nx, tg) = true) (ho : sn_off i = some o) : (pc : Int) + o = (tg : Int) := by
  simp only [sn_jok, Bool.and_eq_true, ho, beq_iff_eq] at h
  exact h.2
end
section
/-! THE PURE STEP: what an instruction without cells does -/
def sn_ps (o nL : Nat) (i : Instr) (nx tg pc : Nat) (lv : List Value) (st : List Value) : Option sn_St := match i with
  | .iconst c => match c with
    | .ofNat _ => some (True, nx, lv, .int (nI tg) :: st)
    | .negSucc _ => some (True, nx, lv, .int (- nI tg) :: st)
  | .bipush c => match c with
    | .ofNat k => bif Nat.blt k 128 then some (True, nx, lv, .int (nI tg) :: st) else none
    | .negSucc k => bif Nat.blt k 128 then some (True, nx, lv, .int (- nI tg) :: st) else none
  | .sipush c => match c with
    | .ofNat k => bif Nat.beq k 4096 then some (True, nx, lv, .int (nI tg) :: st) else bif Nat.blt k 1024 then some (True, nx, lv, .int (nI tg) :: st) else none
    | .negSucc _ => none
  | .lconst c => bif Nat.beq c.val 0 then some (True, nx, lv, .long (lN 0) :: st) else some (True, nx, lv, .long (lN 1) :: st)
  | .ldc2_w k => match sn_cl o k with
    | some v => some (True, nx, lv, .long v :: st)
    | none => none
  | .ldc k => match sn_ci o k with
    | some v => some (True, nx, lv, .int v :: st)
    | none => none
  | .ldc_w k => match sn_ci o k with
    | some v => some (True, nx, lv, .int v :: st)
    | none => none
  | .aconst_null => some (True, nx, lv, .null :: st)
  | .iload_n k => match sn_gl lv k.val with
    | some (.int x) => some (True, nx, lv, .int x :: st)
    | _ => none
  | .iload k => match sn_gl lv k with
    | some (.int x) => some (True, nx, lv, .int x :: st)
    | _ => none
  | .lload_n k => match sn_gl lv k.val with
    | some (.long x) => some (True, nx, lv, .long x :: st)
    | _ => none
  | .lload k => match sn_gl lv k with
    | some (.long x) => some (True, nx, lv, .long x :: st)
    | _ => none
  | .aload_n k => match sn_gl lv k.val with
    | some (.ref x) => some (True, nx, lv, .ref x :: st)
    | some .null => some (True, nx, lv, .null :: st)
    | _ => none
  | .aload k => match sn_gl lv k with
    | some (.ref x) => some (True, nx, lv, .ref x :: st)
    | some .null => some (True, nx, lv, .null :: st)
    | _ => none
  | .istore_n k => match st with
    | .int x :: r => bif Nat.blt k.val nL then some (True, nx, sn_s1 lv k.val (.int x), r) else none
    | _ => none
  | .istore k => match st with
    | .int x :: r => bif Nat.blt k nL then some (True, nx, sn_s1 lv k (.int x), r) else none
    | _ => none
  | .lstore_n k => match st with
    | .long x :: r => bif Nat.blt (k.val + 1) nL then some (True, nx, sn_s2 lv k.val (.long x), r) else none
    | _ => none
  | .lstore k => match st with
    | .long x :: r => bif Nat.blt (k + 1) nL then some (True, nx, sn_s2 lv k (.long x), r) else none
    | _ => none
  | .astore_n k => match st with
    | .ref x :: r => bif Nat.blt k.val nL then some (True, nx, sn_s1 lv k.val (.ref x), r) else none
    | .null :: r => bif Nat.blt k.val nL then some (True, nx, sn_s1 lv k.val .null, r) else none
    | _ => none
  | .astore k => match st with
    | .ref x :: r => bif Nat.blt k nL then some (True, nx, sn_s1 lv k (.ref x), r) else none
    | .null :: r => bif Nat.blt k nL then some (True, nx, sn_s1 lv k .null, r) else none
    | _ => none
  | .iinc k c => match sn_gl lv k with
    | some (.int x) => bif Nat.blt k nL then (match c with
      | .ofNat _ => some (True, nx, sn_s1 lv k (.int (x + nI tg)), st)
      | .negSucc _ => some (True, nx, sn_s1 lv k (.int (x - nI tg)), st)) else none
    | _ => none
  | .iadd => match st with
    | .int y :: .int x :: r => some (True, nx, lv, .int (x + y) :: r)
    | _ => none
  | .isub => match st with
    | .int y :: .int x :: r => some (True, nx, lv, .int (x - y) :: r)
    | _ => none
  | .imul => match st with
    | .int y :: .int x :: r => some (True, nx, lv, .int (x * y) :: r)
    | _ => none
  | .iand => match st with
    | .int y :: .int x :: r => some (True, nx, lv, .int (x &&& y) :: r)
    | _ => none
  | .ior => match st with
    | .int y :: .int x :: r => some (True, nx, lv, .int (x ||| y) :: r)
    | _ => none
  | .ixor => match st with
    | .int y :: .int x :: r => some (True, nx, lv, .int (x ^^^ y) :: r)
    | _ => none
  | .ishl => match st with
    | .int y :: .int x :: r => some (True, nx, lv, .int (x <<< (y &&& 31)) :: r)
    | _ => none
  | .ishr => match st with
    | .int y :: .int x :: r => some (True, nx, lv, .int (x >>> (y &&& 31)) :: r)
    | _ => none
  | .iushr => match st with
    | .int y :: .int x :: r => some (True, nx, lv, .int ((x.toUInt32 >>> (y.toUInt32 &&& Int32.toUInt32 31)).toInt32) :: r)
    | _ => none
  | .idiv => match st with
    | .int y :: .int x :: r => some (¬ y = 0, nx, lv, .int (x / y) :: r)
    | _ => none
  | .irem => match st with
    | .int y :: .int x :: r => some (¬ y = 0, nx, lv, .int (x - x / y * y) :: r)
    | _ => none
  | .ladd => match st with
    | .long y :: .long x :: r => some (True, nx, lv, .long (x + y) :: r)
    | _ => none
  | .lsub => match st with
    | .long y :: .long x :: r => some (True, nx, lv, .long (x - y) :: r)
    | _ => none
  | .lmul => match st with
    | .long y :: .long x :: r => some (True, nx, lv, .long (x * y) :: r)
    | _ => none
  | .land => match st with
    | .long y :: .long x :: r => some (True, nx, lv, .long (x &&& y) :: r)
    | _ => none
  | .lor => match st with
    | .long y :: .long x :: r => some (True, nx, lv, .long (x ||| y) :: r)
    | _ => none
  | .lxor => match st with
    | .long y :: .long x :: r => some (True, nx, lv, .long (x ^^^ y) :: r)
    | _ => none
  | .ldiv => match st with
    | .long y :: .long x :: r => some (¬ y = 0, nx, lv, .long (x / y) :: r)
    | _ => none
  | .lshl => match st with
    | .int y :: .long x :: r => some (True, nx, lv, .long (x <<< (y.toInt64 &&& 63)) :: r)
    | _ => none
  | .lshr => match st with
    | .int y :: .long x :: r => some (True, nx, lv, .long (x >>> (y.toInt64 &&& 63)) :: r)
    | _ => none
  | .lushr => match st with
    | .int y :: .long x :: r => some (True, nx, lv, .long ((x.toUInt64 >>> (y.toInt64.toUInt64 &&& Int64.toUInt64 63)).toInt64) :: r)
    | _ => none
  | .lcmp => match st with
    | .long y :: .long x :: r => some (True, nx, lv, .int (lg_cmp x y) :: r)
    | _ => none
  | .i2l => match st with
    | .int x :: r => some (True, nx, lv, .long x.toInt64 :: r)
    | _ => none
  | .l2i => match st with
    | .long x :: r => some (True, nx, lv, .int x.toInt32 :: r)
    | _ => none
  | .i2b => match st with
    | .int x :: r => some (True, nx, lv, .int x.toInt8.toInt32 :: r)
    | _ => none
  | .dup => match st with
    | .int x :: r => some (True, nx, lv, .int x :: .int x :: r)
    | .ref x :: r => some (True, nx, lv, .ref x :: .ref x :: r)
    | _ => none
  | .dup2 => match st with
    | .int x :: .ref y :: r => some (True, nx, lv, .int x :: .ref y :: .int x :: .ref y :: r)
    | _ => none
  | .goto _ => some (True, tg, lv, st)
  | .ifCond c _ => match st with
    | .int x :: r => (match c with
      | .eq => some (True, if x = 0 then tg else nx, lv, r)
      | .ne => some (True, if x = 0 then nx else tg, lv, r)
      | .lt => some (True, if x < 0 then tg else nx, lv, r)
      | .ge => some (True, if 0 ≤ x then tg else nx, lv, r)
      | .gt => some (True, if 0 < x then tg else nx, lv, r)
      | .le => some (True, if x ≤ 0 then tg else nx, lv, r))
    | _ => none
  | .if_icmp c _ => match st with
    | .int y :: .int x :: r => (match c with
      | .eq => some (True, if x = y then tg else nx, lv, r)
      | .ne => some (True, if x = y then nx else tg, lv, r)
      | .lt => some (True, if x < y then tg else nx, lv, r)
      | .ge => some (True, if y ≤ x then tg else nx, lv, r)
      | .gt => some (True, if y < x then tg else nx, lv, r)
      | .le => some (True, if x ≤ y then tg else nx, lv, r))
    | _ => none
  | .ifnull _ => match st with
    | .ref _ :: r => some (True, nx, lv, r)
    | .null :: r => some (True, tg, lv, r)
    | _ => none
  | .ifnonnull _ => match st with
    | .ref _ :: r => some (True, tg, lv, r)
    | .null :: r => some (True, nx, lv, r)
    | _ => none
  | .tableswitch dflt lo hi offs => match st with
    | .int x :: r => bif sn_swok pc dflt lo hi offs then some (True, sn_sw pc dflt lo hi offs x, lv, r) else none
    | _ => none
  | _ => none
theorem sn_bi1 : ∀ k, k < 128 → (Int8.ofInt (Int.ofNat k)).toInt32 = nI k := by decide +kernel
theorem sn_bi2 : ∀ k, k < 128 → (Int8.ofInt (Int.negSucc k)).toInt32 = - nI (k + 1) := by decide +kernel
theorem sn_si1 : ∀ k, k < 1024 → (Int16.ofInt (Int.ofNat k)).toInt32 = nI k := by decide +kernel
theorem sn_si2 : (Int16.ofInt (Int.ofNat 4096)).toInt32 = nI 4096 := by decide +kernel
theorem sn_ic1 (k : Nat) : Int32.ofInt (Int.ofNat k) = nI k := by
  show Int32.ofInt (k : Int) = Int32.ofNat k
  exact Int32.ofInt_eq_ofNat
theorem sn_ic2 (k : Nat) : Int32.ofInt (Int.negSucc k) = - nI (k + 1) := by
  have : Int.negSucc k = - ((k + 1 : Nat) : Int) := rfl
  rw [this, Int32.ofInt_neg]
  exact congrArg Neg.neg (sn_ic1 (k + 1))
theorem sn_ic3 (x : Int32) (k : Nat) : x + Int32.ofInt (Int.negSucc k) = x - nI (k + 1) := by
  rw [sn_ic2, Int32.sub_eq_add_neg]
set_option maxHeartbeats 4000000 in
theorem sn_psok {γ : sn_G} {κ : sn_K} {o : Nat} {tab : sn_Tb} {M : sn_Md} {d mc ms : Nat} {Q : State → Prop} {h : sn_H} {pc : Nat} {lv : List Value} {st : List Value} {n k : Nat} (kf : sn_KF γ κ o tab M d mc ms) {i : Instr} {len nx tg : Nat} (hi : (pc, i, len, nx, tg) ∈ tab) {φ : Prop} {pc' : Nat} {lv' : List Value} {st' : List Value} (h1 : sn_ps o M.2.2.1 i nx tg pc lv st = some (φ, pc', lv', st')) (hφ : φ)
    (K : sn_AW γ κ M.2.2.1 Q h pc' lv' st' n k) : sn_AW γ κ M.2.2.1 Q h pc lv st n k := by
  intro H locs ls hR hl hS
  obtain ⟨hx, hb, hml, hown, hts, hGK, hsz, hlk, hrt, hT, hrm, hnm⟩ := kf
  obtain ⟨p, l, e, R, s, m, args, below, meth, c⟩ := κ
  obtain ⟨hd, hj⟩ := hT _ hi
  clear hi
  have hnx := sn_jok_nx hj
  dsimp only at *
  cases i with
  | iconst c =>
    have hn := sn_jok_len hj (by simp [sn_len])
    have htg := sn_jok_con hj rfl
    subst htg
    subst hn; subst hnx
    simp only [sn_ps] at h1
    cases c with
    | ofNat k => cases h1; exact lv_iconst hx hb hd (sn_ic1 k) (K H locs ls hR hl hS)
    | negSucc k => cases h1; exact lv_iconst hx hb hd (sn_ic2 k) (K H locs ls hR hl hS)
  | bipush c =>
    have hn := sn_jok_len hj (by simp [sn_len])
    have htg := sn_jok_con hj rfl
    subst htg
    subst hn; subst hnx
    simp only [sn_ps] at h1
    cases c with
    | ofNat k =>
      cases hq : Nat.blt k 128 with
      | true => simp only [hq, cond_true] at h1; cases h1; exact lv_bipush hx hb hd (sn_bi1 k (Nat.blt_eq.mp hq)) (K H locs ls hR hl hS)
      | false => simp only [hq, cond_false] at h1; cases h1
    | negSucc k =>
      cases hq : Nat.blt k 128 with
      | true => simp only [hq, cond_true] at h1; cases h1; exact lv_bipush hx hb hd (sn_bi2 k (Nat.blt_eq.mp hq)) (K H locs ls hR hl hS)
      | false => simp only [hq, cond_false] at h1; cases h1
  | sipush c =>
    have hn := sn_jok_len hj (by simp [sn_len])
    have htg := sn_jok_con hj rfl
    subst htg
    subst hn; subst hnx
    simp only [sn_ps] at h1
    cases c with
    | ofNat k =>
      cases hq2 : Nat.beq k 4096 with
      | true =>
        simp only [hq2, cond_true] at h1
        have e := Nat.eq_of_beq_eq_true hq2
        subst e
        cases h1
        exact lv_sipush hx hb hd sn_si2 (K H locs ls hR hl hS)
      | false =>
        simp only [hq2, cond_false] at h1
        cases hq : Nat.blt k 1024 with
        | true => simp only [hq, cond_true] at h1; cases h1; exact lv_sipush hx hb hd (sn_si1 k (Nat.blt_eq.mp hq)) (K H locs ls hR hl hS)
        | false => simp only [hq, cond_false] at h1; cases h1
    | negSucc k => cases h1
  | lconst c =>
    have hn := sn_jok_len hj (by simp [sn_len])
    subst hn; subst hnx
    simp only [sn_ps] at h1
    cases hq : Nat.beq c.val 0 with
    | true =>
      simp only [hq, cond_true] at h1
      have e := Nat.eq_of_beq_eq_true hq
      cases h1
      exact lv_lconst hx hb hd (by rw [e]; rfl) (K H locs ls hR hl hS)
    | false =>
      simp only [hq, cond_false] at h1
      have e : c.val = 1 := by
        have := c.isLt
        have : c.val ≠ 0 := fun q => by rw [q] at hq; cases hq
        omega
      cases h1
      exact lv_lconst hx hb hd (by rw [e]; rfl) (K H locs ls hR hl hS)
  | ldc2_w k =>
    have hn := sn_jok_len hj (by simp [sn_len])
    subst hn; subst hnx
    simp only [sn_ps] at h1
    split at h1 <;> first | (cases h1; done) | skip
    rename_i v hv
    cases h1
    exact lv_ldc2 hx hb hown (hts _ (sn_cl_ok hv)) hd (K H locs ls hR hl hS)
  | ldc k =>
    have hn := sn_jok_len hj (by simp [sn_len])
    subst hn; subst hnx
    simp only [sn_ps] at h1
    split at h1 <;> first | (cases h1; done) | skip
    rename_i v hv
    cases h1
    exact lv_ldc hx hb hown (hts _ (sn_ci_ok hv)) hd (K H locs ls hR hl hS)
  | ldc_w k =>
    have hn := sn_jok_len hj (by simp [sn_len])
    subst hn; subst hnx
    simp only [sn_ps] at h1
    split at h1 <;> first | (cases h1; done) | skip
    rename_i v hv
    cases h1
    exact lv_ldcw hx hb hown (hts _ (sn_ci_ok hv)) hd (K H locs ls hR hl hS)
  | aconst_null =>
    have hn := sn_jok_len hj (by simp [sn_len])
    subst hn; subst hnx
    simp only [sn_ps] at h1
    cases h1
    exact lv_null hx hb hd (K H locs ls hR hl hS)
  | iload_n k =>
    have hn := sn_jok_len hj (by simp [sn_len])
    subst hn; subst hnx
    simp only [sn_ps] at h1
    split at h1 <;> first | (cases h1; done) | skip
    rename_i v hv
    cases h1
    exact lv_iload_n hx hb hd rfl (sn_lv hl hv rfl) (K H locs ls hR hl hS)
  | iload k =>
    have hn := sn_jok_len hj (by simp [sn_len])
    subst hn; subst hnx
    simp only [sn_ps] at h1
    split at h1 <;> first | (cases h1; done) | skip
    rename_i v hv
    cases h1
    exact lv_iload hx hb hd (sn_lv hl hv rfl) (K H locs ls hR hl hS)
  | lload_n k =>
    have hn := sn_jok_len hj (by simp [sn_len])
    subst hn; subst hnx
    simp only [sn_ps] at h1
    split at h1 <;> first | (cases h1; done) | skip
    rename_i v hv
    cases h1
    exact lv_lload_n hx hb hd rfl (sn_lv hl hv rfl) (K H locs ls hR hl hS)
  | lload k =>
    have hn := sn_jok_len hj (by simp [sn_len])
    subst hn; subst hnx
    simp only [sn_ps] at h1
    split at h1 <;> first | (cases h1; done) | skip
    rename_i v hv
    cases h1
    exact lv_lload hx hb hd (sn_lv hl hv rfl) (K H locs ls hR hl hS)
  | aload_n k =>
    have hn := sn_jok_len hj (by simp [sn_len])
    subst hn; subst hnx
    simp only [sn_ps] at h1
    split at h1
    · rename_i v hv; cases h1; exact lv_aload_n hx hb hd rfl (sn_lv hl hv rfl) (K H locs ls hR hl hS)
    · rename_i hv; cases h1; exact lv_aload_nN hx hb hd rfl (sn_lv hl hv rfl) (K H locs ls hR hl hS)
    · cases h1
  | aload k =>
    have hn := sn_jok_len hj (by simp [sn_len])
    subst hn; subst hnx
    simp only [sn_ps] at h1
    split at h1
    · rename_i v hv; cases h1; exact lv_aload hx hb hd (sn_lv hl hv rfl) (K H locs ls hR hl hS)
    · rename_i hv; cases h1; exact lv_aloadN hx hb hd (sn_lv hl hv rfl) (K H locs ls hR hl hS)
    · cases h1
  | istore_n k =>
    have hn := sn_jok_len hj (by simp [sn_len])
    subst hn; subst hnx
    simp only [sn_ps] at h1
    split at h1 <;> first | (cases h1; done) | skip
    rename_i x r
    cases hq : Nat.blt k.val M.2.2.1 with
    | true => simp only [hq, cond_true] at h1; cases h1; exact lv_istore_n hx hb hd rfl hl (Nat.blt_eq.mp hq) rfl (fun ls2 hl2 => K H locs ls2 hR (sn_L1 hl2) hS)
    | false => simp only [hq, cond_false] at h1; cases h1
  | istore k =>
    have hn := sn_jok_len hj (by simp [sn_len])
    subst hn; subst hnx
    simp only [sn_ps] at h1
    split at h1 <;> first | (cases h1; done) | skip
    rename_i x r
    cases hq : Nat.blt k M.2.2.1 with
    | true => simp only [hq, cond_true] at h1; cases h1; exact lv_istore hx hb hd hl (Nat.blt_eq.mp hq) rfl (fun ls2 hl2 => K H locs ls2 hR (sn_L1 hl2) hS)
    | false => simp only [hq, cond_false] at h1; cases h1
  | lstore_n k =>
    have hn := sn_jok_len hj (by simp [sn_len])
    subst hn; subst hnx
    simp only [sn_ps] at h1
    split at h1 <;> first | (cases h1; done) | skip
    rename_i x r
    cases hq : Nat.blt (k.val + 1) M.2.2.1 with
    | true => simp only [hq, cond_true] at h1; cases h1; exact lv_lstore_n hx hb hd rfl hl (Nat.blt_eq.mp hq) rfl (fun ls2 hl2 => K H locs ls2 hR (sn_L2 hl2) hS)
    | false => simp only [hq, cond_false] at h1; cases h1
  | lstore k =>
    have hn := sn_jok_len hj (by simp [sn_len])
    subst hn; subst hnx
    simp only [sn_ps] at h1
    split at h1 <;> first | (cases h1; done) | skip
    rename_i x r
    cases hq : Nat.blt (k + 1) M.2.2.1 with
    | true => simp only [hq, cond_true] at h1; cases h1; exact lv_lstore hx hb hd hl (Nat.blt_eq.mp hq) rfl (fun ls2 hl2 => K H locs ls2 hR (sn_L2 hl2) hS)
    | false => simp only [hq, cond_false] at h1; cases h1
  | astore_n k =>
    have hn := sn_jok_len hj (by simp [sn_len])
    subst hn; subst hnx
    simp only [sn_ps] at h1
    split at h1
    · rename_i x r
      cases hq : Nat.blt k.val M.2.2.1 with
      | true => simp only [hq, cond_true] at h1; cases h1; exact lv_astore_n hx hb hd rfl hl (Nat.blt_eq.mp hq) rfl (fun ls2 hl2 => K H locs ls2 hR (sn_L1 hl2) hS)
      | false => simp only [hq, cond_false] at h1; cases h1
    · rename_i r
      cases hq : Nat.blt k.val M.2.2.1 with
      | true => simp only [hq, cond_true] at h1; cases h1; exact lv_astore_nN hx hb hd rfl hl (Nat.blt_eq.mp hq) rfl (fun ls2 hl2 => K H locs ls2 hR (sn_L1 hl2) hS)
      | false => simp only [hq, cond_false] at h1; cases h1
    · cases h1
  | astore k =>
    have hn := sn_jok_len hj (by simp [sn_len])
    subst hn; subst hnx
    simp only [sn_ps] at h1
    split at h1
    · rename_i x r
      cases hq : Nat.blt k M.2.2.1 with
      | true => simp only [hq, cond_true] at h1; cases h1; exact lv_astore hx hb hd hl (Nat.blt_eq.mp hq) rfl (fun ls2 hl2 => K H locs ls2 hR (sn_L1 hl2) hS)
      | false => simp only [hq, cond_false] at h1; cases h1
    · rename_i r
      cases hq : Nat.blt k M.2.2.1 with
      | true => simp only [hq, cond_true] at h1; cases h1; exact lv_astoreN hx hb hd hl (Nat.blt_eq.mp hq) rfl (fun ls2 hl2 => K H locs ls2 hR (sn_L1 hl2) hS)
      | false => simp only [hq, cond_false] at h1; cases h1
    · cases h1
  | iinc k c =>
    have hn := sn_jok_len hj (by simp [sn_len])
    have htg := sn_jok_con hj rfl
    subst htg
    subst hn; subst hnx
    simp only [sn_ps] at h1
    split at h1 <;> first | (cases h1; done) | skip
    rename_i x hv
    cases hq : Nat.blt k M.2.2.1 with
    | true =>
      simp only [hq, cond_true] at h1
      obtain ⟨j, hj2⟩ := List.getElem?_of_mem (sn_gl_mem (γ := γ) hv rfl)
      cases c with
      | ofNat j2 => cases h1; exact lv_iinc hx hb hd hl hj2 (by rw [sn_ic1]; rfl) (Nat.blt_eq.mp hq) rfl (fun ls2 hl2 => K H locs ls2 hR (sn_L1 hl2) hS)
      | negSucc j2 => cases h1; exact lv_iinc hx hb hd hl hj2 (by rw [sn_ic3]; rfl) (Nat.blt_eq.mp hq) rfl (fun ls2 hl2 => K H locs ls2 hR (sn_L1 hl2) hS)
    | false => simp only [hq, cond_false] at h1; cases h1
  | iadd =>
    have hn := sn_jok_len hj (by simp [sn_len])
    subst hn; subst hnx
    simp only [sn_ps] at h1
    split at h1 <;> first | (cases h1; done) | skip
    cases h1
    exact lv_iadd hx hb hd (K H locs ls hR hl hS)
  | isub =>
    have hn := sn_jok_len hj (by simp [sn_len])
    subst hn; subst hnx
    simp only [sn_ps] at h1
    split at h1 <;> first | (cases h1; done) | skip
    cases h1
    exact lv_isub hx hb hd (K H locs ls hR hl hS)
  | imul =>
    have hn := sn_jok_len hj (by simp [sn_len])
    subst hn; subst hnx
    simp only [sn_ps] at h1
    split at h1 <;> first | (cases h1; done) | skip
    cases h1
    exact lv_imul hx hb hd (K H locs ls hR hl hS)
  | iand =>
    have hn := sn_jok_len hj (by simp [sn_len])
    subst hn; subst hnx
    simp only [sn_ps] at h1
    split at h1 <;> first | (cases h1; done) | skip
    cases h1
    exact lv_iand hx hb hd (K H locs ls hR hl hS)
  | ior =>
    have hn := sn_jok_len hj (by simp [sn_len])
    subst hn; subst hnx
    simp only [sn_ps] at h1
    split at h1 <;> first | (cases h1; done) | skip
    cases h1
    exact lv_ior hx hb hd (K H locs ls hR hl hS)
  | ixor =>
    have hn := sn_jok_len hj (by simp [sn_len])
    subst hn; subst hnx
    simp only [sn_ps] at h1
    split at h1 <;> first | (cases h1; done) | skip
    cases h1
    exact lv_ixor hx hb hd (K H locs ls hR hl hS)
  | ishl =>
    have hn := sn_jok_len hj (by simp [sn_len])
    subst hn; subst hnx
    simp only [sn_ps] at h1
    split at h1 <;> first | (cases h1; done) | skip
    cases h1
    exact lv_ishl hx hb hd (K H locs ls hR hl hS)
  | ishr =>
    have hn := sn_jok_len hj (by simp [sn_len])
    subst hn; subst hnx
    simp only [sn_ps] at h1
    split at h1 <;> first | (cases h1; done) | skip
    cases h1
    exact lv_ishr hx hb hd (K H locs ls hR hl hS)
  | ladd =>
    have hn := sn_jok_len hj (by simp [sn_len])
    subst hn; subst hnx
    simp only [sn_ps] at h1
    split at h1 <;> first | (cases h1; done) | skip
    cases h1
    exact lv_ladd hx hb hd (K H locs ls hR hl hS)
  | lsub =>
    have hn := sn_jok_len hj (by simp [sn_len])
    subst hn; subst hnx
    simp only [sn_ps] at h1
    split at h1 <;> first | (cases h1; done) | skip
    cases h1
    exact lv_lsub hx hb hd (K H locs ls hR hl hS)
  | lmul =>
    have hn := sn_jok_len hj (by simp [sn_len])
    subst hn; subst hnx
    simp only [sn_ps] at h1
    split at h1 <;> first | (cases h1; done) | skip
    cases h1
    exact lv_lmul hx hb hd (K H locs ls hR hl hS)
  | land =>
    have hn := sn_jok_len hj (by simp [sn_len])
    subst hn; subst hnx
    simp only [sn_ps] at h1
    split at h1 <;> first | (cases h1; done) | skip
    cases h1
    exact lv_land hx hb hd (K H locs ls hR hl hS)
  | lor =>
    have hn := sn_jok_len hj (by simp [sn_len])
    subst hn; subst hnx
    simp only [sn_ps] at h1
    split at h1 <;> first | (cases h1; done) | skip
    cases h1
    exact lv_lor hx hb hd (K H locs ls hR hl hS)
  | lxor =>
    have hn := sn_jok_len hj (by simp [sn_len])
    subst hn; subst hnx
    simp only [sn_ps] at h1
    split at h1 <;> first | (cases h1; done) | skip
    cases h1
    exact lv_lxor hx hb hd (K H locs ls hR hl hS)
  | iushr =>
    have hn := sn_jok_len hj (by simp [sn_len])
    subst hn; subst hnx
    simp only [sn_ps] at h1
    split at h1 <;> first | (cases h1; done) | skip
    cases h1
    exact lv_iushr hx hb hd rfl (K H locs ls hR hl hS)
  | lshl =>
    have hn := sn_jok_len hj (by simp [sn_len])
    subst hn; subst hnx
    simp only [sn_ps] at h1
    split at h1 <;> first | (cases h1; done) | skip
    cases h1
    exact lv_lshl hx hb hd rfl (K H locs ls hR hl hS)
  | lshr =>
    have hn := sn_jok_len hj (by simp [sn_len])
    subst hn; subst hnx
    simp only [sn_ps] at h1
    split at h1 <;> first | (cases h1; done) | skip
    cases h1
    exact lv_lshr hx hb hd rfl (K H locs ls hR hl hS)
  | lushr =>
    have hn := sn_jok_len hj (by simp [sn_len])
    subst hn; subst hnx
    simp only [sn_ps] at h1
    split at h1 <;> first | (cases h1; done) | skip
    cases h1
    exact lv_lushr hx hb hd rfl (K H locs ls hR hl hS)
  | i2l =>
    have hn := sn_jok_len hj (by simp [sn_len])
    subst hn; subst hnx
    simp only [sn_ps] at h1
    split at h1 <;> first | (cases h1; done) | skip
    cases h1
    exact lv_i2l hx hb hd rfl (K H locs ls hR hl hS)
  | l2i =>
    have hn := sn_jok_len hj (by simp [sn_len])
    subst hn; subst hnx
    simp only [sn_ps] at h1
    split at h1 <;> first | (cases h1; done) | skip
    cases h1
    exact lv_l2i hx hb hd rfl (K H locs ls hR hl hS)
  | i2b =>
    have hn := sn_jok_len hj (by simp [sn_len])
    subst hn; subst hnx
    simp only [sn_ps] at h1
    split at h1 <;> first | (cases h1; done) | skip
    cases h1
    exact lv_i2b hx hb hd rfl (K H locs ls hR hl hS)
  | idiv =>
    have hn := sn_jok_len hj (by simp [sn_len])
    subst hn; subst hnx
    simp only [sn_ps] at h1
    split at h1 <;> first | (cases h1; done) | skip
    cases h1
    exact lv_idiv hx hb hd hφ (K H locs ls hR hl hS)
  | irem =>
    have hn := sn_jok_len hj (by simp [sn_len])
    subst hn; subst hnx
    simp only [sn_ps] at h1
    split at h1 <;> first | (cases h1; done) | skip
    cases h1
    exact lv_irem hx hb hd hφ (K H locs ls hR hl hS)
  | ldiv =>
    have hn := sn_jok_len hj (by simp [sn_len])
    subst hn; subst hnx
    simp only [sn_ps] at h1
    split at h1 <;> first | (cases h1; done) | skip
    cases h1
    exact lv_ldiv hx hb hd hφ (K H locs ls hR hl hS)
  | lcmp =>
    have hn := sn_jok_len hj (by simp [sn_len])
    subst hn; subst hnx
    simp only [sn_ps] at h1
    split at h1 <;> first | (cases h1; done) | skip
    cases h1
    exact W.lcmp hx hb hd (K H locs ls hR hl hS)
  | dup =>
    have hn := sn_jok_len hj (by simp [sn_len])
    subst hn; subst hnx
    simp only [sn_ps] at h1
    split at h1
    · cases h1; exact lv_dup hx hb hd rfl (K H locs ls hR hl hS)
    · cases h1; exact lv_dup hx hb hd rfl (K H locs ls hR hl hS)
    · cases h1
  | dup2 =>
    have hn := sn_jok_len hj (by simp [sn_len])
    subst hn; subst hnx
    simp only [sn_ps] at h1
    split at h1 <;> first | (cases h1; done) | skip
    cases h1
    exact lv_dup2_11 hx hb hd rfl rfl (K H locs ls hR hl hS)
  | goto off =>
    have hn := sn_jok_len hj (by simp [sn_len])
    subst hn; subst hnx
    simp only [sn_ps] at h1
    have ht := sn_jok_tg hj (o := off) rfl
    cases h1
    exact lv_goto hx hb hd ht (K H locs ls hR hl hS)
  | ifCond cd off =>
    have hn := sn_jok_len hj (by simp [sn_len])
    subst hn; subst hnx
    simp only [sn_ps] at h1
    have ht := sn_jok_tg hj (o := off) rfl
    split at h1 <;> first | (cases h1; done) | skip
    rename_i x r
    cases cd with
    | eq =>
      cases h1
      exact lv_if_eq hx hb hd ht (fun q => by rw [if_pos q] at K; exact K H locs ls hR hl hS) (fun q => by rw [if_neg q] at K; exact K H locs ls hR hl hS)
    | ne =>
      cases h1
      exact lv_if_ne hx hb hd ht (fun q => by rw [if_neg q] at K; exact K H locs ls hR hl hS) (fun q => by rw [if_pos q] at K; exact K H locs ls hR hl hS)
    | lt =>
      cases h1
      exact lv_if_lt hx hb hd ht (fun q => by rw [if_pos q] at K; exact K H locs ls hR hl hS) (fun q => by rw [if_neg q] at K; exact K H locs ls hR hl hS)
    | ge =>
      cases h1
      exact lv_if_ge hx hb hd ht (fun q => by rw [if_pos q] at K; exact K H locs ls hR hl hS) (fun q => by rw [if_neg q] at K; exact K H locs ls hR hl hS)
    | gt =>
      cases h1
      exact lv_if_gt hx hb hd ht (fun q => by rw [if_pos q] at K; exact K H locs ls hR hl hS) (fun q => by rw [if_neg q] at K; exact K H locs ls hR hl hS)
    | le =>
      cases h1
      exact lv_if_le hx hb hd ht (fun q => by rw [if_pos q] at K; exact K H locs ls hR hl hS) (fun q => by rw [if_neg q] at K; exact K H locs ls hR hl hS)
  | if_icmp cd off =>
    have hn := sn_jok_len hj (by simp [sn_len])
    subst hn; subst hnx
    simp only [sn_ps] at h1
    have ht := sn_jok_tg hj (o := off) rfl
    split at h1 <;> first | (cases h1; done) | skip
    rename_i y x r
    cases cd with
    | eq =>
      cases h1
      exact lv_icmp_eq hx hb hd ht (fun q => by rw [if_pos q] at K; exact K H locs ls hR hl hS) (fun q => by rw [if_neg q] at K; exact K H locs ls hR hl hS)
    | ne =>
      cases h1
      exact lv_icmp_ne hx hb hd ht (fun q => by rw [if_neg q] at K; exact K H locs ls hR hl hS) (fun q => by rw [if_pos q] at K; exact K H locs ls hR hl hS)
    | lt =>
      cases h1
      exact lv_icmp_lt hx hb hd ht (fun q => by rw [if_pos q] at K; exact K H locs ls hR hl hS) (fun q => by rw [if_neg q] at K; exact K H locs ls hR hl hS)
    | ge =>
      cases h1
      exact lv_icmp_ge hx hb hd ht (fun q => by rw [if_pos q] at K; exact K H locs ls hR hl hS) (fun q => by rw [if_neg q] at K; exact K H locs ls hR hl hS)
    | gt =>
      cases h1
      exact lv_icmp_gt hx hb hd ht (fun q => by rw [if_pos q] at K; exact K H locs ls hR hl hS) (fun q => by rw [if_neg q] at K; exact K H locs ls hR hl hS)
    | le =>
      cases h1
      exact lv_icmp_le hx hb hd ht (fun q => by rw [if_pos q] at K; exact K H locs ls hR hl hS) (fun q => by rw [if_neg q] at K; exact K H locs ls hR hl hS)
  | ifnull off =>
    have hn := sn_jok_len hj (by simp [sn_len])
    subst hn; subst hnx
    simp only [sn_ps] at h1
    have ht := sn_jok_tg hj (o := off) rfl
    split at h1
    · cases h1; exact lv_ifnull hx hb hd (K H locs ls hR hl hS)
    · cases h1; exact lv_ifnullN hx hb hd ht (K H locs ls hR hl hS)
    · cases h1
  | ifnonnull off =>
    have hn := sn_jok_len hj (by simp [sn_len])
    subst hn; subst hnx
    simp only [sn_ps] at h1
    have ht := sn_jok_tg hj (o := off) rfl
    split at h1
    · cases h1; exact lv_ifnonnull hx hb hd ht (K H locs ls hR hl hS)
    · cases h1; exact lv_ifnonnullN hx hb hd (K H locs ls hR hl hS)
    · cases h1
  | tableswitch dflt lo hi offs =>
    simp only [sn_ps] at h1
    split at h1 <;> first | (cases h1; done) | skip
    rename_i x r
    cases hq : sn_swok pc dflt lo hi offs with
    | false => simp only [hq, cond_false] at h1; cases h1
    | true =>
      simp only [hq, cond_true] at h1
      cases h1
      simp only [sn_swok, Bool.and_eq_true, decide_eq_true_eq] at hq
      obtain ⟨⟨q1, q2⟩, q3⟩ := hq
      unfold sn_sw at K
      by_cases hc : x.toInt < lo ∨ hi < x.toInt
      · rw [if_pos hc] at K
        exact lv_tableOut hx hb hd hc (by omega) (K H locs ls hR hl hS)
      · rw [if_neg hc] at K
        have hlt : (x.toInt - lo).toNat < offs.size := by omega
        have hget : offs[(x.toInt - lo).toNat]? = some offs[(x.toInt - lo).toNat] := Array.getElem?_eq_getElem hlt
        rw [hget] at K
        have q4 := List.all_eq_true.mp q2 offs[(x.toInt - lo).toNat] (Array.mem_toList_iff.mpr (Array.getElem_mem hlt))
        simp only [decide_eq_true_eq] at q4
        exact lv_tableIn hx hb hd (fun q => hc (Or.inl q)) (fun q => hc (Or.inr q)) hget (by rw [Option.getD_some]; omega) (K H locs ls hR hl hS)
  | _ => exact absurd h1 (by simp [sn_ps])
end
section
/-! EV: what a method does from a point on, whatever machine stands there -/
abbrev sn_E : Type := Nat × sn_Tb × sn_Md
abbrev sn_W (κ : sn_K) (H : Heap) (locs : List Loc) (n k : Nat) (Q : State → Prop) (g : JFrame) : Prop := W κ.1 κ.2.1 κ.2.2.1 κ.2.2.2.1 κ.2.2.2.2.1 κ.2.2.2.2.2.1 κ.2.2.2.2.2.2.1 κ.2.2.2.2.2.2.2.1 κ.2.2.2.2.2.2.2.2.1 κ.2.2.2.2.2.2.2.2.2 H locs n k Q g
def sn_sl (c : va_E) : Nat := match c with
  | .inl (_, n, _) => n
  | .inr (_, fs) => fs.length
def sn_hs (h : sn_H) : Nat := (h.map sn_sl).sum
theorem sn_hs_app (h : sn_H) (c : va_E) : sn_hs (h ++ [c]) = sn_hs h + sn_sl c := by simp [sn_hs]
theorem sn_hs_set {h : sn_H} {i : Nat} {c c' : va_E} (hi : h[i]? = some c) (e : sn_sl c' = sn_sl c) : sn_hs (h.set i c') = sn_hs h := by
  induction h generalizing i with
  | nil => cases hi
  | cons a r ih =>
    cases i with
    | zero =>
      have e2 : a = c := Option.some.inj hi
      subst e2
      simp [sn_hs, e]
    | succ j =>
      have := ih (i := j) hi
      simp [sn_hs] at this ⊢
      omega
def sn_Rt (i : Instr) (r : Option Value) : Prop := match r, i with
  | none, .return_ => True
  | some (.int _), .ireturn => True
  | some (.long _), .lreturn => True
  | some (.ref _), .areturn => True
  | some .null, .areturn => True
  | _, _ => False
abbrev sn_O : Type := sn_G → sn_K → Prop
def o0 : sn_O := fun _ _ => True
def Ev (Ω : sn_O) (d : Nat) (E : sn_E) (pc : Nat) (lv st : List Value) (h : sn_H) (r : Option Value) (h' : sn_H) : Prop :=
  (h.length ≤ h'.length ∧ sn_hs h ≤ sn_hs h') ∧ ∀ (γ : sn_G) (κ : sn_K) (mc ms : Nat) (Q : State → Prop) (n k : Nat), sn_KF γ κ E.1 E.2.1 E.2.2 d mc ms → Ω γ κ → n + (h'.length - h.length) ≤ mc → k + (sn_hs h' - sn_hs h) ≤ ms →
    (∀ (pcR : Nat) (iR : Instr) (ls : Array Slot) (H : Heap) (locs : List Loc), decode E.2.2.2.1 pcR = .ok (iR, 1) → sn_Rt iR r → sn_HR γ h' H → va_S (sn_A γ) κ.2.2.2.2.1.heap H locs →
      sn_W κ H locs (n + (h'.length - h.length)) (k + (sn_hs h' - sn_hs h)) Q (F0 κ.2.2.2.2.2.1 pcR ls (r.toList.map (sn_tr γ)))) →
    sn_AW γ κ E.2.2.2.2.1 Q h pc lv st n k
theorem Ev.gen {Ω : sn_O} {d : Nat} {E : sn_E} {pc pc' : Nat} {lv st lv' st' : List Value} {h h1 h' : sn_H} {r : Option Value} (dn dk : Nat) (hl : h1.length = h.length + dn) (hk : sn_hs h1 = sn_hs h + dk)
    (S : ∀ (γ : sn_G) (κ : sn_K) (mc ms : Nat) (Q : State → Prop) (n k : Nat), sn_KF γ κ E.1 E.2.1 E.2.2 d mc ms → Ω γ κ → n + dn ≤ mc → k + dk ≤ ms → sn_AW γ κ E.2.2.2.2.1 Q h1 pc' lv' st' (n + dn) (k + dk) → sn_AW γ κ E.2.2.2.2.1 Q h pc lv st n k)
    (K : Ev Ω d E pc' lv' st' h1 r h') : Ev Ω d E pc lv st h r h' := by
  obtain ⟨⟨k1, k2⟩, K⟩ := K
  refine ⟨⟨by omega, by omega⟩, fun γ κ mc ms Q n k kf om a b R => ?_⟩
  refine S γ κ mc ms Q n k kf om (by omega) (by omega) (K γ κ mc ms Q (n + dn) (k + dk) kf om (by omega) (by omega) ?_)
  have e1 : n + dn + (h'.length - h1.length) = n + (h'.length - h.length) := by omega
  have e2 : k + dk + (sn_hs h' - sn_hs h1) = k + (sn_hs h' - sn_hs h) := by omega
  rw [e1, e2]
  exact R
theorem Ev.same {Ω : sn_O} {d : Nat} {E : sn_E} {pc pc' : Nat} {lv st lv' st' : List Value} {h h' : sn_H} {r : Option Value}
    (S : ∀ (γ : sn_G) (κ : sn_K) (mc ms : Nat) (Q : State → Prop) (n k : Nat), sn_KF γ κ E.1 E.2.1 E.2.2 d mc ms → Ω γ κ → sn_AW γ κ E.2.2.2.2.1 Q h pc' lv' st' n k → sn_AW γ κ E.2.2.2.2.1 Q h pc lv st n k)
    (K : Ev Ω d E pc' lv' st' h r h') : Ev Ω d E pc lv st h r h' :=
  Ev.gen 0 0 rfl rfl (fun γ κ mc ms Q n k kf om _ _ a => S γ κ mc ms Q n k kf om a) K
theorem Ev.pm {Ω : sn_O} {d : Nat} {E : sn_E} {pc pc' : Nat} {lv st lv' st' : List Value} {h h' : sn_H} {r : Option Value} {i : Instr} {len nx tg : Nat} {φ : Prop} (hi : (pc, i, len, nx, tg) ∈ E.2.1) (h1 : sn_ps E.1 E.2.2.2.2.1 i nx tg pc lv st = some (φ, pc', lv', st')) (hφ : φ)
    (K : Ev Ω d E pc' lv' st' h r h') : Ev Ω d E pc lv st h r h' :=
  Ev.same (fun _ _ _ _ _ _ _ kf _ a => sn_psok kf hi h1 hφ a) K
theorem Ev.p {Ω : sn_O} {d : Nat} {E : sn_E} {pc pc' : Nat} {lv st lv' st' : List Value} {h h' : sn_H} {r : Option Value} {i : Instr} {len nx tg : Nat} {φ : Prop} (hi : sn_tg E.2.1 pc = some (i, len, nx, tg)) (h1 : sn_ps E.1 E.2.2.2.2.1 i nx tg pc lv st = some (φ, pc', lv', st')) (hφ : φ)
    (K : Ev Ω d E pc' lv' st' h r h') : Ev Ω d E pc lv st h r h' := Ev.pm (sn_tg_mem hi) h1 hφ K
/-- a branch: both ways -/
theorem Ev.br {Ω : sn_O} {d : Nat} {E : sn_E} {pc p1 p2 : Nat} {lv st lv' st' : List Value} {h h' : sn_H} {r : Option Value} {i : Instr} {len nx tg : Nat} {c : Prop} [Decidable c] (hi : sn_tg E.2.1 pc = some (i, len, nx, tg)) (h1 : sn_ps E.1 E.2.2.2.2.1 i nx tg pc lv st = some (True, (if c then p1 else p2), lv', st'))
    (K1 : c → Ev Ω d E p1 lv' st' h r h') (K2 : ¬ c → Ev Ω d E p2 lv' st' h r h') : Ev Ω d E pc lv st h r h' := by
  by_cases hc : c
  · rw [if_pos hc] at h1; exact Ev.p hi h1 trivial (K1 hc)
  · rw [if_neg hc] at h1; exact Ev.p hi h1 trivial (K2 hc)
theorem Ev.bt {Ω : sn_O} {d : Nat} {E : sn_E} {pc p1 p2 : Nat} {lv st lv' st' : List Value} {h h' : sn_H} {r : Option Value} {i : Instr} {len nx tg : Nat} {c : Prop} [Decidable c] (hi : sn_tg E.2.1 pc = some (i, len, nx, tg)) (h1 : sn_ps E.1 E.2.2.2.2.1 i nx tg pc lv st = some (True, (if c then p1 else p2), lv', st'))
    (hc : c) (K1 : Ev Ω d E p1 lv' st' h r h') : Ev Ω d E pc lv st h r h' := by
  rw [if_pos hc] at h1; exact Ev.p hi h1 trivial K1
theorem Ev.bf {Ω : sn_O} {d : Nat} {E : sn_E} {pc p1 p2 : Nat} {lv st lv' st' : List Value} {h h' : sn_H} {r : Option Value} {i : Instr} {len nx tg : Nat} {c : Prop} [Decidable c] (hi : sn_tg E.2.1 pc = some (i, len, nx, tg)) (h1 : sn_ps E.1 E.2.2.2.2.1 i nx tg pc lv st = some (True, (if c then p1 else p2), lv', st'))
    (hc : ¬ c) (K2 : Ev Ω d E p2 lv' st' h r h') : Ev Ω d E pc lv st h r h' := by
  rw [if_neg hc] at h1; exact Ev.p hi h1 trivial K2
-- A RUN OF INSTRUCTIONS
def sn_np (i : Instr) : Bool := match i with
  | .idiv => false
  | .irem => false
  | .ldiv => false
  | _ => true
def sn_frc (L : List Value) (k : List Value → Option (Nat × List Value × List Value)) : Option (Nat × List Value × List Value) := match L with
  | [] => k []
  | v :: r => sn_frc r fun r' => k (v :: r')
theorem sn_frc_eq (L : List Value) (k : List Value → Option (Nat × List Value × List Value)) : sn_frc L k = k L := by
  induction L generalizing k with
  | nil => rfl
  | cons v r ih => exact ih _
def sn_from (t : sn_Tb) (pc : Nat) : sn_Tb := match t with
  | [] => []
  | q :: r => bif Nat.beq q.1 pc then q :: r else sn_from r pc
def sn_go (o nL : Nat) (n : Nat) (t : sn_Tb) (pc : Nat) (lv st : List Value) : Option (Nat × List Value × List Value) := match n with
  | 0 => sn_frc lv fun lv2 => sn_frc st fun st2 => some (pc, lv2, st2)
  | m + 1 => match t with
    | [] => none
    | (q1, i, _, nx, tg) :: r => bif Nat.beq q1 pc then (bif sn_np i then (match sn_ps o nL i nx tg q1 lv st with
      | none => none
      | some (_, pc', lv', st') => sn_go o nL m r pc' lv' st') else none) else none
theorem sn_ps_np {o nL : Nat} {i : Instr} {nx tg pc pc' : Nat} {lv st lv' st' : List Value} {φ : Prop} (hn : sn_np i = true) (h : sn_ps o nL i nx tg pc lv st = some (φ, pc', lv', st')) : φ := by
  unfold sn_ps at h
  split at h <;> first | (cases hn; done) | skip
  all_goals (repeat' split at h) <;> first | (cases h; done) | (cases h; trivial) | (simp only [cond_eq_ite] at h; (repeat' split at h) <;> first | (cases h; done) | (cases h; trivial))
theorem sn_from_sub (t : sn_Tb) (pc : Nat) : ∀ q ∈ sn_from t pc, q ∈ t := by
  induction t with
  | nil => intro q hq; exact hq
  | cons a r ih =>
    intro q hq
    unfold sn_from at hq
    cases hb : Nat.beq a.1 pc with
    | true => rw [hb] at hq; exact hq
    | false => rw [hb] at hq; exact List.mem_cons_of_mem _ (ih q hq)
theorem Ev.gos {Ω : sn_O} {d : Nat} {E : sn_E} {h h' : sn_H} {r : Option Value} (n : Nat) : ∀ {t : sn_Tb} {pc pc' : Nat} {lv st lv' st' : List Value}, (∀ q ∈ t, q ∈ E.2.1) → sn_go E.1 E.2.2.2.2.1 n t pc lv st = some (pc', lv', st') → Ev Ω d E pc' lv' st' h r h' → Ev Ω d E pc lv st h r h' := by
  induction n with
  | zero =>
    intro t pc pc' lv st lv' st' hT hg K
    simp only [sn_go, sn_frc_eq] at hg
    cases hg
    exact K
  | succ m ih =>
    intro t pc pc' lv st lv' st' hT hg K
    cases t with
    | nil => cases hg
    | cons q u =>
      obtain ⟨q1, q2, q3, q4, q5⟩ := q
      unfold sn_go at hg
      cases hb : Nat.beq q1 pc with
      | false => simp only [hb, cond_false] at hg; cases hg
      | true =>
        have e := Nat.eq_of_beq_eq_true hb
        subst e
        cases hp : sn_np q2 with
        | false => simp only [hb, hp, cond_false, cond_true] at hg; cases hg
        | true =>
          simp only [hb, hp, cond_true] at hg
          split at hg
          · cases hg
          · rename_i φ p1 l1 s1 hs
            exact Ev.pm (hT _ List.mem_cons_self) hs (sn_ps_np hp hs) (ih (fun q hq => hT q (List.mem_cons_of_mem _ hq)) hg K)
theorem Ev.go {Ω : sn_O} {d : Nat} {E : sn_E} {pc pc' : Nat} {lv st lv' st' : List Value} {h h' : sn_H} {r : Option Value} (n : Nat) (hg : sn_go E.1 E.2.2.2.2.1 n (sn_from E.2.1 pc) pc lv st = some (pc', lv', st')) (K : Ev Ω d E pc' lv' st' h r h') : Ev Ω d E pc lv st h r h' :=
  Ev.gos n (sn_from_sub _ _) hg K
end
section
/-! CELLS: fields, arrays, new ones -/
def sn_cty (ci : Nat) : Nat → FieldType := match ci with
  | 0 => ty_0
  | 1 => ty_1
  | 2 => ty_2
  | 3 => ty_3
  | 4 => ty_4
  | 5 => ty_5
  | 6 => ty_6
  | 7 => ty_7
  | 8 => ty_8
  | _ => ty_9
/-- a class of the list: its words, its fields' types, its fields' names apart -/
def sn_CK (ci : Nat) (q : vw_C) : Prop := sn_cls[ci]? = some q ∧ (∀ w ∈ u_ws q.1 q.2.1 q.2.2, w ∈ sn_gw) ∧ (∀ k, k < q.2.2 → parseFieldDescriptor (q.2.1 k).2.2.1 = some (sn_cty ci k)) ∧ ∀ a, a < q.2.2 → ∀ b, b < q.2.2 → a ≠ b → (q.2.1 a).2.1 ≠ (q.2.1 b).2.1
def sn_LF (o idx ci j : Nat) : Prop := ∃ (q : vw_C) (ref : String), sn_CK ci q ∧ j < q.2.2 ∧ Cond.fieldLink (sn_rn o) idx ref (q.2.1 j).2.1 (q.2.1 j).2.2.1 ∈ sn_gw ∧ (ref = (q.2.1 j).1 ∨ Cond.sameField ref (q.2.1 j).1 (q.2.1 j).2.1 (q.2.1 j).2.2.1 ∈ sn_gw)
/-- a field may be written there: it isn't final, or the method is a constructor of its class -/
def sn_LP (o idx ci j : Nat) (M : sn_Md) : Prop := sn_LF o idx ci j ∧ ∀ q : vw_C, sn_cls[ci]? = some q → (q.2.1 j).2.2.2 = false ∨ ((q.2.1 j).2.2.2 = true ∧ M.1.name = "<init>" ∧ (q.2.1 j).1 = sn_rn o)
def sn_tyok (ty : FieldType) (v : Value) : Bool := match ty, v with
  | .int, .int _ => true
  | .long, .long _ => true
  | .array _, .ref _ => true
  | .object _, .ref _ => true
  | _, _ => false
theorem sn_tyok_ok {γ : sn_G} {ty : FieldType} {v : Value} (h : sn_tyok ty v = true) : narrow ty (sn_tr γ v) = sn_tr γ v ∧ fits ty (sn_tr γ v) = true := by
  unfold sn_tyok at h
  split at h <;> first | exact ⟨rfl, rfl⟩ | cases h
theorem sn_same {γ : sn_G} {κ : sn_K} {o : Nat} {tab : sn_Tb} {M : sn_Md} {d mc ms : Nat} (kf : sn_KF γ κ o tab M d mc ms) {ref own n ds : String} (h : ref = own ∨ Cond.sameField ref own n ds ∈ sn_gw) : ∀ x, κ.2.2.2.2.1.fieldFound? own n ds = some x → κ.2.2.2.2.1.fieldFound? ref n ds = some x := by
  intro x hx
  rcases h with rfl | h
  · exact hx
  · exact u_same (kf.2.2.2.2.1 _ h) x hx
section AW
variable {γ : sn_G} {κ : sn_K} {o : Nat} {tab : sn_Tb} {M : sn_Md} {d mc ms : Nat} {Q : State → Prop} {h : sn_H} {pc : Nat} {lv rest : List Value} {n k : Nat} {len nx tg : Nat}
theorem sn_awGet (kf : sn_KF γ κ o tab M d mc ms) {idx : Nat} (hi : (pc, .getfield idx, len, nx, tg) ∈ tab) {ci j a : Nat} {fs : List Value} {v : Value} (lk : sn_LF o idx ci j) (ha : h[a]? = some (.inr (ci, fs))) (hv : fs[j]? = some v) (K : sn_AW γ κ M.2.2.1 Q h nx lv (v :: rest) n k) : sn_AW γ κ M.2.2.1 Q h pc lv (.ref a :: rest) n k := by
  intro H locs ls hR hl hS
  have sm := fun {ref own n ds : String} h => sn_same (ref := ref) (own := own) (n := n) (ds := ds) kf h
  obtain ⟨hx, hb, hml, hown, hts, hGK, hsz, hlk, hrt, hT, hrm, hnm⟩ := kf
  obtain ⟨p, l, e, R, s, m, args, below, meth, c⟩ := κ
  obtain ⟨hd, hj⟩ := hT _ hi
  have hnx := sn_jok_nx hj
  have hn := sn_jok_len hj (by simp [sn_len])
  subst hn; subst hnx
  obtain ⟨i, rfl⟩ := hR.ne0 ha (fun q => by cases q)
  have hat := hR.2.2 i _ ha
  obtain ⟨⟨C, T, N⟩, ref, hck, hj2, hlink, hsm⟩ := lk
  exact va_get (D := γ.1) (cl := sn_cls) (v := sn_tr γ v) hx hb hts hck.2.1 hown hGK.1 (sn_va_P1 hat) 0 rfl hck.1 j hj2 (hts _ hlink) (sm hsm) (by rw [List.getElem?_map, hv]; rfl) hd (K H locs ls hR hl hS)
theorem sn_awPut (kf : sn_KF γ κ o tab M d mc ms) {idx : Nat} (hi : (pc, .putfield idx, len, nx, tg) ∈ tab) {ci j a : Nat} {fs : List Value} {v : Value} (lk : sn_LP o idx ci j M) (ha : h[a]? = some (.inr (ci, fs))) (hfl : j < fs.length) (hty : sn_tyok (sn_cty ci j) v = true) (K : sn_AW γ κ M.2.2.1 Q (h.set a (.inr (ci, fs.set j v))) nx lv rest n k) : sn_AW γ κ M.2.2.1 Q h pc lv (v :: .ref a :: rest) n k := by
  intro H locs ls hR hl hS
  have sm := fun {ref own n ds : String} h => sn_same (ref := ref) (own := own) (n := n) (ds := ds) kf h
  obtain ⟨hx, hb, hml, hown, hts, hGK, hsz, hlk, hrt, hT, hrm, hnm⟩ := kf
  obtain ⟨p, l, e, R, s, m, args, below, meth, c⟩ := κ
  obtain ⟨hd, hj⟩ := hT _ hi
  have hnx := sn_jok_nx hj
  have hn := sn_jok_len hj (by simp [sn_len])
  subst hn; subst hnx
  obtain ⟨i, rfl⟩ := hR.ne0 ha (fun q => by cases q)
  have hat := hR.2.2 i _ ha
  obtain ⟨⟨⟨C, T, N⟩, ref, hck, hk, hlink, hsm⟩, hfin⟩ := lk
  obtain ⟨hc, hin, hty0, hnm0⟩ := hck
  have hfin := hfin _ hc
  dsimp only at *
  have hK := hGK.1
  have hap := va_apart (own := sn_rn o) hts hin (sn_cty ci) hty0 hnm0 hK hc
  obtain ⟨r, h1, cell, q1, q2, q3, q4⟩ := hat
  have hr : r = (C, T, N) := Option.some.inj (h1.symm.trans hc)
  subst hr
  obtain ⟨hSl, hfc, kC, hkC, hkind⟩ := hK.1 ci _ hc
  obtain ⟨cf, kf, fi, f, hif, hsl⟩ := hSl j hk
  have hlay := hts _ (hin _ (u_in_lay hk))
  have hst := (u_facts hfc hkC (u_lays hts hin hk) hif).1
  obtain ⟨hna, hfi⟩ := sn_tyok_ok (γ := γ) hty
  have hlm : j < (fs.map (sn_tr γ)).length := by rw [List.length_map]; exact hfl
  have fin : ∀ (H' : Heap), H'[γ.2.2.2 + i]? = some (cell.setSlot f.slot (sn_tr γ v)) → H'.size = H.size → (∀ q, q ≠ γ.2.2.2 + i → H'[q]? = H[q]?) → W p l e R s m args below meth c H' (locs ++ [⟨γ.2.2.2 + i, f.slot⟩]) n k Q (F0 m (pc + 3) ls (rest.map (sn_tr γ))) := by
    intro H' e1 e2 e3
    refine K H' _ ls (hR.set ha ?_ e2 e3) hl (hS.put e2 e3 (Nat.le_add_right _ _))
    rw [hsl] at e1
    refine ⟨_, hc, t_OB.to (V := updV (vp_V (fs.map (sn_tr γ))) j (sn_tr γ v)) ⟨_, e1, q2, q3, t_set q4 hap hk (sn_tr γ v)⟩ (fun x _ => ?_)⟩
    rw [List.map_set]
    exact vp_updV_set hlm (sn_tr γ v) x
  rcases hfin with hfin | ⟨hfin, hin2, hdecl⟩
  · unfold u_lay at hlay
    rw [if_neg (by rw [hfin]; decide)] at hlay
    have h6 := u_store hfc hkC hkind hlay hif (hty0 j hk) hna hfi
    exact W.putK hx hb (f := f) ⟨hown, hts _ hlink, ⟨_, _, _, sm hsm _ hif⟩, hst⟩ (by rw [q2]; exact h6) q1 q3 (by rw [hsl]; exact k2_hasslot (q4 j hk)) rfl rfl hd fin
  · unfold u_lay at hlay
    rw [if_pos hfin] at hlay
    have hcf : m.cls = cf := by
      obtain ⟨_, _, c', _, _, _, -, -, hf', -, -, -, hown2, -⟩ := Cond.laysFinal_spec hlay
      have e1 : c' = cf := by have := hif.symm.trans hf'; simp at this; exact this.1.symm
      rw [hdecl] at hown2
      rw [← e1]; exact Option.some.inj (hown.symm.trans hown2)
    have h6 := u_fits hfc hkC hkind (Or.inr hlay) hif (hty0 j hk) hna hfi
    exact W.putFinK hx hb hown (hts _ hlink) (sm hsm _ hif) hst hcf (hnm.trans hin2) (by rw [q2]; exact h6) q1 q3 (by rw [hsl]; exact k2_hasslot (q4 j hk)) rfl rfl hd fin
theorem sn_awIald (kf : sn_KF γ κ o tab M d mc ms) (hi : (pc, .iaload, len, nx, tg) ∈ tab) {a N : Nat} {f : Nat → Int32} {i : Int32} (ha : h[a]? = some (.inl (0, N, .inl f))) (hin : vp_in i N) (K : sn_AW γ κ M.2.2.1 Q h nx lv (.int (f i.toNatClampNeg) :: rest) n k) : sn_AW γ κ M.2.2.1 Q h pc lv (.int i :: .ref a :: rest) n k := by
  intro H locs ls hR hl hS
  obtain ⟨hx, hb, hml, hown, hts, hGK, hsz, hlk, hrt, hT, hrm, hnm⟩ := kf
  obtain ⟨p, l, e, R, s, m, args, below, meth, c⟩ := κ
  obtain ⟨hd, hj⟩ := hT _ hi
  have hnx := sn_jok_nx hj
  have hn := sn_jok_len hj (by simp [sn_len])
  subst hn; subst hnx
  obtain ⟨z, rfl⟩ := hR.ne0 ha (fun q => by cases q)
  exact va_iald hx hb hGK.1 (sn_va_P1 (hR.2.2 z _ ha)) 0 0 rfl rfl hin hd (K H locs ls hR hl hS)
theorem sn_awBald (kf : sn_KF γ κ o tab M d mc ms) (hi : (pc, .baload, len, nx, tg) ∈ tab) {a N : Nat} {f : Nat → Int32} {i : Int32} (ha : h[a]? = some (.inl (2, N, .inl f))) (hin : vp_in i N) (K : sn_AW γ κ M.2.2.1 Q h nx lv (.int (f i.toNatClampNeg) :: rest) n k) : sn_AW γ κ M.2.2.1 Q h pc lv (.int i :: .ref a :: rest) n k := by
  intro H locs ls hR hl hS
  obtain ⟨hx, hb, hml, hown, hts, hGK, hsz, hlk, hrt, hT, hrm, hnm⟩ := kf
  obtain ⟨p, l, e, R, s, m, args, below, meth, c⟩ := κ
  obtain ⟨hd, hj⟩ := hT _ hi
  have hnx := sn_jok_nx hj
  have hn := sn_jok_len hj (by simp [sn_len])
  subst hn; subst hnx
  obtain ⟨z, rfl⟩ := hR.ne0 ha (fun q => by cases q)
  exact va_bald hx hb hGK.1 (sn_va_P1 (hR.2.2 z _ ha)) 0 2 rfl rfl hin hd (K H locs ls hR hl hS)
theorem sn_awLald (kf : sn_KF γ κ o tab M d mc ms) (hi : (pc, .laload, len, nx, tg) ∈ tab) {a N : Nat} {f : Nat → Int64} {i : Int32} (ha : h[a]? = some (.inl (1, N, .inr (.inl f)))) (hin : vp_in i N) (K : sn_AW γ κ M.2.2.1 Q h nx lv (.long (f i.toNatClampNeg) :: rest) n k) : sn_AW γ κ M.2.2.1 Q h pc lv (.int i :: .ref a :: rest) n k := by
  intro H locs ls hR hl hS
  obtain ⟨hx, hb, hml, hown, hts, hGK, hsz, hlk, hrt, hT, hrm, hnm⟩ := kf
  obtain ⟨p, l, e, R, s, m, args, below, meth, c⟩ := κ
  obtain ⟨hd, hj⟩ := hT _ hi
  have hnx := sn_jok_nx hj
  have hn := sn_jok_len hj (by simp [sn_len])
  subst hn; subst hnx
  obtain ⟨z, rfl⟩ := hR.ne0 ha (fun q => by cases q)
  exact va_lald hx hb hGK.1 (sn_va_P1 (hR.2.2 z _ ha)) 0 1 rfl rfl hin hd (K H locs ls hR hl hS)
theorem sn_awAald (kf : sn_KF γ κ o tab M d mc ms) (hi : (pc, .aaload, len, nx, tg) ∈ tab) {a N t : Nat} {f : Nat → Option Nat} {i : Int32} (ht : t = 3 ∨ t = 4) (ha : h[a]? = some (.inl (t, N, .inr (.inr (.inr (.inr f)))))) (hin : vp_in i N) (K : sn_AW γ κ M.2.2.1 Q h nx lv (va_rf (f i.toNatClampNeg) :: rest) n k) : sn_AW γ κ M.2.2.1 Q h pc lv (.int i :: .ref a :: rest) n k := by
  intro H locs ls hR hl hS
  obtain ⟨hx, hb, hml, hown, hts, hGK, hsz, hlk, hrt, hT, hrm, hnm⟩ := kf
  obtain ⟨p, l, e, R, s, m, args, below, meth, c⟩ := κ
  obtain ⟨hd, hj⟩ := hT _ hi
  have hnx := sn_jok_nx hj
  have hn := sn_jok_len hj (by simp [sn_len])
  subst hn; subst hnx
  obtain ⟨z, rfl⟩ := hR.ne0 ha (fun q => by cases q)
  have K2 := K H locs ls hR hl hS
  have e1 : sn_tr γ (va_rf (f i.toNatClampNeg)) = va_rf ((f i.toNatClampNeg).map (sn_ad γ.2.2.1 γ.2.2.2)) := by cases f i.toNatClampNeg <;> rfl
  rw [List.map_cons, e1] at K2
  rcases ht with rfl | rfl
  · exact va_aldq hx hb hGK.1 (sn_va_P1 (hR.2.2 z _ ha)) 0 3 rfl rfl hin hd K2
  · exact va_aldq hx hb hGK.1 (sn_va_P1 (hR.2.2 z _ ha)) 0 4 rfl rfl hin hd K2
theorem sn_awAlen (kf : sn_KF γ κ o tab M d mc ms) (hi : (pc, .arraylength, len, nx, tg) ∈ tab) {a N t : Nat} {f : (Nat → Int32) ⊕ (Nat → Int64) ⊕ (Nat → UInt32) ⊕ (Nat → UInt64) ⊕ (Nat → Option Nat)} (ht : t < 5) (ha : h[a]? = some (.inl (t, N, f))) (K : sn_AW γ κ M.2.2.1 Q h nx lv (.int (nI N) :: rest) n k) : sn_AW γ κ M.2.2.1 Q h pc lv (.ref a :: rest) n k := by
  intro H locs ls hR hl hS
  obtain ⟨hx, hb, hml, hown, hts, hGK, hsz, hlk, hrt, hT, hrm, hnm⟩ := kf
  obtain ⟨p, l, e, R, s, m, args, below, meth, c⟩ := κ
  obtain ⟨hd, hj⟩ := hT _ hi
  have hnx := sn_jok_nx hj
  have hn := sn_jok_len hj (by simp [sn_len])
  subst hn; subst hnx
  obtain ⟨z, rfl⟩ := hR.ne0 ha (fun q => by cases q; omega)
  have hty : ∃ ty, (sn_tys γ)[t]? = some (γ.2.1 t, ty) := by
    rcases t with _ | _ | _ | _ | _ | t
    · exact ⟨_, rfl⟩
    · exact ⟨_, rfl⟩
    · exact ⟨_, rfl⟩
    · exact ⟨_, rfl⟩
    · exact ⟨_, rfl⟩
    · omega
  obtain ⟨ty, hty⟩ := hty
  have hat := hR.2.2 z _ ha
  rcases f with f | f | f | f | f
  · exact va_alen hx hb hGK.1 (sn_va_P1 hat) 0 t rfl hty rfl hd (K H locs ls hR hl hS)
  · exact va_alen hx hb hGK.1 (sn_va_P1 hat) 0 t rfl hty rfl hd (K H locs ls hR hl hS)
  · exact va_alen hx hb hGK.1 (sn_va_P1 hat) 0 t rfl hty rfl hd (K H locs ls hR hl hS)
  · exact va_alen hx hb hGK.1 (sn_va_P1 hat) 0 t rfl hty rfl hd (K H locs ls hR hl hS)
  · exact va_alen hx hb hGK.1 (sn_va_P1 hat) 0 t rfl hty rfl hd (K H locs ls hR hl hS)
theorem sn_awIast (kf : sn_KF γ κ o tab M d mc ms) (hi : (pc, .iastore, len, nx, tg) ∈ tab) {a N : Nat} {f : Nat → Int32} {i x : Int32} (ha : h[a]? = some (.inl (0, N, .inl f))) (hin : vp_in i N) (K : sn_AW γ κ M.2.2.1 Q (h.set a (.inl (0, N, .inl (upd f i.toNatClampNeg x)))) nx lv rest n k) : sn_AW γ κ M.2.2.1 Q h pc lv (.int x :: .int i :: .ref a :: rest) n k := by
  intro H locs ls hR hl hS
  obtain ⟨hx, hb, hml, hown, hts, hGK, hsz, hlk, hrt, hT, hrm, hnm⟩ := kf
  obtain ⟨p, l, e, R, s, m, args, below, meth, c⟩ := κ
  obtain ⟨hd, hj⟩ := hT _ hi
  have hnx := sn_jok_nx hj
  have hn := sn_jok_len hj (by simp [sn_len])
  subst hn; subst hnx
  obtain ⟨z, rfl⟩ := hR.ne0 ha (fun q => by cases q)
  refine W.iast hx hb (hR.2.2 z _ ha) ((hGK.1.2 0 _ rfl).1 N (fun j => .int (f j))) (fun q => by cases q) (by show ¬ (i < 0 ∨ (arrV _ _ _).slots.size ≤ _); rw [arrV_size]; exact hin) rfl rfl hd fun H1 e z2 oq => ?_
  refine K H1 _ ls (hR.set ha ?_ z2 oq) hl (hS.put z2 oq (Nat.le_add_right _ _))
  show H1[_]? = some (vp_cell _ _)
  rw [e]
  show some ((vp_cell (γ.2.1 0) (N, .inl f)).setSlot _ _) = _
  rw [vp_cell_i, vp_cell_i, arrV_store]
  congr 2
  funext q
  by_cases hq : q = i.toNatClampNeg
  · subst hq
    simp [updV, upd]
  · simp [updV, upd, hq]
theorem sn_awBast (kf : sn_KF γ κ o tab M d mc ms) (hi : (pc, .bastore, len, nx, tg) ∈ tab) {a N : Nat} {f : Nat → Int32} {i x : Int32} (ha : h[a]? = some (.inl (2, N, .inl f))) (hin : vp_in i N) (K : sn_AW γ κ M.2.2.1 Q (h.set a (.inl (2, N, .inl (upd f i.toNatClampNeg x.toInt8.toInt32)))) nx lv rest n k) : sn_AW γ κ M.2.2.1 Q h pc lv (.int x :: .int i :: .ref a :: rest) n k := by
  intro H locs ls hR hl hS
  obtain ⟨hx, hb, hml, hown, hts, hGK, hsz, hlk, hrt, hT, hrm, hnm⟩ := kf
  obtain ⟨p, l, e, R, s, m, args, below, meth, c⟩ := κ
  obtain ⟨hd, hj⟩ := hT _ hi
  have hnx := sn_jok_nx hj
  have hn := sn_jok_len hj (by simp [sn_len])
  subst hn; subst hnx
  obtain ⟨z, rfl⟩ := hR.ne0 ha (fun q => by cases q)
  refine W.bast hx hb (hR.2.2 z _ ha) ((hGK.1.2 2 _ rfl).1 N (fun j => .int (f j))) (fun q => by cases q) (by show ¬ (i < 0 ∨ (arrV _ _ _).slots.size ≤ _); rw [arrV_size]; exact hin) rfl rfl hd fun H1 e z2 oq => ?_
  refine K H1 _ ls (hR.set ha ?_ z2 oq) hl (hS.put z2 oq (Nat.le_add_right _ _))
  show H1[_]? = some (vp_cell _ _)
  rw [e]
  show some ((vp_cell (γ.2.1 2) (N, .inl f)).setSlot _ _) = _
  rw [vp_cell_i, vp_cell_i, arrV_store]
  congr 2
  funext q
  by_cases hq : q = i.toNatClampNeg
  · subst hq
    simp [updV, upd, narrow]
  · simp [updV, upd, hq]
theorem sn_awLast (kf : sn_KF γ κ o tab M d mc ms) (hi : (pc, .lastore, len, nx, tg) ∈ tab) {a N : Nat} {f : Nat → Int64} {i : Int32} {x : Int64} (ha : h[a]? = some (.inl (1, N, .inr (.inl f)))) (hin : vp_in i N) (K : sn_AW γ κ M.2.2.1 Q (h.set a (.inl (1, N, .inr (.inl (vp_updL f i.toNatClampNeg x))))) nx lv rest n k) : sn_AW γ κ M.2.2.1 Q h pc lv (.long x :: .int i :: .ref a :: rest) n k := by
  intro H locs ls hR hl hS
  obtain ⟨hx, hb, hml, hown, hts, hGK, hsz, hlk, hrt, hT, hrm, hnm⟩ := kf
  obtain ⟨p, l, e, R, s, m, args, below, meth, c⟩ := κ
  obtain ⟨hd, hj⟩ := hT _ hi
  have hnx := sn_jok_nx hj
  have hn := sn_jok_len hj (by simp [sn_len])
  subst hn; subst hnx
  obtain ⟨z, rfl⟩ := hR.ne0 ha (fun q => by cases q)
  refine W.last hx hb (hR.2.2 z _ ha) ((hGK.1.2 1 _ rfl).1 N (fun j => .long (f j))) (fun q => by cases q) (by show ¬ (i < 0 ∨ (arrV _ _ _).slots.size ≤ _); rw [arrV_size]; exact hin) rfl rfl hd fun H1 e z2 oq => ?_
  refine K H1 _ ls (hR.set ha ?_ z2 oq) hl (hS.put z2 oq (Nat.le_add_right _ _))
  show H1[_]? = some (vp_cell _ _)
  rw [e]
  show some ((vp_cell (γ.2.1 1) (N, .inr (.inl f))).setSlot _ _) = _
  rw [vp_cell_l, vp_cell_l, arrV_store]
  congr 2
  funext q
  by_cases hq : q = i.toNatClampNeg
  · subst hq
    simp [updV, vp_updL]
  · simp [updV, vp_updL, hq]
/-- an object of class ci may lie in a row of kind t -/
def sn_asg (t ci : Nat) : Prop := (t = 3 ∧ ci = 2) ∨ (t = 4 ∧ ∃ q : vw_C, sn_cls[ci]? = some q ∧ Cond.castable q.1 "SureNoes$Book" ∈ lw_tbl)
theorem sn_awAast (kf : sn_KF γ κ o tab M d mc ms) (hi : (pc, .aastore, len, nx, tg) ∈ tab) {a N t b ci : Nat} {fs : List Value} {f : Nat → Option Nat} {i : Int32} (hc : ci < 10) (hg : sn_asg t ci) (ha : h[a]? = some (.inl (t, N, .inr (.inr (.inr (.inr f)))))) (hbb : h[b]? = some (.inr (ci, fs))) (hin : vp_in i N) (K : sn_AW γ κ M.2.2.1 Q (h.set a (.inl (t, N, .inr (.inr (.inr (.inr (va_up f i.toNatClampNeg (some b)))))))) nx lv rest n k) : sn_AW γ κ M.2.2.1 Q h pc lv (.ref b :: .int i :: .ref a :: rest) n k := by
  intro H locs ls hR hl hS
  obtain ⟨hx, hb, hml, hown, hts, hGK, hsz, hlk, hrt, hT, hrm, hnm⟩ := kf
  obtain ⟨p, l, e, R, s, m, args, below, meth, c⟩ := κ
  obtain ⟨hd, hj⟩ := hT _ hi
  have hnx := sn_jok_nx hj
  have hn := sn_jok_len hj (by simp [sn_len])
  subst hn; subst hnx
  have ht5 : t = 3 ∨ t = 4 := by rcases hg with q | q; exact Or.inl q.1; exact Or.inr q.1
  obtain ⟨z, rfl⟩ := hR.ne0 ha (fun q => by cases q)
  obtain ⟨y, rfl⟩ := hR.ne0 hbb (fun q => by cases q)
  have hat := hR.2.2 z _ ha
  have hlt : i.toNatClampNeg < N := Nat.not_le.mp fun q => hin (Or.inr q)
  have h0 : ¬ i < 0 := fun q => hin (Or.inl q)
  obtain ⟨r', hr', cellV, g1, g2, g3, -⟩ := hR.2.2 y _ hbb
  have hcls := (hGK.1.1 ci r' hr').2
  obtain ⟨kC, hkC, -⟩ := hcls.2
  dsimp only at *
  have fin : ∃ (E : String) (kA : Class) (comp : ClassId) (kE : Class), s.vm.classes[γ.2.1 t]? = some kA ∧ kA.kind = .array comp (.object E) ∧ s.vm.classes[comp]? = some kE ∧ s.vm.assignable cellV.cls comp = true := by
    rcases hg with ⟨rfl, rfl⟩ | ⟨rfl, q, hq, hca⟩
    · obtain ⟨kA, comp, k1, k2, k3, -⟩ := (hGK.1.2 3 _ rfl).2
      have e9 : r' = (R_2, T_2, 2) := Option.some.inj (hr'.symm.trans rfl)
      subst e9
      have hcomp : comp = γ.1.1 2 := Option.some.inj (k3.symm.trans hcls.1)
      subst hcomp
      exact ⟨_, kA, _, kC, k1, k2, hkC, by rw [g2]; exact va_assign hcls⟩
    · obtain ⟨kA, comp, k1, k2, k3, -⟩ := (hGK.1.2 4 _ rfl).2
      have e9 : r' = q := Option.some.inj (hr'.symm.trans hq)
      subst e9
      obtain ⟨kE, hkE, -⟩ := Vm.findClass_spec k3
      obtain ⟨c0, t1, f1, f2, f3⟩ := Cond.castable_spec (va_Nw.use (A := args) rfl (hGK.2.1 _ hca rfl))
      cases hcls.1.symm.trans f1
      cases k3.symm.trans f2
      exact ⟨_, kA, _, kE, k1, k2, hkE, by rw [g2]; exact f3⟩
  obtain ⟨E, kA, comp, kE, k1, k2, k3, k4⟩ := fin
  refine W.aast hx hb hat (fun q h => by cases h) (fun h => by cases h) k1 k2 rfl k3 ⟨h0, by show _ < (arrV _ _ _).slots.size; rw [arrV_size]; exact hlt⟩ g1 (fun q h => by rw [g3] at h; cases h) (by rw [g2]; exact hkC) k4 rfl rfl hd fun H1 e z2 oq => ?_
  refine K H1 _ ls (hR.set ha ?_ z2 oq) hl (hS.put z2 oq (Nat.le_add_right _ _))
  show H1[_]? = some (vp_cell _ _)
  rw [e]
  show some ((vp_cell (γ.2.1 t) (N, .inr (.inr (.inr (.inr _))))).setSlot _ _) = _
  rw [vp_cell_q, vp_cell_q, arrV_store]
  congr 2
  funext q
  by_cases hq : q = i.toNatClampNeg
  · subst hq
    simp [updV, va_up, va_rf, sn_ad]
  · simp [updV, va_up, hq]
end AW
end
section
/-! NEW CELLS, CASTS, CALLS -/
/-- class ci as the table has it: its link, its fresh fields -/
def sn_LC (o idx ci : Nat) (fs : List Value) : Prop := ∃ q : vw_C, sn_CK ci q ∧ fs.length = q.2.2 ∧ Cond.classLink (sn_rn o) idx q.1 ∈ sn_gw ∧ Cond.instantiable q.1 q.2.2 ∈ sn_gw ∧ Cond.initialized q.1 ∈ sn_gw ∧ ∀ (γ : sn_G) (j : Nat), j < q.2.2 → defaultValue (sn_cty ci j) = vp_V (fs.map (sn_tr γ)) j
section AW
variable {γ : sn_G} {κ : sn_K} {o : Nat} {tab : sn_Tb} {M : sn_Md} {d mc ms : Nat} {Q : State → Prop} {h : sn_H} {pc : Nat} {lv rest : List Value} {n k : Nat} {len nx tg : Nat}
theorem sn_awNew (kf : sn_KF γ κ o tab M d mc ms) {idx ci : Nat} {fs : List Value} (hi : (pc, .new idx, len, nx, tg) ∈ tab) (lk : sn_LC o idx ci fs) (h1 : n + 1 ≤ mc) (h2 : k + fs.length ≤ ms) (K : sn_AW γ κ M.2.2.1 Q (h ++ [.inr (ci, fs)]) nx lv (.ref h.length :: rest) (n + 1) (k + fs.length)) : sn_AW γ κ M.2.2.1 Q h pc lv rest n k := by
  intro H locs ls hR hl hS
  obtain ⟨hx, hb, hml, hown, hts, hGK, hsz, hlk, hrt, hT, hrm, hnm⟩ := kf
  obtain ⟨p, l, e, R, s, m, args, below, meth, c⟩ := κ
  obtain ⟨hd, hj⟩ := hT _ hi
  have hnx := sn_jok_nx hj
  have hn := sn_jok_len hj (by simp [sn_len])
  subst hn; subst hnx
  obtain ⟨⟨C, T, N⟩, hck, hfl, hcl, hinst, hini, hdf⟩ := lk
  obtain ⟨hc, hin, hty0, hnm0⟩ := hck
  dsimp only at *
  have hKn := hGK.1.1 ci _ hc
  rw [hfl] at h2 K
  refine W.newcK hx hb hown (hts _ hcl) (hts _ hinst) (hts _ hini) rfl hd (Nat.le_trans h1 hrm.2.2.1) (Nat.le_trans h2 hrm.2.2.2) hKn.2.1 rfl fun H1 kC hkC e1 z1 o1 => ?_
  have hR1 : sn_HR γ (h ++ [.inr (ci, fs)]) H1 := hR.push ⟨_, hc, (u_born (sn_cty ci) hts hin hKn hkC e1 hty0).to (hdf γ)⟩ z1 o1
  have K2 := K H1 locs ls hR1 hl ⟨Nat.le_trans hS.1 (by omega), fun x h1 h2 => (o1 x (Nat.lt_of_lt_of_le h1 hS.1)).trans (hS.2.1 x h1 h2), hS.2.2⟩
  have e2 : sn_tr γ (.ref h.length) = .ref H.size := congrArg Value.ref hR.new
  rw [List.map_cons, e2] at K2
  exact K2
def sn_nak (t : Nat) : ArrayType × FieldType := match t with
  | 0 => (.int, .int)
  | 1 => (.long, .long)
  | _ => (.byte, .byte)
def sn_nac (t N : Nat) : va_E := match t with
  | 0 => .inl (0, N, .inl fun _ => 0)
  | 1 => .inl (1, N, .inr (.inl fun _ => 0))
  | _ => .inl (2, N, .inl fun _ => 0)
theorem sn_awNewa (kf : sn_KF γ κ o tab M d mc ms) {t N : Nat} (ht : t < 3) (hi : (pc, .newarray (sn_nak t).1, len, nx, tg) ∈ tab) (hN : N < 65536) (hac : Cond.arrayClass (sn_nak t).2 ∈ sn_gw) (h1 : n + 1 ≤ mc) (h2 : k + N ≤ ms) (K : sn_AW γ κ M.2.2.1 Q (h ++ [sn_nac t N]) nx lv (.ref h.length :: rest) (n + 1) (k + N)) : sn_AW γ κ M.2.2.1 Q h pc lv (.int (nI N) :: rest) n k := by
  intro H locs ls hR hl hS
  obtain ⟨hx, hb, hml, hown, hts, hGK, hsz, hlk, hrt, hT, hrm, hnm⟩ := kf
  obtain ⟨p, l, e, R, s, m, args, below, meth, c⟩ := κ
  obtain ⟨hd, hj⟩ := hT _ hi
  have hnx := sn_jok_nx hj
  have hn := sn_jok_len hj (by simp [sn_len])
  subst hn; subst hnx
  dsimp only at *
  have hcl : (nI N).toNatClampNeg = N := nI_clamp (by omega)
  have hng : ¬ nI N < 0 := nI_pos (by omega)
  have e2 : sn_tr γ (.ref h.length) = .ref H.size := congrArg Value.ref hR.new
  have go : ∀ (H1 : Heap), va_at γ.1 sn_cls (H.size, sn_te γ (sn_nac t N)) H1 → H1.size = H.size + 1 → (∀ q, q < H.size → H1[q]? = H[q]?) → W p l e R s m args below meth c H1 locs (n + 1) (k + N) Q (F0 m (pc + 2) ls (.ref H.size :: rest.map (sn_tr γ))) := by
    intro H1 a1 z1 o1
    have K2 := K H1 locs ls (hR.push a1 z1 o1) hl ⟨Nat.le_trans hS.1 (by omega), fun x h1 h2 => (o1 x (Nat.lt_of_lt_of_le h1 hS.1)).trans (hS.2.1 x h1 h2), hS.2.2⟩
    rw [List.map_cons, e2] at K2
    exact K2
  have ct : t = 0 ∨ t = 1 ∨ t = 2 := by omega
  rcases ct with rfl | rfl | rfl
  · refine va_newaK hx hb (atype := .int) (hts _ hac) rfl hd rfl hng hcl (by show N * 4 ≤ _; omega) (Nat.le_trans h1 hrm.2.2.1) (Nat.le_trans h2 hrm.2.2.2) rfl fun H1 cA e1 z1 o1 _ fc => ?_
    have hca : cA = γ.2.1 0 := Option.some.inj (fc.symm.trans (hGK.1.2 0 _ rfl).2)
    subst hca
    exact go H1 e1 z1 o1
  · refine va_newaK hx hb (atype := .long) (hts _ hac) rfl hd rfl hng hcl (by show N * 8 ≤ _; omega) (Nat.le_trans h1 hrm.2.2.1) (Nat.le_trans h2 hrm.2.2.2) rfl fun H1 cA e1 z1 o1 _ fc => ?_
    have hca : cA = γ.2.1 1 := Option.some.inj (fc.symm.trans (hGK.1.2 1 _ rfl).2)
    subst hca
    exact go H1 e1 z1 o1
  · refine va_newaK hx hb (atype := .byte) (hts _ hac) rfl hd rfl hng hcl (by show N * 1 ≤ _; omega) (Nat.le_trans h1 hrm.2.2.1) (Nat.le_trans h2 hrm.2.2.2) rfl fun H1 cA e1 z1 o1 _ fc => ?_
    have hca : cA = γ.2.1 2 := Option.some.inj (fc.symm.trans (hGK.1.2 2 _ rfl).2)
    subst hca
    exact go H1 e1 z1 o1
def sn_nq (t : Nat) : String := match t with
  | 3 => "SureNoes$Law"
  | _ => "SureNoes$Book"
theorem sn_awNewq (kf : sn_KF γ κ o tab M d mc ms) {t N idx : Nat} (ht : t = 3 ∨ t = 4) (hi : (pc, .anewarray idx, len, nx, tg) ∈ tab) (hN : N < 65536) (hac : Cond.classLink (sn_rn o) idx (sn_nq t) ∈ sn_gw) (h1 : n + 1 ≤ mc) (h2 : k + N ≤ ms) (K : sn_AW γ κ M.2.2.1 Q (h ++ [.inl (t, N, .inr (.inr (.inr (.inr fun _ => none))))]) nx lv (.ref h.length :: rest) (n + 1) (k + N)) : sn_AW γ κ M.2.2.1 Q h pc lv (.int (nI N) :: rest) n k := by
  intro H locs ls hR hl hS
  obtain ⟨hx, hb, hml, hown, hts, hGK, hsz, hlk, hrt, hT, hrm, hnm⟩ := kf
  obtain ⟨p, l, e, R, s, m, args, below, meth, c⟩ := κ
  obtain ⟨hd, hj⟩ := hT _ hi
  have hnx := sn_jok_nx hj
  have hn := sn_jok_len hj (by simp [sn_len])
  subst hn; subst hnx
  dsimp only at *
  have hcl : (nI N).toNatClampNeg = N := nI_clamp (by omega)
  have hng : ¬ nI N < 0 := nI_pos (by omega)
  have e2 : sn_tr γ (.ref h.length) = .ref H.size := congrArg Value.ref hR.new
  have ov : (Cond.arrayOver (.object (sn_nq t))).before args s = true := by
    rcases ht with rfl | rfl
    · exact va_AO.use hGK.2.2.1.1
    · exact va_AO.use hGK.2.2.1.2
  refine W.anew hx hb hown (hts _ hac) ov rfl hd rfl hng (by rw [hcl]; omega) (Nat.le_trans h1 hrm.2.2.1) (by rw [hcl]; exact Nat.le_trans h2 hrm.2.2.2) fun cA kA comp f1 f2 f3 f4 => ?_
  rw [hcl]
  generalize hH1 : H.push ({ cls := cA, slots := Array.replicate N .null, vm := .none } : Cell) = H1
  have z1 : H1.size = H.size + 1 := by rw [← hH1, Array.size_push]
  have e1 : H1[H.size]? = some (arrV cA N (fun _ => .null)) := by rw [← hH1, Array.getElem?_push_size, ← arrV_new]
  have o1 : ∀ q : Nat, q < H.size → H1[q]? = H[q]? := fun q hq => by rw [← hH1, Array.getElem?_push, if_neg (Nat.ne_of_lt hq)]
  have hca : cA = γ.2.1 t := by
    rcases ht with rfl | rfl
    · obtain ⟨_, _, _, _, _, q⟩ := (hGK.1.2 3 _ rfl).2
      exact Option.some.inj (f1.symm.trans q)
    · obtain ⟨_, _, _, _, _, q⟩ := (hGK.1.2 4 _ rfl).2
      exact Option.some.inj (f1.symm.trans q)
  subst hca
  have K2 := K H1 locs ls (hR.push (show va_at γ.1 sn_cls (H.size, sn_te γ (.inl (t, N, .inr (.inr (.inr (.inr fun _ => none)))))) H1 from e1) z1 o1) hl ⟨Nat.le_trans hS.1 (by omega), fun x h1 h2 => (o1 x (Nat.lt_of_lt_of_le h1 hS.1)).trans (hS.2.1 x h1 h2), hS.2.2⟩
  rw [List.map_cons, e2] at K2
  exact K2
-- CASTS
def sn_LY (o idx ci : Nat) : Prop := ∃ (q : vw_C) (nm : String), sn_cls[ci]? = some q ∧ Cond.classLink (sn_rn o) idx nm ∈ sn_gw ∧ (nm = q.1 ∨ Cond.castable q.1 nm ∈ lw_tbl)
def sn_LN (o idx ci : Nat) : Prop := ∃ (q : vw_C) (nm : String), sn_cls[ci]? = some q ∧ Cond.classLink (sn_rn o) idx nm ∈ sn_gw ∧ (q.1, nm) ∈ sn_nc
theorem sn_rcv {H : Heap} {s : State} (hK : va_K γ.1 sn_cls (sn_tys γ) s) {ci i : Nat} {fs : List Value} (hR : sn_HR γ h H) (ha : h[i + 1]? = some (.inr (ci, fs))) {q : vw_C} (hc : sn_cls[ci]? = some q) : ∃ cell : Cell, H[γ.2.2.2 + i]? = some cell ∧ cell.vm.isStatics = false ∧ s.vm.findClass q.1 = some cell.cls :=
  va_recv (q0 := 0) hK (sn_va_P1 (hR.2.2 i _ ha)) hc rfl
theorem sn_awInstY (kf : sn_KF γ κ o tab M d mc ms) {idx ci a : Nat} {fs : List Value} (hi : (pc, .instanceof idx, len, nx, tg) ∈ tab) (lk : sn_LY o idx ci) (ha : h[a]? = some (.inr (ci, fs))) (K : sn_AW γ κ M.2.2.1 Q h nx lv (.int 1 :: rest) n k) : sn_AW γ κ M.2.2.1 Q h pc lv (.ref a :: rest) n k := by
  intro H locs ls hR hl hS
  obtain ⟨hx, hb, hml, hown, hts, hGK, hsz, hlk, hrt, hT, hrm, hnm⟩ := kf
  obtain ⟨p, l, e, R, s, m, args, below, meth, c⟩ := κ
  obtain ⟨hd, hj⟩ := hT _ hi
  have hnx := sn_jok_nx hj
  have hn := sn_jok_len hj (by simp [sn_len])
  subst hn; subst hnx
  obtain ⟨z, rfl⟩ := hR.ne0 ha (fun q => by cases q)
  obtain ⟨q, nm, hq, hlink, hnm2⟩ := lk
  dsimp only at *
  have rc := sn_rcv hGK.1 hR ha hq
  rcases hnm2 with rfl | hca
  · exact va_instS hx hb hown (hts _ hlink) (hGK.1.1 ci _ hq).2 rc hd (K H locs ls hR hl hS)
  · exact va_instY hx hb hown (hts _ hlink) (hGK.2.1 _ hca rfl) rc hd (K H locs ls hR hl hS)
theorem sn_awInstN (kf : sn_KF γ κ o tab M d mc ms) {idx ci a : Nat} {fs : List Value} (hi : (pc, .instanceof idx, len, nx, tg) ∈ tab) (lk : sn_LN o idx ci) (ha : h[a]? = some (.inr (ci, fs))) (K : sn_AW γ κ M.2.2.1 Q h nx lv (.int 0 :: rest) n k) : sn_AW γ κ M.2.2.1 Q h pc lv (.ref a :: rest) n k := by
  intro H locs ls hR hl hS
  obtain ⟨hx, hb, hml, hown, hts, hGK, hsz, hlk, hrt, hT, hrm, hnm⟩ := kf
  obtain ⟨p, l, e, R, s, m, args, below, meth, c⟩ := κ
  obtain ⟨hd, hj⟩ := hT _ hi
  have hnx := sn_jok_nx hj
  have hn := sn_jok_len hj (by simp [sn_len])
  subst hn; subst hnx
  obtain ⟨z, rfl⟩ := hR.ne0 ha (fun q => by cases q)
  obtain ⟨q, nm, hq, hlink, hnm2⟩ := lk
  dsimp only at *
  exact va_instNo hx hb hown (hts _ hlink) (hGK.2.2.2 _ hnm2) (sn_rcv hGK.1 hR ha hq) hd (K H locs ls hR hl hS)
theorem sn_awCast (kf : sn_KF γ κ o tab M d mc ms) {idx ci a : Nat} {fs : List Value} (hi : (pc, .checkcast idx, len, nx, tg) ∈ tab) (lk : sn_LY o idx ci) (ha : h[a]? = some (.inr (ci, fs))) (K : sn_AW γ κ M.2.2.1 Q h nx lv (.ref a :: rest) n k) : sn_AW γ κ M.2.2.1 Q h pc lv (.ref a :: rest) n k := by
  intro H locs ls hR hl hS
  obtain ⟨hx, hb, hml, hown, hts, hGK, hsz, hlk, hrt, hT, hrm, hnm⟩ := kf
  obtain ⟨p, l, e, R, s, m, args, below, meth, c⟩ := κ
  obtain ⟨hd, hj⟩ := hT _ hi
  have hnx := sn_jok_nx hj
  have hn := sn_jok_len hj (by simp [sn_len])
  subst hn; subst hnx
  obtain ⟨z, rfl⟩ := hR.ne0 ha (fun q => by cases q)
  obtain ⟨q, nm, hq, hlink, hnm2⟩ := lk
  dsimp only at *
  have rc := sn_rcv hGK.1 hR ha hq
  rcases hnm2 with rfl | hca
  · exact va_castS hx hb hown (hts _ hlink) (hGK.1.1 ci _ hq).2 rc hd (K H locs ls hR hl hS)
  · exact va_castY hx hb hown (hts _ hlink) (hGK.2.1 _ hca rfl) rc hd (K H locs ls hR hl hS)
theorem sn_awObj (kf : sn_KF γ κ o tab M (d + 1) mc ms) {idx a : Nat} (hi : (pc, .invokespecial idx, len, nx, tg) ∈ tab) (lk : Cond.methodLink (sn_rn o) idx Lib.objectInit ∈ sn_gw) (lk2 : Cond.instanceMethod Lib.objectInit ∈ sn_gw) (lk3 : Cond.code Lib.objectInit ⟨#[0xb1]⟩ 1 none ∈ sn_gw) (hct : (rest.map Value.category).sum ≤ 8) (K : sn_AW γ κ M.2.2.1 Q h nx lv rest n k) : sn_AW γ κ M.2.2.1 Q h pc lv (.ref a :: rest) n k := by
  intro H locs ls hR hl hS
  obtain ⟨hx, hb, hml, hown, hts, hGK, hsz, hlk, hrt, hT, hrm, hnm⟩ := kf
  obtain ⟨p, l, e, R, s, m, args, below, meth, c⟩ := κ
  obtain ⟨hd, hj⟩ := hT _ hi
  have hnx := sn_jok_nx hj
  have hn := sn_jok_len hj (by simp [sn_len])
  subst hn; subst hnx
  dsimp only at *
  have e1 : ((rest.map (sn_tr γ)).map fun v => v.category) = rest.map Value.category := by
    rw [List.map_map]; exact List.map_congr_left (fun v _ => sn_tr_cat γ v)
  exact W.objInit hx hb hown (hts _ lk) (hts _ lk2) (hts _ lk3) rfl (by rw [hml]; exact hl.1) rfl hd (by omega) (by show 2 * 0 + _ + 12 ≤ _; rw [e1]; omega) (K H locs ls hR hl hS)
-- CALLS
/-- what any call of M asks: its code, its class, n parameters -/
def sn_MK (M : sn_Md) (n : Nat) : Prop := Cond.code M.1 M.2.1 M.2.2.1 M.2.2.2 ∈ sn_gw ∧ Cond.initialized M.1.cls ∈ sn_gw ∧ (M.1.cls ≠ "java/lang/invoke/MethodHandle" ∧ M.1.cls ≠ "java/lang/invoke/VarHandle" ∧ (parseMethodDescriptor M.1.desc).map (fun d => d.parameters.length) = some n) ∧ M.2.2.1 ≤ 21
theorem sn_goodIn {M : sn_Md} (h : Cond.code M.1 M.2.1 M.2.2.1 M.2.2.2 ∈ sn_gw) : GoodIn sn_gw (sn_ws M) := by
  intro w hw
  rcases List.mem_cons.mp hw with rfl | hw
  · exact ⟨h, good_of_word (sn_gw_good _ h).2⟩
  · exact ⟨hw, good_of_word (sn_gw_good _ hw).2⟩
theorem sn_blind {args : List Value} : FrameBlind (sn_Pc γ args h) := by
  intro a U g mk q
  obtain ⟨q0, q1, q2, q3⟩ := q
  exact ⟨q0, q1, va_K.moved (u := U) (U := U.calling g mk a) (Vm.Alike.refl U.vm) q2, sn_GN.same (s := U) (U := U.calling g mk a) rfl q3⟩
theorem sn_pre {s : State} {H : Heap} {args : List Value} (hR : sn_HR γ h H) (hGK : sn_GK γ s) : ∀ U : State, U.heap = H → s.WarmedH U.vm → sn_Pc γ args h (args.map (sn_tr γ)).toArray U := by
  intro U hU hW
  exact ⟨rfl, by rw [hU]; exact hR, va_K.moved hW.alike hGK.1, sn_GN.warm hW hGK.2⟩
theorem sn_cat (γ : sn_G) (rest : List Value) : ((rest.map (sn_tr γ)).map fun v => v.category) = rest.map Value.category := by
  rw [List.map_map]; exact List.map_congr_left (fun v _ => sn_tr_cat γ v)
theorem sn_callW {p : Program} {l : Launch} {e : Env} {R : Room} {s : State} {m : MethodId} {args : Array Value} {below : List Frame} {meth : Method} {c : Code} {H : Heap} {locs : List Loc} {cells slots mc ms pc : Nat} {ls : Array Slot} {st0 rest : List Value} {Q : State → Prop} {r : Option Value} {h1 : sn_H} {a : Array Value}
    (hr : va_Run p l e R s m args below meth c H locs cells slots mc ms (F0 m pc ls st0) rest (sn_Q γ r h1 a) (sn_A γ)) (hS : va_S (sn_A γ) s.heap H locs)
    (kk : ∀ (H1 : Heap) (locs1 : List Loc), sn_HR γ h1 H1 → va_S (sn_A γ) s.heap H1 locs1 → W p l e R s m args below meth c H1 locs1 (cells + mc) (slots + ms) Q (F0 m (pc + 3) ls ((r.map (sn_tr γ)).toList ++ rest))) : W p l e R s m args below meth c H locs cells slots Q (F0 m pc ls st0) := by
  intro T hT X
  obtain ⟨v, st₀, t, T', L, h0, X', hL, e1, e2, ⟨hv, hR1, hz, hk⟩, st⟩ := hr T hT X
  cases hv
  rw [h0] at hz hk
  obtain ⟨t2, a1, b1⟩ := kk T'.heap (locs ++ L) (by rw [e1]; exact hR1)
    ⟨Nat.le_trans hS.1 (by rw [e1]; exact hz), fun q h1 h2 => by rw [e1, hk q (Nat.lt_of_lt_of_le h1 hS.1) h2]; exact hS.2.1 q h1 h2, fun q hq => by
      rcases List.mem_append.mp hq with h | h
      · exact hS.2.2 q h
      · exact hL q h⟩ T' rfl X'
  exact ⟨t2, st t2 a1, b1⟩
theorem sn_callK {p : Program} {l : Launch} {e : Env} {R : Room} {s : State} {m : MethodId} {args : Array Value} {below : List Frame} {meth : Method} {c : Code} {H : Heap} {locs : List Loc} {mc' ms' : Nat} {ls : Array Slot} {st0 : List Value} {r : Option Value} {h1 : sn_H} {a : Array Value} {nL : Nat}
    (hr : va_Run p l e R s m args below meth c H locs n k mc' ms' (F0 m pc ls st0) (rest.map (sn_tr γ)) (sn_Q γ r h1 a) (sn_A γ)) (hS : va_S (sn_A γ) s.heap H locs) (hl : lv_has ls nL (sn_lov γ lv))
    (K : sn_AW γ (p, l, e, R, s, m, args, below, meth, c) nL Q h1 (pc + 3) lv (r.toList ++ rest) (n + mc') (k + ms')) : W p l e R s m args below meth c H locs n k Q (F0 m pc ls st0) := by
  refine sn_callW hr hS fun H1 locs1 hR1 hS1 => ?_
  have K2 := K H1 locs1 ls hR1 hl hS1
  have e1 : (r.toList ++ rest).map (sn_tr γ) = (r.map (sn_tr γ)).toList ++ rest.map (sn_tr γ) := by cases r <;> simp
  rw [e1] at K2
  exact K2
def sn_LS (o idx : Nat) (M : sn_Md) : Prop := (Cond.methodLink (sn_rn o) idx M.1 ∈ sn_gw ∨ ∃ host, Cond.methodLinkNest (sn_rn o) idx M.1 host ∈ lw_tbl) ∧ Cond.static M.1 ∈ sn_gw
theorem sn_awS (kf : sn_KF γ κ o tab M (d + 1) mc ms) {idx nA : Nat} (hi : (pc, .invokestatic idx, len, nx, tg) ∈ tab) {M' : sn_Md} (mk : sn_MK M' nA) (lk : sn_LS o idx M') {as : List Value} (hn : as.length = nA) (hct : (rest.map Value.category).sum ≤ 8) {r : Option Value} {h1 : sn_H} {mc' ms' : Nat} (hS : sn_Sp γ κ.2.1 d M' as h r h1 mc' ms') (hc : n + mc' ≤ mc) (hs : k + ms' ≤ ms)
    (K : sn_AW γ κ M.2.2.1 Q h1 nx lv (r.toList ++ rest) (n + mc') (k + ms')) : sn_AW γ κ M.2.2.1 Q h pc lv (as.reverse ++ rest) n k := by
  intro H locs ls hR hl hS0
  obtain ⟨hx, hb, hml, hown, hts, hGK, hsz, hlk, hrt, hT, hrm, hnm⟩ := kf
  obtain ⟨p, l, e, R, s, m, args, below, meth, c⟩ := κ
  obtain ⟨hd, hj⟩ := hT _ hi
  have hnx := sn_jok_nx hj
  have hln := sn_jok_len hj (by simp [sn_len])
  subst hln; subst hnx
  obtain ⟨mk1, mk2, mk3, mk4⟩ := mk
  dsimp only at *
  have rm1 : (sn_rm d mc' ms').frames + 1 ≤ R.frames ∧ 8 + (M'.2.2.1 + 11) + (sn_rm d mc' ms').locals ≤ R.locals := ⟨hrm.1, by show 8 + (M'.2.2.1 + 11) + 40 * d ≤ _; omega⟩
  obtain ⟨lk1, lk2⟩ := lk
  rcases lk1 with lk1 | ⟨host, lk1⟩
  · exact sn_callK (va_runS ⟨hx, hb, hml, hown, hts⟩ hS ⟨callB_of nA hts (sn_goodIn mk1) rfl rfl rfl (hts _ mk2) (hts _ lk1) mk3 rm1, hts _ lk2⟩ ⟨sn_blind, sn_pre hR hGK⟩ rfl (by rw [List.length_map]; exact hn) hl.1 (by show _ = _; rw [List.map_append, List.map_reverse]) (by show 2 * 0 + _ ≤ 8; rw [sn_cat]; omega) hd ⟨Nat.le_trans hc hrm.2.2.1, Nat.le_trans hs hrm.2.2.2⟩) hS0 hl K
  · exact sn_callK (va_runSN ⟨hx, hb, hml, hown, hts⟩ hS ⟨va_cnB nA hts (sn_goodIn mk1) rfl rfl rfl (hGK.2.1 _ lk1 rfl) (hts _ mk2) mk3 rm1, hts _ lk2, trivial⟩ ⟨sn_blind, sn_pre hR hGK⟩ rfl (by rw [List.length_map]; exact hn) hl.1 (by show _ = _; rw [List.map_append, List.map_reverse]) (by show 2 * 0 + _ ≤ 8; rw [sn_cat]; omega) hd ⟨Nat.le_trans hc hrm.2.2.1, Nat.le_trans hs hrm.2.2.2⟩) hS0 hl K
def sn_LI (o idx : Nat) (M : sn_Md) : Prop := (Cond.methodLink (sn_rn o) idx M.1 ∈ sn_gw ∨ ∃ host, Cond.methodLinkNest (sn_rn o) idx M.1 host ∈ lw_tbl) ∧ M.1.name = "<init>" ∧ Cond.instanceMethod M.1 ∈ sn_gw ∧ M.2.2.2 = none
theorem sn_awI (kf : sn_KF γ κ o tab M (d + 1) mc ms) {idx nA : Nat} (hi : (pc, .invokespecial idx, len, nx, tg) ∈ tab) {M' : sn_Md} (mk : sn_MK M' nA) (lk : sn_LI o idx M') {a i : Nat} (hai : a = i + 1) {as : List Value} (hn : as.length = nA) (hct : (rest.map Value.category).sum ≤ 8) {r : Option Value} {h1 : sn_H} {mc' ms' : Nat} (hS : sn_Sp γ κ.2.1 d M' (.ref a :: as) h r h1 mc' ms') (hc : n + mc' ≤ mc) (hs : k + ms' ≤ ms)
    (K : sn_AW γ κ M.2.2.1 Q h1 nx lv (r.toList ++ rest) (n + mc') (k + ms')) : sn_AW γ κ M.2.2.1 Q h pc lv (as.reverse ++ .ref a :: rest) n k := by
  intro H locs ls hR hl hS0
  obtain ⟨hx, hb, hml, hown, hts, hGK, hsz, hlk, hrt, hT, hrm, hnm⟩ := kf
  obtain ⟨p, l, e, R, s, m, args, below, meth, c⟩ := κ
  obtain ⟨hd, hj⟩ := hT _ hi
  have hnx := sn_jok_nx hj
  have hln := sn_jok_len hj (by simp [sn_len])
  subst hln; subst hnx; subst hai
  obtain ⟨mk1, mk2, mk3, mk4⟩ := mk
  obtain ⟨⟨yc, yn, yd⟩, b', mL, rt⟩ := M'
  obtain ⟨lk1, lk2, lk3, lk4⟩ := lk
  dsimp only at *
  subst lk4
  have rm1 : (sn_rm d mc' ms').frames + 1 ≤ R.frames ∧ 8 + (mL + 11) + (sn_rm d mc' ms').locals ≤ R.locals := ⟨hrm.1, by show 8 + (mL + 11) + 40 * d ≤ _; omega⟩
  rcases lk1 with lk1 | ⟨host, lk1⟩
  · exact sn_callK (va_runI (As := as.map (sn_tr γ)) ⟨hx, hb, hml, hown, hts⟩ hS ⟨callB_of nA hts (sn_goodIn mk1) rfl rfl rfl (hts _ mk2) (hts _ lk1) mk3 rm1, lk2, hts _ lk3⟩ ⟨sn_blind, sn_pre hR hGK⟩ rfl (by rw [List.length_map]; exact hn) hl.1 (by show _ = _; rw [List.map_append, List.map_reverse]; rfl) (by show 2 * 0 + _ ≤ 8; rw [sn_cat]; omega) hd ⟨Nat.le_trans hc hrm.2.2.1, Nat.le_trans hs hrm.2.2.2⟩) hS0 hl K
  · exact sn_callK (va_runIN (As := as.map (sn_tr γ)) ⟨hx, hb, hml, hown, hts⟩ hS ⟨va_cnB nA hts (sn_goodIn mk1) rfl rfl rfl (hGK.2.1 _ lk1 rfl) (hts _ mk2) mk3 rm1, lk2, hts _ lk3⟩ ⟨sn_blind, sn_pre hR hGK⟩ rfl (by rw [List.length_map]; exact hn) hl.1 (by show _ = _; rw [List.map_append, List.map_reverse]; rfl) (by show 2 * 0 + _ ≤ 8; rw [sn_cat]; omega) hd ⟨Nat.le_trans hc hrm.2.2.1, Nat.le_trans hs hrm.2.2.2⟩) hS0 hl K
/-- a virtual call at an object of class ci goes to M' -/
def sn_LV (o idx ci : Nat) (M' : sn_Md) (nA : Nat) : Prop := ∃ q : vw_C, sn_cls[ci]? = some q ∧ ((Cond.methodLink (sn_rn o) idx M'.1 ∈ sn_gw ∧ Cond.instanceMethod M'.1 ∈ sn_gw ∧ Cond.selects q.1 M'.1 M'.1 ∈ sn_gw) ∨
  ∃ (x : MethodName) (owner : String), Cond.methodLink (sn_rn o) idx x ∈ sn_gw ∧ Cond.sameMethod x.cls owner x.name x.desc ∈ sn_gw ∧ Cond.selects q.1 x M'.1 ∈ sn_gw ∧ Cond.instanceMethod M'.1 ∈ sn_gw ∧
    (owner ≠ "java/lang/invoke/MethodHandle" ∧ owner ≠ "java/lang/invoke/VarHandle" ∧ (parseMethodDescriptor x.desc).map (fun d => d.parameters.length) = some nA) ∧
    (M'.1 = ⟨owner, x.name, x.desc⟩ ∨ (Cond.instanceMethod ⟨owner, x.name, x.desc⟩ ∈ sn_gw ∧ ∃ (b0 : ByteArray) (m0 : Nat) (r0 : Option FieldType), Cond.code ⟨owner, x.name, x.desc⟩ b0 m0 r0 ∈ sn_gw) ∨ Cond.declares ⟨owner, x.name, x.desc⟩ ∈ lw_tbl))
theorem sn_gi (w : Cond) (h : w ∈ sn_gw) : w ∈ sn_gw ∧ ((w.onTables && w.keeps) = true ∨ ∃ ty, w = .arrayClass ty) := ⟨h, good_of_word (sn_gw_good _ h).2⟩
theorem sn_awV (kf : sn_KF γ κ o tab M (d + 1) mc ms) {idx nA : Nat} (hi : (pc, .invokevirtual idx, len, nx, tg) ∈ tab) {M' : sn_Md} (mk : sn_MK M' nA) {ci : Nat} (lk : sn_LV o idx ci M' nA) {a : Nat} {fs : List Value} (ha : h[a]? = some (.inr (ci, fs))) {as : List Value} (hn : as.length = nA) (hct : (rest.map Value.category).sum ≤ 8) {r : Option Value} {h1 : sn_H} {mc' ms' : Nat} (hS : sn_Sp γ κ.2.1 d M' (.ref a :: as) h r h1 mc' ms') (hc : n + mc' ≤ mc) (hs : k + ms' ≤ ms)
    (K : sn_AW γ κ M.2.2.1 Q h1 nx lv (r.toList ++ rest) (n + mc') (k + ms')) : sn_AW γ κ M.2.2.1 Q h pc lv (as.reverse ++ .ref a :: rest) n k := by
  intro H locs ls hR hl hS0
  obtain ⟨hx, hb, hml, hown, hts, hGK, hsz, hlk, hrt, hT, hrm, hnm⟩ := kf
  obtain ⟨p, l, e, R, s, m, args, below, meth, c⟩ := κ
  obtain ⟨hd, hj⟩ := hT _ hi
  have hnx := sn_jok_nx hj
  have hln := sn_jok_len hj (by simp [sn_len])
  subst hln; subst hnx
  obtain ⟨z, rfl⟩ := hR.ne0 ha (fun q => by cases q)
  obtain ⟨mk1, mk2, mk3, mk4⟩ := mk
  obtain ⟨q, hq, lk⟩ := lk
  dsimp only at *
  have rm1 : (sn_rm d mc' ms').frames + 1 ≤ R.frames ∧ 8 + (M'.2.2.1 + 11) + (sn_rm d mc' ms').locals ≤ R.locals := ⟨hrm.1, by show 8 + (M'.2.2.1 + 11) + 40 * d ≤ _; omega⟩
  have pv : PreV s H q.1 (γ.2.2.2 + z) (sn_Pc γ (.ref (z + 1) :: as) h) (as.map (sn_tr γ)) := ⟨sn_blind, sn_rcv hGK.1 hR ha hq, sn_pre hR hGK⟩
  rcases lk with ⟨lk1, lk2, lk3⟩ | ⟨x, owner, lk1, lk2, lk3, lk4, lk5, lk6⟩
  · exact sn_callK (va_runV (As := as.map (sn_tr γ)) ⟨hx, hb, hml, hown, hts⟩ hS ⟨callB_of nA hts (sn_goodIn mk1) rfl rfl rfl (hts _ mk2) (hts _ lk1) mk3 rm1, hts _ lk2, hts _ lk3⟩ pv rfl (by rw [List.length_map]; exact hn) hl.1 (by show _ = _; rw [List.map_append, List.map_reverse]; rfl) (by show 2 * 0 + _ ≤ 8; rw [sn_cat]; omega) hd ⟨Nat.le_trans hc hrm.2.2.1, Nat.le_trans hs hrm.2.2.2⟩) hS0 hl K
  · have gU : GoodIn sn_gw (va_wsU (sn_rn o) idx q.1 owner x M'.1 (sn_ws M')) := by
      intro w hw
      unfold va_wsU at hw
      rcases List.mem_append.mp hw with hw | hw
      · simp only [List.mem_cons, List.not_mem_nil, or_false] at hw
        rcases hw with rfl | rfl | rfl | rfl | rfl <;> exact sn_gi _ (by assumption)
      · exact sn_goodIn mk1 w hw
    have cu : va_CU R s args (sn_rn o) q.1 owner idx x M'.1 M'.2.1 M'.2.2.1 M'.2.2.2 (sn_ws M') (sn_rm d mc' ms') mc' ms' nA := by
      rcases lk6 with lk6 | ⟨lk6, b0, m0, r0, lk7⟩ | lk6
      · exact va_cwU nA hts gU rfl rfl rfl lk6 lk5 rm1
      · refine va_cwO nA hts ?_ rfl rfl rfl lk7 lk5 rm1
        intro w hw
        unfold va_wsO at hw
        rcases List.mem_append.mp hw with hw | hw
        · simp only [List.mem_cons, List.not_mem_nil, or_false] at hw
          rcases hw with rfl | rfl | rfl | rfl | rfl | rfl <;> exact sn_gi _ (by assumption)
        · exact sn_goodIn mk1 w hw
      · exact va_cwA nA hts gU rfl rfl rfl (hGK.2.1 _ lk6 rfl) lk5 rm1
    exact sn_callK (va_runU (As := as.map (sn_tr γ)) ⟨hx, hb, hml, hown, hts⟩ hS cu pv rfl (by rw [List.length_map]; exact hn) hl.1 (by show _ = _; rw [List.map_append, List.map_reverse]; rfl) (by show 2 * 0 + _ ≤ 8; rw [sn_cat]; omega) hd ⟨Nat.le_trans hc hrm.2.2.1, Nat.le_trans hs hrm.2.2.2⟩) hS0 hl K
end AW
end
section
/-! ENTRY AND END OF A METHOD; THE RULES OF EV -/
section AW
variable {γ : sn_G} {κ : sn_K} {o : Nat} {tab : sn_Tb} {M : sn_Md} {d mc ms : Nat} {Q : State → Prop} {h : sn_H} {pc : Nat} {lv rest : List Value} {n k : Nat} {len nx tg : Nat}
theorem sn_nn {z : Int32} (hz : ¬ z < 0) : z.toInt = (z.toNatClampNeg : Int) := by
  have hz0 : (0 : Int) ≤ z.toInt := by
    have := Int32.not_lt.mp hz
    simpa using Int32.le_iff_toInt_le.mp this
  show z.toInt = ((z.toInt.toNat : Nat) : Int)
  omega
theorem sn_nfw : nativeFrameWords "java/lang/System" "arraycopy" 5 ≤ 21 := by decide +kernel
def sn_LA (o idx : Nat) : Prop := Cond.methodLink (sn_rn o) idx arraycopyName ∈ sn_gw ∧ Cond.native arraycopyName ∈ sn_gw ∧ Cond.static arraycopyName ∈ sn_gw ∧ Cond.initialized "java/lang/System" ∈ sn_gw
theorem sn_awCpI (kf : sn_KF γ κ o tab M (d + 1) mc ms) {idx : Nat} (hi : (pc, .invokestatic idx, len, nx, tg) ∈ tab) (lk : sn_LA o idx) {a0 a1 N0 N1 : Nat} {f g : Nat → Int32} (ha0 : h[a0]? = some (.inl (0, N0, .inl f))) (ha1 : h[a1]? = some (.inl (0, N1, .inl g))) {cn : Int32} (h3 : ¬ cn < 0) (h4 : cn.toNatClampNeg ≤ N0) (h5 : cn.toNatClampNeg ≤ N1) (hct : (rest.map Value.category).sum ≤ 8)
    (K : sn_AW γ κ M.2.2.1 Q (h.set a1 (.inl (0, N1, .inl (va_cpy f g 0 0 cn.toNatClampNeg)))) nx lv rest n k) : sn_AW γ κ M.2.2.1 Q h pc lv (.int cn :: .int (nI 0) :: .ref a1 :: .int (nI 0) :: .ref a0 :: rest) n k := by
  intro H locs ls hR hl hS
  obtain ⟨hx, hb, hml, hown, hts, hGK, hsz, hlk, hrt, hT, hrm, hnm⟩ := kf
  obtain ⟨p, l, e, R, s, m, args, below, meth, c⟩ := κ
  obtain ⟨hd, hj⟩ := hT _ hi
  have hnx := sn_jok_nx hj
  have hn := sn_jok_len hj (by simp [sn_len])
  subst hn; subst hnx
  obtain ⟨y, rfl⟩ := hR.ne0 ha0 (fun q => by cases q)
  obtain ⟨z, rfl⟩ := hR.ne0 ha1 (fun q => by cases q)
  obtain ⟨lk1, lk2, lk3, lk4⟩ := lk
  dsimp only at *
  have hc0 : H[γ.2.2.2 + y]? = some (vp_cell (γ.2.1 0) (N0, .inl f)) := hR.2.2 y _ ha0
  have hc1 : H[γ.2.2.2 + z]? = some (vp_cell (γ.2.1 0) (N1, .inl g)) := hR.2.2 z _ ha1
  obtain ⟨-, k0, hk0, cm0, hkk0⟩ := (hGK.1.2 0 _ rfl).1 N0 (fun j => .int (f j))
  obtain ⟨-, k1, hk1, cm1, hkk1⟩ := (hGK.1.2 0 _ rfl).1 N1 (fun j => .int (g j))
  have z0 : ¬ nI 0 < 0 := nI_pos (by omega)
  have z1 : (nI 0).toNatClampNeg = 0 := nI_clamp (by omega)
  intro T hT X
  obtain ⟨vm', X', step⟩ := X.arraycopy hx hown (hts _ lk1) (hts _ lk2) (hts _ lk3) (hts _ lk4) (src := γ.2.2.2 + y) (dst := γ.2.2.2 + z) (cs := vp_cell (γ.2.1 0) (N0, .inl f)) (cd := vp_cell (γ.2.1 0) (N1, .inl g)) (srcPos := nI 0) (destPos := nI 0) (n := cn) (by rw [hT]; exact hc0) (by rw [hT]; exact hc1)
    (fun _ h => by cases h) (fun _ h => by cases h) (fun h => by cases h) (fun h => by cases h) hk0 hk1 hkk0 hkk1 (by simp [refKind]) z0 z0 h3
    (by rw [sn_nn z0, sn_nn h3, z1]; show ¬ _ > ((arrV (γ.2.1 0) N0 (fun j => .int (f j))).slots.size : Int); rw [arrV_size]; omega)
    (by rw [sn_nn z0, sn_nn h3, z1]; show ¬ _ > ((arrV (γ.2.1 0) N1 (fun j => .int (g j))).slots.size : Int); rw [arrV_size]; omega)
    (fun vm₁ _ i hi => by
      have e : (vp_cell (γ.2.1 0) (N0, .inl f)).slots.getD ((nI 0).toNatClampNeg + i) .null = .int (f ((nI 0).toNatClampNeg + i)) := by
        show (arrV (γ.2.1 0) N0 (fun j => .int (f j))).slots.getD _ _ = _
        rw [Array.getD_eq_getD_getElem?, arrV_read _ _ (by rw [z1]; omega)]
        rfl
      refine ⟨?_, ?_⟩
      · rw [e]
        rfl
      · rw [e]
        exact trivial)
    (g := F0 m pc ls (.int cn :: .int (nI 0) :: .ref (γ.2.2.2 + z) :: .int (nI 0) :: .ref (γ.2.2.2 + y) :: rest.map (sn_tr γ))) rfl (by rw [hml]; exact hl.1) (rest := rest.map (sn_tr γ)) rfl (by rw [hb]; exact hd) (by omega) (by show 2 * 0 + _ + _ ≤ _; rw [sn_cat]; have := sn_nfw; omega)
  have e1 : copied (vp_cell (γ.2.1 0) (N0, .inl f)) (vp_cell (γ.2.1 0) (N1, .inl g)) (nI 0) (nI 0) cn = vp_cell (γ.2.1 0) (N1, .inl (va_cpy f g (nI 0).toNatClampNeg (nI 0).toNatClampNeg cn.toNatClampNeg)) := va_copied (fun z => .int z) (γ.2.1 0) (γ.2.1 0) f g (by rw [z1]; omega)
  rw [e1, z1] at X' step
  have hl2 : γ.2.2.2 + z < H.size := (Array.getElem?_eq_some_iff.mp hc1).1
  have hheap : ((T.setVm vm').setCell (γ.2.2.2 + z) (vp_cell (γ.2.1 0) (N1, .inl (va_cpy f g 0 0 cn.toNatClampNeg)))).heap = H.setIfInBounds (γ.2.2.2 + z) (vp_cell (γ.2.1 0) (N1, .inl (va_cpy f g 0 0 cn.toNatClampNeg))) := by rw [← hT]; rfl
  have oq : ∀ q : Nat, q ≠ γ.2.2.2 + z → (H.setIfInBounds (γ.2.2.2 + z) (vp_cell (γ.2.1 0) (N1, .inl (va_cpy f g 0 0 cn.toNatClampNeg))))[q]? = H[q]? := fun q hq => by simp [Array.getElem?_setIfInBounds, Ne.symm hq]
  have hA : sn_A γ (γ.2.2.2 + z) := Nat.le_add_right _ _
  obtain ⟨t, a1, b1⟩ := K _ _ ls (hR.set ha1 (show (H.setIfInBounds (γ.2.2.2 + z) _)[γ.2.2.2 + z]? = some _ by simp [Array.getElem?_setIfInBounds, hl2]) (by simp) oq) hl ⟨by simp; exact hS.1, fun q g1 g2 => by
      rw [oq q (fun e => g2 (by rw [e]; exact hA))]
      exact hS.2.1 q g1 g2, fun q hq => by
      rcases List.mem_append.mp hq with h | h
      · exact hS.2.2 q h
      · obtain ⟨w, -, hz⟩ := List.mem_map.mp h
        rw [← hz]
        exact hA⟩ _ hheap X'
  exact ⟨t, step t a1, b1⟩
theorem sn_awCpL (kf : sn_KF γ κ o tab M (d + 1) mc ms) {idx : Nat} (hi : (pc, .invokestatic idx, len, nx, tg) ∈ tab) (lk : sn_LA o idx) {a0 a1 N0 N1 : Nat} {f g : Nat → Int64} (ha0 : h[a0]? = some (.inl (1, N0, .inr (.inl f)))) (ha1 : h[a1]? = some (.inl (1, N1, .inr (.inl g)))) {cn : Int32} (h3 : ¬ cn < 0) (h4 : cn.toNatClampNeg ≤ N0) (h5 : cn.toNatClampNeg ≤ N1) (hct : (rest.map Value.category).sum ≤ 8)
    (K : sn_AW γ κ M.2.2.1 Q (h.set a1 (.inl (1, N1, .inr (.inl (va_cpy f g 0 0 cn.toNatClampNeg))))) nx lv rest n k) : sn_AW γ κ M.2.2.1 Q h pc lv (.int cn :: .int (nI 0) :: .ref a1 :: .int (nI 0) :: .ref a0 :: rest) n k := by
  intro H locs ls hR hl hS
  obtain ⟨hx, hb, hml, hown, hts, hGK, hsz, hlk, hrt, hT, hrm, hnm⟩ := kf
  obtain ⟨p, l, e, R, s, m, args, below, meth, c⟩ := κ
  obtain ⟨hd, hj⟩ := hT _ hi
  have hnx := sn_jok_nx hj
  have hn := sn_jok_len hj (by simp [sn_len])
  subst hn; subst hnx
  obtain ⟨y, rfl⟩ := hR.ne0 ha0 (fun q => by cases q)
  obtain ⟨z, rfl⟩ := hR.ne0 ha1 (fun q => by cases q)
  obtain ⟨lk1, lk2, lk3, lk4⟩ := lk
  dsimp only at *
  have hc0 : H[γ.2.2.2 + y]? = some (vp_cell (γ.2.1 1) (N0, .inr (.inl f))) := hR.2.2 y _ ha0
  have hc1 : H[γ.2.2.2 + z]? = some (vp_cell (γ.2.1 1) (N1, .inr (.inl g))) := hR.2.2 z _ ha1
  obtain ⟨-, k0, hk0, cm0, hkk0⟩ := (hGK.1.2 1 _ rfl).1 N0 (fun j => .long (f j))
  obtain ⟨-, k1, hk1, cm1, hkk1⟩ := (hGK.1.2 1 _ rfl).1 N1 (fun j => .long (g j))
  have z0 : ¬ nI 0 < 0 := nI_pos (by omega)
  have z1 : (nI 0).toNatClampNeg = 0 := nI_clamp (by omega)
  intro T hT X
  obtain ⟨vm', X', step⟩ := X.arraycopy hx hown (hts _ lk1) (hts _ lk2) (hts _ lk3) (hts _ lk4) (src := γ.2.2.2 + y) (dst := γ.2.2.2 + z) (cs := vp_cell (γ.2.1 1) (N0, .inr (.inl f))) (cd := vp_cell (γ.2.1 1) (N1, .inr (.inl g))) (srcPos := nI 0) (destPos := nI 0) (n := cn) (by rw [hT]; exact hc0) (by rw [hT]; exact hc1)
    (fun _ h => by cases h) (fun _ h => by cases h) (fun h => by cases h) (fun h => by cases h) hk0 hk1 hkk0 hkk1 (by simp [refKind]) z0 z0 h3
    (by rw [sn_nn z0, sn_nn h3, z1]; show ¬ _ > ((arrV (γ.2.1 1) N0 (fun j => .long (f j))).slots.size : Int); rw [arrV_size]; omega)
    (by rw [sn_nn z0, sn_nn h3, z1]; show ¬ _ > ((arrV (γ.2.1 1) N1 (fun j => .long (g j))).slots.size : Int); rw [arrV_size]; omega)
    (fun vm₁ _ i hi => by
      have e : (vp_cell (γ.2.1 1) (N0, .inr (.inl f))).slots.getD ((nI 0).toNatClampNeg + i) .null = .long (f ((nI 0).toNatClampNeg + i)) := by
        show (arrV (γ.2.1 1) N0 (fun j => .long (f j))).slots.getD _ _ = _
        rw [Array.getD_eq_getD_getElem?, arrV_read _ _ (by rw [z1]; omega)]
        rfl
      refine ⟨?_, ?_⟩
      · rw [e]
        rfl
      · rw [e]
        exact trivial)
    (g := F0 m pc ls (.int cn :: .int (nI 0) :: .ref (γ.2.2.2 + z) :: .int (nI 0) :: .ref (γ.2.2.2 + y) :: rest.map (sn_tr γ))) rfl (by rw [hml]; exact hl.1) (rest := rest.map (sn_tr γ)) rfl (by rw [hb]; exact hd) (by omega) (by show 2 * 0 + _ + _ ≤ _; rw [sn_cat]; have := sn_nfw; omega)
  have e1 : copied (vp_cell (γ.2.1 1) (N0, .inr (.inl f))) (vp_cell (γ.2.1 1) (N1, .inr (.inl g))) (nI 0) (nI 0) cn = vp_cell (γ.2.1 1) (N1, .inr (.inl (va_cpy f g (nI 0).toNatClampNeg (nI 0).toNatClampNeg cn.toNatClampNeg))) := va_copied (fun z => .long z) (γ.2.1 1) (γ.2.1 1) f g (by rw [z1]; omega)
  rw [e1, z1] at X' step
  have hl2 : γ.2.2.2 + z < H.size := (Array.getElem?_eq_some_iff.mp hc1).1
  have hheap : ((T.setVm vm').setCell (γ.2.2.2 + z) (vp_cell (γ.2.1 1) (N1, .inr (.inl (va_cpy f g 0 0 cn.toNatClampNeg))))).heap = H.setIfInBounds (γ.2.2.2 + z) (vp_cell (γ.2.1 1) (N1, .inr (.inl (va_cpy f g 0 0 cn.toNatClampNeg)))) := by rw [← hT]; rfl
  have oq : ∀ q : Nat, q ≠ γ.2.2.2 + z → (H.setIfInBounds (γ.2.2.2 + z) (vp_cell (γ.2.1 1) (N1, .inr (.inl (va_cpy f g 0 0 cn.toNatClampNeg)))))[q]? = H[q]? := fun q hq => by simp [Array.getElem?_setIfInBounds, Ne.symm hq]
  have hA : sn_A γ (γ.2.2.2 + z) := Nat.le_add_right _ _
  obtain ⟨t, a1, b1⟩ := K _ _ ls (hR.set ha1 (show (H.setIfInBounds (γ.2.2.2 + z) _)[γ.2.2.2 + z]? = some _ by simp [Array.getElem?_setIfInBounds, hl2]) (by simp) oq) hl ⟨by simp; exact hS.1, fun q g1 g2 => by
      rw [oq q (fun e => g2 (by rw [e]; exact hA))]
      exact hS.2.1 q g1 g2, fun q hq => by
      rcases List.mem_append.mp hq with h | h
      · exact hS.2.2 q h
      · obtain ⟨w, -, hz⟩ := List.mem_map.mp h
        rw [← hz]
        exact hA⟩ _ hheap X'
  exact ⟨t, step t a1, b1⟩
end AW
-- ENTRY
def sn_pos (args : List Value) : List Value := match args with
  | [] => []
  | v :: r => bif Nat.beq v.category 2 then v :: .retAddr 0 :: sn_pos r else v :: sn_pos r
def sn_ent (nL : Nat) (args : List Value) : Option (Nat × List Value × List Value) := bif Nat.ble (sn_pos args).length nL then sn_frc (sn_pos args ++ List.replicate (nL - (sn_pos args).length) (.retAddr 0)) fun L => some (0, L, []) else none
theorem sn_pos_len (γ : sn_G) (args : List Value) : (lg_sl (args.map (sn_tr γ))).length = (sn_pos args).length := by
  induction args with
  | nil => rfl
  | cons v r ih =>
    unfold sn_pos
    have e0 : lg_sl ((v :: r).map (sn_tr γ)) = (if v.category = 2 then [Slot.val (sn_tr γ v), .second] else [.val (sn_tr γ v)]) ++ lg_sl (r.map (sn_tr γ)) := by
      simp [lg_sl, sn_tr_cat]
    rw [e0, List.length_append, ih]
    rcases lv_cat v with e | e
    · have e2 : Nat.beq v.category 2 = false := by rw [e]; rfl
      rw [e2, cond_false, if_neg (by omega)]
      simp only [List.length_cons, List.length_nil]
      omega
    · have e2 : Nat.beq v.category 2 = true := by rw [e]; rfl
      rw [e2, cond_true, if_pos e]
      simp only [List.length_cons, List.length_nil]
      omega
theorem sn_pos_in (γ : sn_G) (m : Nat) (args : List Value) : ∀ (i j : Nat) (w : Value), (j, w) ∈ sn_lo i (sn_pos args ++ List.replicate m (.retAddr 0)) → (j, sn_tr γ w) ∈ lv_args i (args.map (sn_tr γ)) := by
  induction args with
  | nil =>
    intro i j w hm
    obtain ⟨k, e, hk, hr⟩ := sn_lo_mem.mp hm
    have : w = .retAddr 0 := by
      have h1 := List.mem_of_getElem? hk
      simp [sn_pos] at h1
      exact h1.2
    subst this
    cases hr
  | cons v r ih =>
    intro i j w hm
    obtain ⟨k, e, hk, hr⟩ := sn_lo_mem.mp hm
    unfold sn_pos at hk
    simp only [List.map_cons, lv_args, sn_tr_cat]
    rcases lv_cat v with e1 | e1
    · have e2 : Nat.beq v.category 2 = false := by rw [e1]; rfl
      rw [e2, cond_false] at hk
      have e3 : ¬ v.category = 2 := by omega
      rw [if_neg e3]
      cases k with
      | zero =>
        have e4 : v = w := Option.some.inj hk
        subst e4; subst e
        exact List.mem_cons_self
      | succ k => exact List.mem_cons_of_mem _ (ih (i + 1) j w (sn_lo_mem.mpr ⟨k, by omega, hk, hr⟩))
    · have e2 : Nat.beq v.category 2 = true := by rw [e1]; rfl
      rw [e2, cond_true] at hk
      rw [if_pos e1]
      cases k with
      | zero =>
        have e4 : v = w := Option.some.inj hk
        subst e4; subst e
        exact List.mem_cons_self
      | succ k =>
        cases k with
        | zero =>
          have e4 : Value.retAddr 0 = w := Option.some.inj hk
          subst e4
          cases hr
        | succ k => exact List.mem_cons_of_mem _ (ih (i + 2) j w (sn_lo_mem.mpr ⟨k, by omega, hk, hr⟩))
theorem sn_entry (γ : sn_G) {nL : Nat} {args lv : List Value} (h : sn_ent nL args = some (0, lv, [])) : lv_has ((lg_sl (args.map (sn_tr γ)) ++ List.replicate (nL - (lg_sl (args.map (sn_tr γ))).length) Slot.unset).toArray) nL (sn_lov γ lv) := by
  unfold sn_ent at h
  cases hb : Nat.ble (sn_pos args).length nL with
  | false => rw [hb] at h; cases h
  | true =>
    rw [hb, cond_true, sn_frc_eq] at h
    cases h
    have h1 := lv_entry (args.map (sn_tr γ)) (n := nL) (by rw [sn_pos_len]; exact Nat.le_of_ble_eq_true hb)
    refine ⟨h1.1, h1.2.1, fun q hq => h1.2.2 q ?_⟩
    obtain ⟨⟨j, w⟩, hm, rfl⟩ := List.mem_map.mp hq
    exact sn_pos_in γ _ args 0 j w hm
def sn_MOK (E : sn_E) : Prop := plainName E.2.2.1.cls = true ∧ sn_tabOk E.2.2.2.1 E.2.1 ∧ E.2.2.1.cls = sn_rn E.1
def sn_rc (t : Option FieldType) (r : Option Value) : Prop := match t, r with
  | some .int, some (.int _) => True
  | some .boolean, some (.int v) => v = 0 ∨ v = 1
  | some .long, some (.long _) => True
  | some (.object _), some (.ref _) => True
  | some (.object _), some .null => True
  | some (.array _), some (.ref _) => True
  | none, none => True
  | _, _ => False
def Sp (d : Nat) (E : sn_E) (args : List Value) (h : sn_H) (r : Option Value) (h' : sn_H) : Prop := (h.length ≤ h'.length ∧ sn_hs h ≤ sn_hs h') ∧ ∀ (γ : sn_G) (l : Launch), sn_Sp γ l d E.2.2 args h r h' (h'.length - h.length) (sn_hs h' - sn_hs h)
theorem Sp.of {d : Nat} {E : sn_E} {args lv : List Value} {h h' : sn_H} {r : Option Value} (ok : sn_MOK E) (hrc : sn_rc E.2.2.2.2.2 r) (hent : sn_ent E.2.2.2.2.1 args = some (0, lv, [])) (K : Ev o0 d E 0 lv [] h r h') : Sp d E args h r h' := by
  refine ⟨K.1, fun γ l => ?_⟩
  obtain ⟨o, tab, M⟩ := E
  obtain ⟨ok1, ok2, ok3⟩ := ok
  obtain ⟨K0, K⟩ := K
  dsimp only at *
  refine Met.ofW (cc := M.2.1) (maxL := M.2.2.1) (ret := M.2.2.2) ok1 rfl ?_
  intro p e s m args' below meth c s₁ B hml hv
  obtain ⟨rfl, hR, hGK⟩ := hv
  have hx := B.exec
  have hb := B.bytes
  have hr := B.returns
  have hlocks := B.notSynchronized
  have hts0 := atoms_spec (ws := sn_ws M) B.pre
  have hown : s.vm.findClass (sn_rn o) = some m.cls := by rw [← ok3]; exact findClass_of_methodNamed B.named
  have hin : meth.name = M.1.name := (name_of_methodNamed B.named B.method).1
  have kf : sn_KF γ (p, l, e, sn_rm d (h'.length - h.length) (sn_hs h' - sn_hs h), s, m, (args.map (sn_tr γ)).toArray, below, meth, c) o tab M d (h'.length - h.length) (sn_hs h' - sn_hs h) :=
    ⟨hx, hb, hml, hown, fun w hw => hts0 w (List.mem_cons_of_mem _ hw), hGK, hR.sz, hlocks, hr, ok2, ⟨Nat.le_refl _, Nat.le_refl _, Nat.le_refl _, Nat.le_refl _⟩, hin⟩
  have K1 := K γ (p, l, e, sn_rm d (h'.length - h.length) (sn_hs h' - sn_hs h), s, m, (args.map (sn_tr γ)).toArray, below, meth, c) (h'.length - h.length) (sn_hs h' - sn_hs h) (MQ below (sn_Q γ r h') (args.map (sn_tr γ)).toArray s (h'.length - h.length) (sn_hs h' - sn_hs h) (sn_A γ)) 0 0 kf trivial (by omega) (by omega) ?_
  · have K2 := K1 s.heap [] _ hR (sn_entry γ hent) va_S.rf
    rw [lg_entry_eq]
    exact K2
  · intro pcR iR ls H locs hd hrt hR1 hS
    dsimp only at *
    rw [Nat.zero_add, Nat.zero_add]
    have hq : ∀ t : State, t.heap = H → s.WarmedH t.vm → sn_Q γ r h' (args.map (sn_tr γ)).toArray s (.returned (r.map (sn_tr γ))) t := fun t ht _ => ⟨rfl, by rw [ht]; exact hR1, hS.F ht⟩
    cases r with
    | none =>
      cases iR <;> first | exact False.elim hrt | skip
      have hr0 : M.2.2.2 = none := by
        cases hq : M.2.2.2 with
        | none => rfl
        | some t => rw [hq] at hrc; cases t <;> exact hrc.elim
      exact W.vret hx hb (hr.trans hr0) hq hS.2.2 hd
    | some v =>
      cases v with
      | int x =>
        cases iR <;> first | exact False.elim hrt | skip
        cases ht : M.2.2.2 with
        | none => rw [ht] at hrc; exact hrc.elim
        | some t =>
          rw [ht] at hrc
          cases t with
          | int => exact W.iret hx hb (hr.trans ht) hq hS.2.2 hd
          | boolean =>
            refine W.zret hx hb (hr.trans ht) ?_ hq hS.2.2 hd
            rcases hrc with rfl | rfl <;> rfl
          | _ => exact hrc.elim
      | long x =>
        cases iR <;> first | exact False.elim hrt | skip
        cases ht : M.2.2.2 with
        | none => rw [ht] at hrc; exact hrc.elim
        | some t =>
          rw [ht] at hrc
          cases t with
          | long => exact W.lret hx hb (hr.trans ht) hq hS.2.2 hd
          | _ => exact hrc.elim
      | ref x =>
        cases iR <;> first | exact False.elim hrt | skip
        cases ht : M.2.2.2 with
        | none => rw [ht] at hrc; exact hrc.elim
        | some t =>
          rw [ht] at hrc
          cases t with
          | object y => exact W.aret hx hb (hr.trans ht) (Or.inl ⟨_, rfl⟩) (Or.inr ⟨_, rfl⟩) hq hS.2.2 hd
          | array y => exact W.aret hx hb (hr.trans ht) (Or.inr ⟨_, rfl⟩) (Or.inr ⟨_, rfl⟩) hq hS.2.2 hd
          | _ => exact hrc.elim
      | null =>
        cases iR <;> first | exact False.elim hrt | skip
        cases ht : M.2.2.2 with
        | none => rw [ht] at hrc; exact hrc.elim
        | some t =>
          rw [ht] at hrc
          cases t with
          | object y => exact W.aret hx hb (hr.trans ht) (Or.inl ⟨_, rfl⟩) (Or.inl rfl) hq hS.2.2 hd
          | _ => exact hrc.elim
      | _ => cases iR <;> exact False.elim hrt
end
section
/-! THE RULES OF EV: cells and calls -/
def sn_cts (L : List Value) : Nat := match L with
  | [] => 0
  | v :: r => v.category + sn_cts r
theorem sn_cts_eq (L : List Value) : (L.map Value.category).sum = sn_cts L := by
  induction L with
  | nil => rfl
  | cons v r ih => simp [sn_cts, ← ih]
theorem sn_ctk {L : List Value} (h : Nat.ble (sn_cts L) 8 = true) : (L.map Value.category).sum ≤ 8 := by
  rw [sn_cts_eq]; exact Nat.le_of_ble_eq_true h
def sn_spl (n : Nat) (st acc : List Value) : Option (List Value × List Value) := match n with
  | 0 => some (acc, st)
  | m + 1 => match st with
    | [] => none
    | v :: r => sn_spl m r (v :: acc)
theorem sn_spl_ok {n : Nat} : ∀ {st acc as rest : List Value}, sn_spl n st acc = some (as, rest) → as.reverse ++ rest = acc.reverse ++ st ∧ as.length = n + acc.length := by
  induction n with
  | zero =>
    intro st acc as rest h
    unfold sn_spl at h
    cases h
    exact ⟨rfl, by omega⟩
  | succ m ih =>
    intro st acc as rest h
    unfold sn_spl at h
    cases st with
    | nil => cases h
    | cons v r =>
      obtain ⟨h1, h2⟩ := ih h
      refine ⟨by rw [h1]; simp, by rw [h2]; simp; omega⟩
section EV
variable {Ω : sn_O} {d : Nat} {E : sn_E} {pc : Nat} {lv rest st : List Value} {h h' : sn_H} {r : Option Value} {len nx tg : Nat}
theorem Ev.ret {i : Instr} (hi : sn_tg E.2.1 pc = some (i, 1, nx, tg)) (hr : sn_Rt i r) (hst : st = r.toList) : Ev Ω d E pc lv st h r h := by
  subst hst
  refine ⟨⟨Nat.le_refl _, Nat.le_refl _⟩, fun γ κ mc ms Q n k kf om a b R => ?_⟩
  intro H locs ls hR hl hS
  have hd := (kf.2.2.2.2.2.2.2.2.2.1 _ (sn_tg_mem hi)).1
  have R2 := R pc i ls H locs hd hr hR hS
  rw [Nat.sub_self, Nat.sub_self] at R2
  exact R2
theorem Ev.reti {x y : Int32} (hi : sn_tg E.2.1 pc = some (.ireturn, 1, nx, tg)) (e : x = y) : Ev Ω d E pc lv [.int x] h (some (.int y)) h := by subst e; exact Ev.ret hi trivial rfl
theorem Ev.retl {x y : Int64} (hi : sn_tg E.2.1 pc = some (.lreturn, 1, nx, tg)) (e : x = y) : Ev Ω d E pc lv [.long x] h (some (.long y)) h := by subst e; exact Ev.ret hi trivial rfl
theorem Ev.retv (hi : sn_tg E.2.1 pc = some (.return_, 1, nx, tg)) : Ev Ω d E pc lv [] h none h := Ev.ret hi trivial rfl
theorem Ev.reta {x y : Nat} (hi : sn_tg E.2.1 pc = some (.areturn, 1, nx, tg)) (e : x = y) : Ev Ω d E pc lv [.ref x] h (some (.ref y)) h := by subst e; exact Ev.ret hi trivial rfl
theorem Ev.retn (hi : sn_tg E.2.1 pc = some (.areturn, 1, nx, tg)) : Ev Ω d E pc lv [.null] h (some .null) h := Ev.ret hi trivial rfl
theorem Ev.gf {idx ci j a : Nat} {fs : List Value} {v : Value} (hi : sn_tg E.2.1 pc = some (.getfield idx, len, nx, tg)) (lk : sn_LF E.1 idx ci j) (ha : h[a]? = some (.inr (ci, fs))) (hv : fs[j]? = some v) (K : Ev Ω d E nx lv (v :: rest) h r h') : Ev Ω d E pc lv (.ref a :: rest) h r h' :=
  Ev.same (fun _ _ _ _ _ _ _ kf _ K => sn_awGet kf (sn_tg_mem hi) lk ha hv K) K
theorem Ev.il {a N : Nat} {f : Nat → Int32} {i : Int32} (hi : sn_tg E.2.1 pc = some (.iaload, len, nx, tg)) (ha : h[a]? = some (.inl (0, N, .inl f))) (hin : vp_in i N) (K : Ev Ω d E nx lv (.int (f i.toNatClampNeg) :: rest) h r h') : Ev Ω d E pc lv (.int i :: .ref a :: rest) h r h' :=
  Ev.same (fun _ _ _ _ _ _ _ kf _ K => sn_awIald kf (sn_tg_mem hi) ha hin K) K
theorem Ev.bl {a N : Nat} {f : Nat → Int32} {i : Int32} (hi : sn_tg E.2.1 pc = some (.baload, len, nx, tg)) (ha : h[a]? = some (.inl (2, N, .inl f))) (hin : vp_in i N) (K : Ev Ω d E nx lv (.int (f i.toNatClampNeg) :: rest) h r h') : Ev Ω d E pc lv (.int i :: .ref a :: rest) h r h' :=
  Ev.same (fun _ _ _ _ _ _ _ kf _ K => sn_awBald kf (sn_tg_mem hi) ha hin K) K
theorem Ev.ll {a N : Nat} {f : Nat → Int64} {i : Int32} (hi : sn_tg E.2.1 pc = some (.laload, len, nx, tg)) (ha : h[a]? = some (.inl (1, N, .inr (.inl f)))) (hin : vp_in i N) (K : Ev Ω d E nx lv (.long (f i.toNatClampNeg) :: rest) h r h') : Ev Ω d E pc lv (.int i :: .ref a :: rest) h r h' :=
  Ev.same (fun _ _ _ _ _ _ _ kf _ K => sn_awLald kf (sn_tg_mem hi) ha hin K) K
/-- the same with the index as a number -/
theorem Ev.iln {a N j : Nat} {f : Nat → Int32} {i : Int32} (hi : sn_tg E.2.1 pc = some (.iaload, len, nx, tg)) (ha : h[a]? = some (.inl (0, N, .inl f))) (e : i = nI j) (hj : j < N) (hN : N < 2 ^ 31) (K : Ev Ω d E nx lv (.int (f j) :: rest) h r h') : Ev Ω d E pc lv (.int i :: .ref a :: rest) h r h' := by
  subst e
  refine Ev.il hi ha (vp_in_nI hj hN) ?_
  rw [nI_clamp (by omega)]
  exact K
theorem Ev.bln {a N j : Nat} {f : Nat → Int32} {i : Int32} (hi : sn_tg E.2.1 pc = some (.baload, len, nx, tg)) (ha : h[a]? = some (.inl (2, N, .inl f))) (e : i = nI j) (hj : j < N) (hN : N < 2 ^ 31) (K : Ev Ω d E nx lv (.int (f j) :: rest) h r h') : Ev Ω d E pc lv (.int i :: .ref a :: rest) h r h' := by
  subst e
  refine Ev.bl hi ha (vp_in_nI hj hN) ?_
  rw [nI_clamp (by omega)]
  exact K
theorem Ev.lln {a N j : Nat} {f : Nat → Int64} {i : Int32} (hi : sn_tg E.2.1 pc = some (.laload, len, nx, tg)) (ha : h[a]? = some (.inl (1, N, .inr (.inl f)))) (e : i = nI j) (hj : j < N) (hN : N < 2 ^ 31) (K : Ev Ω d E nx lv (.long (f j) :: rest) h r h') : Ev Ω d E pc lv (.int i :: .ref a :: rest) h r h' := by
  subst e
  refine Ev.ll hi ha (vp_in_nI hj hN) ?_
  rw [nI_clamp (by omega)]
  exact K
theorem Ev.aln {a N t j b : Nat} {f : Nat → Option Nat} {i : Int32} (hi : sn_tg E.2.1 pc = some (.aaload, len, nx, tg)) (ht : t = 3 ∨ t = 4) (ha : h[a]? = some (.inl (t, N, .inr (.inr (.inr (.inr f)))))) (e : i = nI j) (hj : j < N) (hN : N < 2 ^ 31) (hb : f j = some b) (K : Ev Ω d E nx lv (.ref b :: rest) h r h') : Ev Ω d E pc lv (.int i :: .ref a :: rest) h r h' := by
  subst e
  refine Ev.same (fun _ _ _ _ _ _ _ kf _ K => sn_awAald kf (sn_tg_mem hi) ht ha (vp_in_nI hj hN) (by rw [nI_clamp (by omega), hb]; exact K)) K
theorem Ev.ln {a N t : Nat} {f : (Nat → Int32) ⊕ (Nat → Int64) ⊕ (Nat → UInt32) ⊕ (Nat → UInt64) ⊕ (Nat → Option Nat)} (hi : sn_tg E.2.1 pc = some (.arraylength, len, nx, tg)) (ha : h[a]? = some (.inl (t, N, f))) (ht : Nat.blt t 5 = true) (K : Ev Ω d E nx lv (.int (nI N) :: rest) h r h') : Ev Ω d E pc lv (.ref a :: rest) h r h' :=
  Ev.same (fun _ _ _ _ _ _ _ kf _ K => sn_awAlen kf (sn_tg_mem hi) (Nat.blt_eq.mp ht) ha K) K
theorem Ev.pf {idx ci j a : Nat} {fs : List Value} {v : Value} (hi : sn_tg E.2.1 pc = some (.putfield idx, len, nx, tg)) (lk : sn_LP E.1 idx ci j E.2.2) (ha : h[a]? = some (.inr (ci, fs))) (hl : Nat.blt j fs.length = true) (hty : sn_tyok (sn_cty ci j) v = true) (K : Ev Ω d E nx lv rest (h.set a (.inr (ci, fs.set j v))) r h') : Ev Ω d E pc lv (v :: .ref a :: rest) h r h' :=
  Ev.gen 0 0 (by rw [List.length_set]; rfl) (sn_hs_set ha (by simp [sn_sl])) (fun _ _ _ _ _ _ _ kf _ _ _ K => sn_awPut kf (sn_tg_mem hi) lk ha (Nat.blt_eq.mp hl) hty K) K
theorem Ev.isn {a N j : Nat} {f : Nat → Int32} {i x : Int32} (hi : sn_tg E.2.1 pc = some (.iastore, len, nx, tg)) (ha : h[a]? = some (.inl (0, N, .inl f))) (e : i = nI j) (hj : j < N) (hN : N < 2 ^ 31) (K : Ev Ω d E nx lv rest (h.set a (.inl (0, N, .inl (upd f j x)))) r h') : Ev Ω d E pc lv (.int x :: .int i :: .ref a :: rest) h r h' := by
  subst e
  refine Ev.gen 0 0 ?_ ?_ (fun _ _ _ _ _ _ _ kf _ _ _ K => sn_awIast kf (sn_tg_mem hi) ha (vp_in_nI hj hN) (by rw [nI_clamp (by omega)]; exact K)) K
  · rw [List.length_set]; rfl
  · exact sn_hs_set ha rfl
theorem Ev.bsn {a N j : Nat} {f : Nat → Int32} {i x : Int32} (hi : sn_tg E.2.1 pc = some (.bastore, len, nx, tg)) (ha : h[a]? = some (.inl (2, N, .inl f))) (e : i = nI j) (hj : j < N) (hN : N < 2 ^ 31) (K : Ev Ω d E nx lv rest (h.set a (.inl (2, N, .inl (upd f j x.toInt8.toInt32)))) r h') : Ev Ω d E pc lv (.int x :: .int i :: .ref a :: rest) h r h' := by
  subst e
  refine Ev.gen 0 0 ?_ ?_ (fun _ _ _ _ _ _ _ kf _ _ _ K => sn_awBast kf (sn_tg_mem hi) ha (vp_in_nI hj hN) (by rw [nI_clamp (by omega)]; exact K)) K
  · rw [List.length_set]; rfl
  · exact sn_hs_set ha rfl
theorem Ev.lsn {a N j : Nat} {f : Nat → Int64} {i : Int32} {x : Int64} (hi : sn_tg E.2.1 pc = some (.lastore, len, nx, tg)) (ha : h[a]? = some (.inl (1, N, .inr (.inl f)))) (e : i = nI j) (hj : j < N) (hN : N < 2 ^ 31) (K : Ev Ω d E nx lv rest (h.set a (.inl (1, N, .inr (.inl (vp_updL f j x))))) r h') : Ev Ω d E pc lv (.long x :: .int i :: .ref a :: rest) h r h' := by
  subst e
  refine Ev.gen 0 0 ?_ ?_ (fun _ _ _ _ _ _ _ kf _ _ _ K => sn_awLast kf (sn_tg_mem hi) ha (vp_in_nI hj hN) (by rw [nI_clamp (by omega)]; exact K)) K
  · rw [List.length_set]; rfl
  · exact sn_hs_set ha rfl
theorem Ev.asn {a N t b ci j : Nat} {fs : List Value} {f : Nat → Option Nat} {i : Int32} (hi : sn_tg E.2.1 pc = some (.aastore, len, nx, tg)) (hg : sn_asg t ci) (hc : ci < 10) (ha : h[a]? = some (.inl (t, N, .inr (.inr (.inr (.inr f)))))) (hb : h[b]? = some (.inr (ci, fs))) (e : i = nI j) (hj : j < N) (hN : N < 2 ^ 31) (K : Ev Ω d E nx lv rest (h.set a (.inl (t, N, .inr (.inr (.inr (.inr (va_up f j (some b)))))))) r h') : Ev Ω d E pc lv (.ref b :: .int i :: .ref a :: rest) h r h' := by
  subst e
  refine Ev.gen 0 0 ?_ ?_ (fun _ _ _ _ _ _ _ kf _ _ _ K => sn_awAast kf (sn_tg_mem hi) hc hg ha hb (vp_in_nI hj hN) (by rw [nI_clamp (by omega)]; exact K)) K
  · rw [List.length_set]; rfl
  · exact sn_hs_set ha rfl
theorem Ev.nw {idx ci : Nat} {fs : List Value} (hi : sn_tg E.2.1 pc = some (.new idx, len, nx, tg)) (lk : sn_LC E.1 idx ci fs) (K : Ev Ω d E nx lv (.ref h.length :: st) (h ++ [.inr (ci, fs)]) r h') : Ev Ω d E pc lv st h r h' :=
  Ev.gen 1 fs.length (by simp) (by rw [sn_hs_app]; rfl) (fun _ _ _ _ _ _ _ kf _ a b K => sn_awNew kf (sn_tg_mem hi) lk a b K) K
theorem Ev.na {t N : Nat} {i : Int32} (hi : sn_tg E.2.1 pc = some (.newarray (sn_nak t).1, len, nx, tg)) (ht : Nat.blt t 3 = true) (hac : Cond.arrayClass (sn_nak t).2 ∈ sn_gw) (e : i = nI N) (hN : N < 65536) (K : Ev Ω d E nx lv (.ref h.length :: rest) (h ++ [sn_nac t N]) r h') : Ev Ω d E pc lv (.int i :: rest) h r h' := by
  subst e
  have hs : sn_sl (sn_nac t N) = N := by unfold sn_nac; split <;> rfl
  exact Ev.gen 1 N (by simp) (by rw [sn_hs_app, hs]) (fun _ _ _ _ _ _ _ kf _ a b K => sn_awNewa kf (Nat.blt_eq.mp ht) (sn_tg_mem hi) hN hac a b K) K
theorem Ev.nq {t N idx : Nat} {i : Int32} (hi : sn_tg E.2.1 pc = some (.anewarray idx, len, nx, tg)) (ht : t = 3 ∨ t = 4) (hac : Cond.classLink (sn_rn E.1) idx (sn_nq t) ∈ sn_gw) (e : i = nI N) (hN : N < 65536) (K : Ev Ω d E nx lv (.ref h.length :: rest) (h ++ [.inl (t, N, .inr (.inr (.inr (.inr fun _ => none))))]) r h') : Ev Ω d E pc lv (.int i :: rest) h r h' := by
  subst e
  exact Ev.gen 1 N (by simp) (by rw [sn_hs_app]; rfl) (fun _ _ _ _ _ _ _ kf _ a b K => sn_awNewq kf ht (sn_tg_mem hi) hN hac a b K) K
theorem Ev.iy {idx ci a : Nat} {fs : List Value} (hi : sn_tg E.2.1 pc = some (.instanceof idx, len, nx, tg)) (lk : sn_LY E.1 idx ci) (ha : h[a]? = some (.inr (ci, fs))) (K : Ev Ω d E nx lv (.int 1 :: rest) h r h') : Ev Ω d E pc lv (.ref a :: rest) h r h' :=
  Ev.same (fun _ _ _ _ _ _ _ kf _ K => sn_awInstY kf (sn_tg_mem hi) lk ha K) K
theorem Ev.in {idx ci a : Nat} {fs : List Value} (hi : sn_tg E.2.1 pc = some (.instanceof idx, len, nx, tg)) (lk : sn_LN E.1 idx ci) (ha : h[a]? = some (.inr (ci, fs))) (K : Ev Ω d E nx lv (.int 0 :: rest) h r h') : Ev Ω d E pc lv (.ref a :: rest) h r h' :=
  Ev.same (fun _ _ _ _ _ _ _ kf _ K => sn_awInstN kf (sn_tg_mem hi) lk ha K) K
theorem Ev.cc {idx ci a : Nat} {fs : List Value} (hi : sn_tg E.2.1 pc = some (.checkcast idx, len, nx, tg)) (lk : sn_LY E.1 idx ci) (ha : h[a]? = some (.inr (ci, fs))) (K : Ev Ω d E nx lv (.ref a :: rest) h r h') : Ev Ω d E pc lv (.ref a :: rest) h r h' :=
  Ev.same (fun _ _ _ _ _ _ _ kf _ K => sn_awCast kf (sn_tg_mem hi) lk ha K) K
theorem Ev.oi {idx a : Nat} (hi : sn_tg E.2.1 pc = some (.invokespecial idx, len, nx, tg)) (lk : Cond.methodLink (sn_rn E.1) idx Lib.objectInit ∈ sn_gw) (lk2 : Cond.instanceMethod Lib.objectInit ∈ sn_gw) (lk3 : Cond.code Lib.objectInit ⟨#[0xb1]⟩ 1 none ∈ sn_gw) (hct : Nat.ble (sn_cts rest) 8 = true) (K : Ev Ω (d + 1) E nx lv rest h r h') : Ev Ω (d + 1) E pc lv (.ref a :: rest) h r h' :=
  Ev.same (fun _ _ _ _ _ _ _ kf _ K => sn_awObj kf (sn_tg_mem hi) lk lk2 lk3 (sn_ctk hct) K) K
theorem Ev.ki {idx a0 a1 N0 N1 j : Nat} {f g : Nat → Int32} {cn : Int32} (hi : sn_tg E.2.1 pc = some (.invokestatic idx, len, nx, tg)) (lk : sn_LA E.1 idx) (ha0 : h[a0]? = some (.inl (0, N0, .inl f))) (ha1 : h[a1]? = some (.inl (0, N1, .inl g))) (e : cn = nI j) (h4 : j ≤ N0) (h5 : j ≤ N1) (hN : N0 < 2 ^ 31) (hct : Nat.ble (sn_cts rest) 8 = true)
    (K : Ev Ω (d + 1) E nx lv rest (h.set a1 (.inl (0, N1, .inl (va_cpy f g 0 0 j)))) r h') : Ev Ω (d + 1) E pc lv (.int cn :: .int (nI 0) :: .ref a1 :: .int (nI 0) :: .ref a0 :: rest) h r h' := by
  subst e
  have hc : (nI j).toNatClampNeg = j := nI_clamp (by omega)
  refine Ev.gen 0 0 ?_ ?_ (fun _ _ _ _ _ _ _ kf _ _ _ K => sn_awCpI kf (sn_tg_mem hi) lk ha0 ha1 (nI_pos (by omega)) (by rw [hc]; exact h4) (by rw [hc]; exact h5) (sn_ctk hct) (by rw [hc]; exact K)) K
  · rw [List.length_set]; rfl
  · exact sn_hs_set ha1 rfl
theorem Ev.kl {idx a0 a1 N0 N1 j : Nat} {f g : Nat → Int64} {cn : Int32} (hi : sn_tg E.2.1 pc = some (.invokestatic idx, len, nx, tg)) (lk : sn_LA E.1 idx) (ha0 : h[a0]? = some (.inl (1, N0, .inr (.inl f)))) (ha1 : h[a1]? = some (.inl (1, N1, .inr (.inl g)))) (e : cn = nI j) (h4 : j ≤ N0) (h5 : j ≤ N1) (hN : N0 < 2 ^ 31) (hct : Nat.ble (sn_cts rest) 8 = true)
    (K : Ev Ω (d + 1) E nx lv rest (h.set a1 (.inl (1, N1, .inr (.inl (va_cpy f g 0 0 j))))) r h') : Ev Ω (d + 1) E pc lv (.int cn :: .int (nI 0) :: .ref a1 :: .int (nI 0) :: .ref a0 :: rest) h r h' := by
  subst e
  have hc : (nI j).toNatClampNeg = j := nI_clamp (by omega)
  refine Ev.gen 0 0 ?_ ?_ (fun _ _ _ _ _ _ _ kf _ _ _ K => sn_awCpL kf (sn_tg_mem hi) lk ha0 ha1 (nI_pos (by omega)) (by rw [hc]; exact h4) (by rw [hc]; exact h5) (sn_ctk hct) (by rw [hc]; exact K)) K
  · rw [List.length_set]; rfl
  · exact sn_hs_set ha1 rfl
theorem sn_subS {h h1 : sn_H} (c : h.length ≤ h1.length ∧ sn_hs h ≤ sn_hs h1) : h1.length = h.length + (h1.length - h.length) ∧ sn_hs h1 = sn_hs h + (sn_hs h1 - sn_hs h) := ⟨by omega, by omega⟩
theorem Ev.csr {idx nA : Nat} {E' : sn_E} {as : List Value} {v : Option Value} {h1 : sn_H} (hi : sn_tg E.2.1 pc = some (.invokestatic idx, len, nx, tg)) (mk : sn_MK E'.2.2 nA) (lk : sn_LS E.1 idx E'.2.2) (hsp : sn_spl nA st [] = some (as, rest)) (hct : Nat.ble (sn_cts rest) 8 = true) (hS : Sp d E' as h v h1) (K : Ev Ω (d + 1) E nx lv (v.toList ++ rest) h1 r h') : Ev Ω (d + 1) E pc lv st h r h' := by
  obtain ⟨e1, e2⟩ := sn_spl_ok hsp
  have e1 : as.reverse ++ rest = st := e1
  subst e1
  exact Ev.gen _ _ (sn_subS hS.1).1 (sn_subS hS.1).2 (fun γ κ _ _ _ _ _ kf _ a b K => sn_awS kf (sn_tg_mem hi) mk lk e2 (sn_ctk hct) (hS.2 γ κ.2.1) a b K) K
theorem Ev.cs {idx nA : Nat} {E' : sn_E} {as : List Value} {v : Value} {h1 : sn_H} (hi : sn_tg E.2.1 pc = some (.invokestatic idx, len, nx, tg)) (mk : sn_MK E'.2.2 nA) (lk : sn_LS E.1 idx E'.2.2) (hsp : sn_spl nA st [] = some (as, rest)) (hct : Nat.ble (sn_cts rest) 8 = true) (hS : Sp d E' as h (some v) h1) (K : Ev Ω (d + 1) E nx lv (v :: rest) h1 r h') : Ev Ω (d + 1) E pc lv st h r h' := Ev.csr hi mk lk hsp hct hS K
theorem Ev.cs0 {idx nA : Nat} {E' : sn_E} {as : List Value} {h1 : sn_H} (hi : sn_tg E.2.1 pc = some (.invokestatic idx, len, nx, tg)) (mk : sn_MK E'.2.2 nA) (lk : sn_LS E.1 idx E'.2.2) (hsp : sn_spl nA st [] = some (as, rest)) (hct : Nat.ble (sn_cts rest) 8 = true) (hS : Sp d E' as h none h1) (K : Ev Ω (d + 1) E nx lv rest h1 r h') : Ev Ω (d + 1) E pc lv st h r h' := Ev.csr hi mk lk hsp hct hS K
theorem Ev.ci {idx nA a : Nat} {E' : sn_E} {as : List Value} {h1 : sn_H} (hi : sn_tg E.2.1 pc = some (.invokespecial idx, len, nx, tg)) (mk : sn_MK E'.2.2 nA) (lk : sn_LI E.1 idx E'.2.2) (hsp : sn_spl nA st [] = some (as, .ref a :: rest)) (ha : 0 < a) (hct : Nat.ble (sn_cts rest) 8 = true) (hS : Sp d E' (.ref a :: as) h none h1) (K : Ev Ω (d + 1) E nx lv rest h1 r h') : Ev Ω (d + 1) E pc lv st h r h' := by
  obtain ⟨e1, e2⟩ := sn_spl_ok hsp
  have e1 : as.reverse ++ .ref a :: rest = st := e1
  subst e1
  exact Ev.gen _ _ (sn_subS hS.1).1 (sn_subS hS.1).2 (fun γ κ _ _ _ _ _ kf _ a2 b K => sn_awI kf (sn_tg_mem hi) mk lk (show a = a - 1 + 1 by omega) e2 (sn_ctk hct) (hS.2 γ κ.2.1) a2 b K) K
theorem Ev.cvr {idx nA ci a : Nat} {fs : List Value} {E' : sn_E} {as : List Value} {v : Option Value} {h1 : sn_H} (hi : sn_tg E.2.1 pc = some (.invokevirtual idx, len, nx, tg)) (mk : sn_MK E'.2.2 nA) (lk : sn_LV E.1 idx ci E'.2.2 nA) (hsp : sn_spl nA st [] = some (as, .ref a :: rest)) (ha : h[a]? = some (.inr (ci, fs))) (hct : Nat.ble (sn_cts rest) 8 = true) (hS : Sp d E' (.ref a :: as) h v h1) (K : Ev Ω (d + 1) E nx lv (v.toList ++ rest) h1 r h') : Ev Ω (d + 1) E pc lv st h r h' := by
  obtain ⟨e1, e2⟩ := sn_spl_ok hsp
  have e1 : as.reverse ++ .ref a :: rest = st := e1
  subst e1
  exact Ev.gen _ _ (sn_subS hS.1).1 (sn_subS hS.1).2 (fun γ κ _ _ _ _ _ kf _ a2 b K => sn_awV kf (sn_tg_mem hi) mk lk ha e2 (sn_ctk hct) (hS.2 γ κ.2.1) a2 b K) K
theorem Ev.cv {idx nA ci a : Nat} {fs : List Value} {E' : sn_E} {as : List Value} {v : Value} {h1 : sn_H} (hi : sn_tg E.2.1 pc = some (.invokevirtual idx, len, nx, tg)) (mk : sn_MK E'.2.2 nA) (lk : sn_LV E.1 idx ci E'.2.2 nA) (hsp : sn_spl nA st [] = some (as, .ref a :: rest)) (ha : h[a]? = some (.inr (ci, fs))) (hct : Nat.ble (sn_cts rest) 8 = true) (hS : Sp d E' (.ref a :: as) h (some v) h1) (K : Ev Ω (d + 1) E nx lv (v :: rest) h1 r h') : Ev Ω (d + 1) E pc lv st h r h' := Ev.cvr hi mk lk hsp ha hct hS K
theorem Ev.cv0 {idx nA ci a : Nat} {fs : List Value} {E' : sn_E} {as : List Value} {h1 : sn_H} (hi : sn_tg E.2.1 pc = some (.invokevirtual idx, len, nx, tg)) (mk : sn_MK E'.2.2 nA) (lk : sn_LV E.1 idx ci E'.2.2 nA) (hsp : sn_spl nA st [] = some (as, .ref a :: rest)) (ha : h[a]? = some (.inr (ci, fs))) (hct : Nat.ble (sn_cts rest) 8 = true) (hS : Sp d E' (.ref a :: as) h none h1) (K : Ev Ω (d + 1) E nx lv rest h1 r h') : Ev Ω (d + 1) E pc lv st h r h' := Ev.cvr hi mk lk hsp ha hct hS K
end EV
end
section
theorem ck_0 : sn_CK 0 (R_0, T_0, 6) := ⟨rfl, uw_0, tk_0, nm_0⟩
theorem ck_1 : sn_CK 1 (R_1, T_1, 25) := ⟨rfl, uw_1, tk_1, nm_1⟩
theorem ck_2 : sn_CK 2 (R_2, T_2, 2) := ⟨rfl, uw_2, tk_2, nm_2⟩
theorem ck_3 : sn_CK 3 (R_3, T_3, 6) := ⟨rfl, uw_3, tk_3, nm_3⟩
theorem ck_4 : sn_CK 4 (R_4, T_4, 6) := ⟨rfl, uw_4, tk_4, nm_4⟩
theorem ck_5 : sn_CK 5 (R_5, T_5, 6) := ⟨rfl, uw_5, tk_5, nm_5⟩
theorem ck_6 : sn_CK 6 (R_6, T_6, 10) := ⟨rfl, uw_6, tk_6, nm_6⟩
theorem ck_7 : sn_CK 7 (R_7, T_7, 9) := ⟨rfl, uw_7, tk_7, nm_7⟩
theorem ck_8 : sn_CK 8 (R_8, T_8, 9) := ⟨rfl, uw_8, tk_8, nm_8⟩
theorem ck_9 : sn_CK 9 (R_9, T_9, 1) := ⟨rfl, uw_9, tk_9, nm_9⟩
def me_X_init : sn_E := (0, tb_X_init, md_X_init)
theorem ok_X_init : sn_MOK me_X_init := ⟨by decide +kernel, dk_X_init, rfl⟩
theorem mk_X_init : sn_MK md_X_init 0 := ⟨tw_20, tw_1, by decide +kernel, by decide⟩
def me_X_law : sn_E := (0, tb_X_law, md_X_law)
theorem ok_X_law : sn_MOK me_X_law := ⟨by decide +kernel, dk_X_law, rfl⟩
theorem mk_X_law : sn_MK md_X_law 2 := ⟨tw_51, tw_1, by decide +kernel, by decide⟩
def me_W_init : sn_E := (2, tb_W_init, md_W_init)
theorem ok_W_init : sn_MOK me_W_init := ⟨by decide +kernel, dk_W_init, rfl⟩
theorem mk_W_init : sn_MK md_W_init 2 := ⟨tw_55, tw_3, by decide +kernel, by decide⟩
def me_X_value : sn_E := (0, tb_X_value, md_X_value)
theorem ok_X_value : sn_MOK me_X_value := ⟨by decide +kernel, dk_X_value, rfl⟩
theorem mk_X_value : sn_MK md_X_value 2 := ⟨tw_69, tw_1, by decide +kernel, by decide⟩
def me_X_isLaw : sn_E := (0, tb_X_isLaw, md_X_isLaw)
theorem ok_X_isLaw : sn_MOK me_X_isLaw := ⟨by decide +kernel, dk_X_isLaw, rfl⟩
theorem mk_X_isLaw : sn_MK md_X_isLaw 1 := ⟨tw_73, tw_1, by decide +kernel, by decide⟩
def me_X_isKey : sn_E := (0, tb_X_isKey, md_X_isKey)
theorem ok_X_isKey : sn_MOK me_X_isKey := ⟨by decide +kernel, dk_X_isKey, rfl⟩
theorem mk_X_isKey : sn_MK md_X_isKey 1 := ⟨tw_76, tw_1, by decide +kernel, by decide⟩
def me_W_valueFor : sn_E := (2, tb_W_valueFor, md_W_valueFor)
theorem ok_W_valueFor : sn_MOK me_W_valueFor := ⟨by decide +kernel, dk_W_valueFor, rfl⟩
theorem mk_W_valueFor : sn_MK md_W_valueFor 1 := ⟨tw_80, tw_3, by decide +kernel, by decide⟩
def me_X_odds : sn_E := (0, tb_X_odds, md_X_odds)
theorem ok_X_odds : sn_MOK me_X_odds := ⟨by decide +kernel, dk_X_odds, rfl⟩
theorem mk_X_odds : sn_MK md_X_odds 4 := ⟨tw_84, tw_1, by decide +kernel, by decide⟩
def me_X_isSet : sn_E := (0, tb_X_isSet, md_X_isSet)
theorem ok_X_isSet : sn_MOK me_X_isSet := ⟨by decide +kernel, dk_X_isSet, rfl⟩
theorem mk_X_isSet : sn_MK md_X_isSet 1 := ⟨tw_87, tw_1, by decide +kernel, by decide⟩
def me_X_isSize : sn_E := (0, tb_X_isSize, md_X_isSize)
theorem ok_X_isSize : sn_MOK me_X_isSize := ⟨by decide +kernel, dk_X_isSize, rfl⟩
theorem mk_X_isSize : sn_MK md_X_isSize 1 := ⟨tw_91, tw_1, by decide +kernel, by decide⟩
def me_X_has : sn_E := (0, tb_X_has, md_X_has)
theorem ok_X_has : sn_MOK me_X_has := ⟨by decide +kernel, dk_X_has, rfl⟩
theorem mk_X_has : sn_MK md_X_has 2 := ⟨tw_94, tw_1, by decide +kernel, by decide⟩
def me_X_placesOfSet : sn_E := (0, tb_X_placesOfSet, md_X_placesOfSet)
theorem ok_X_placesOfSet : sn_MOK me_X_placesOfSet := ⟨by decide +kernel, dk_X_placesOfSet, rfl⟩
theorem mk_X_placesOfSet : sn_MK md_X_placesOfSet 4 := ⟨tw_97, tw_1, by decide +kernel, by decide⟩
def me_X_placeBy : sn_E := (0, tb_X_placeBy, md_X_placeBy)
theorem ok_X_placeBy : sn_MOK me_X_placeBy := ⟨by decide +kernel, dk_X_placeBy, rfl⟩
theorem mk_X_placeBy : sn_MK md_X_placeBy 4 := ⟨tw_100, tw_1, by decide +kernel, by decide⟩
def me_X_commonDivisor : sn_E := (0, tb_X_commonDivisor, md_X_commonDivisor)
theorem ok_X_commonDivisor : sn_MOK me_X_commonDivisor := ⟨by decide +kernel, dk_X_commonDivisor, rfl⟩
theorem mk_X_commonDivisor : sn_MK md_X_commonDivisor 2 := ⟨tw_103, tw_1, by decide +kernel, by decide⟩
def me_X_rest : sn_E := (0, tb_X_rest, md_X_rest)
theorem ok_X_rest : sn_MOK me_X_rest := ⟨by decide +kernel, dk_X_rest, rfl⟩
theorem mk_X_rest : sn_MK md_X_rest 2 := ⟨tw_106, tw_1, by decide +kernel, by decide⟩
def me_X_best : sn_E := (0, tb_X_best, md_X_best)
theorem ok_X_best : sn_MOK me_X_best := ⟨by decide +kernel, dk_X_best, rfl⟩
theorem mk_X_best : sn_MK md_X_best 3 := ⟨tw_110, tw_1, by decide +kernel, by decide⟩
def me_X_strangersMet : sn_E := (0, tb_X_strangersMet, md_X_strangersMet)
theorem ok_X_strangersMet : sn_MOK me_X_strangersMet := ⟨by decide +kernel, dk_X_strangersMet, rfl⟩
theorem mk_X_strangersMet : sn_MK md_X_strangersMet 4 := ⟨tw_113, tw_1, by decide +kernel, by decide⟩
def me_X_fewest : sn_E := (0, tb_X_fewest, md_X_fewest)
theorem ok_X_fewest : sn_MOK me_X_fewest := ⟨by decide +kernel, dk_X_fewest, rfl⟩
theorem mk_X_fewest : sn_MK md_X_fewest 3 := ⟨tw_117, tw_1, by decide +kernel, by decide⟩
def me_X_book : sn_E := (0, tb_X_book, md_X_book)
theorem ok_X_book : sn_MOK me_X_book := ⟨by decide +kernel, dk_X_book, rfl⟩
theorem mk_X_book : sn_MK md_X_book 3 := ⟨tw_121, tw_1, by decide +kernel, by decide⟩
def me_X_isKind : sn_E := (0, tb_X_isKind, md_X_isKind)
theorem ok_X_isKind : sn_MOK me_X_isKind := ⟨by decide +kernel, dk_X_isKind, rfl⟩
theorem mk_X_isKind : sn_MK md_X_isKind 1 := ⟨tw_124, tw_1, by decide +kernel, by decide⟩
def me_X_areLawsFor : sn_E := (0, tb_X_areLawsFor, md_X_areLawsFor)
theorem ok_X_areLawsFor : sn_MOK me_X_areLawsFor := ⟨by decide +kernel, dk_X_areLawsFor, rfl⟩
theorem mk_X_areLawsFor : sn_MK md_X_areLawsFor 2 := ⟨tw_128, tw_1, by decide +kernel, by decide⟩
def me_JI_bitCount : sn_E := (12, tb_JI_bitCount, md_JI_bitCount)
theorem ok_JI_bitCount : sn_MOK me_JI_bitCount := ⟨by decide +kernel, dk_JI_bitCount, rfl⟩
theorem mk_JI_bitCount : sn_MK md_JI_bitCount 1 := ⟨tw_131, tw_4, by decide +kernel, by decide⟩
def me_X_lawsOf : sn_E := (0, tb_X_lawsOf, md_X_lawsOf)
theorem ok_X_lawsOf : sn_MOK me_X_lawsOf := ⟨by decide +kernel, dk_X_lawsOf, rfl⟩
theorem mk_X_lawsOf : sn_MK md_X_lawsOf 1 := ⟨tw_138, tw_1, by decide +kernel, by decide⟩
def me_X_newBook : sn_E := (0, tb_X_newBook, md_X_newBook)
theorem ok_X_newBook : sn_MOK me_X_newBook := ⟨by decide +kernel, dk_X_newBook, rfl⟩
theorem mk_X_newBook : sn_MK md_X_newBook 4 := ⟨tw_141, tw_1, by decide +kernel, by decide⟩
def me_P_init : sn_E := (3, tb_P_init, md_P_init)
theorem ok_P_init : sn_MOK me_P_init := ⟨by decide +kernel, dk_P_init, rfl⟩
theorem mk_P_init : sn_MK md_P_init 4 := ⟨tw_146, tw_6, by decide +kernel, by decide⟩
def me_B_init : sn_E := (10, tb_B_init, md_B_init)
theorem ok_B_init : sn_MOK me_B_init := ⟨by decide +kernel, dk_B_init, rfl⟩
theorem mk_B_init : sn_MK md_B_init 4 := ⟨tw_149, tw_5, by decide +kernel, by decide⟩
def me_C_init : sn_E := (4, tb_C_init, md_C_init)
theorem ok_C_init : sn_MOK me_C_init := ⟨by decide +kernel, dk_C_init, rfl⟩
theorem mk_C_init : sn_MK md_C_init 3 := ⟨tw_211, tw_7, by decide +kernel, by decide⟩
def me_A_init : sn_E := (5, tb_A_init, md_A_init)
theorem ok_A_init : sn_MOK me_A_init := ⟨by decide +kernel, dk_A_init, rfl⟩
theorem mk_A_init : sn_MK md_A_init 4 := ⟨tw_224, tw_8, by decide +kernel, by decide⟩
def me_U_init : sn_E := (6, tb_U_init, md_U_init)
theorem ok_U_init : sn_MOK me_U_init := ⟨by decide +kernel, dk_U_init, rfl⟩
theorem mk_U_init : sn_MK md_U_init 3 := ⟨tw_237, tw_9, by decide +kernel, by decide⟩
def me_F_init : sn_E := (7, tb_F_init, md_F_init)
theorem ok_F_init : sn_MOK me_F_init := ⟨by decide +kernel, dk_F_init, rfl⟩
theorem mk_F_init : sn_MK md_F_init 3 := ⟨tw_262, tw_10, by decide +kernel, by decide⟩
def me_L_init : sn_E := (8, tb_L_init, md_L_init)
theorem ok_L_init : sn_MOK me_L_init := ⟨by decide +kernel, dk_L_init, rfl⟩
theorem mk_L_init : sn_MK md_L_init 3 := ⟨tw_284, tw_11, by decide +kernel, by decide⟩
def me_X_keep : sn_E := (0, tb_X_keep, md_X_keep)
theorem ok_X_keep : sn_MOK me_X_keep := ⟨by decide +kernel, dk_X_keep, rfl⟩
theorem mk_X_keep : sn_MK md_X_keep 1 := ⟨tw_305, tw_1, by decide +kernel, by decide⟩
def me_X_as : sn_E := (0, tb_X_as, md_X_as)
theorem ok_X_as : sn_MOK me_X_as := ⟨by decide +kernel, dk_X_as, rfl⟩
theorem mk_X_as : sn_MK md_X_as 2 := ⟨tw_309, tw_1, by decide +kernel, by decide⟩
def me_X_find : sn_E := (0, tb_X_find, md_X_find)
theorem ok_X_find : sn_MOK me_X_find := ⟨by decide +kernel, dk_X_find, rfl⟩
theorem mk_X_find : sn_MK md_X_find 1 := ⟨tw_313, tw_1, by decide +kernel, by decide⟩
def me_X_isOfKind : sn_E := (0, tb_X_isOfKind, md_X_isOfKind)
theorem ok_X_isOfKind : sn_MOK me_X_isOfKind := ⟨by decide +kernel, dk_X_isOfKind, rfl⟩
theorem mk_X_isOfKind : sn_MK md_X_isOfKind 2 := ⟨tw_316, tw_1, by decide +kernel, by decide⟩
def me_X_about : sn_E := (0, tb_X_about, md_X_about)
theorem ok_X_about : sn_MOK me_X_about := ⟨by decide +kernel, dk_X_about, rfl⟩
theorem mk_X_about : sn_MK md_X_about 2 := ⟨tw_320, tw_1, by decide +kernel, by decide⟩
def me_B_filledPlaces : sn_E := (10, tb_B_filledPlaces, md_B_filledPlaces)
theorem ok_B_filledPlaces : sn_MOK me_B_filledPlaces := ⟨by decide +kernel, dk_B_filledPlaces, rfl⟩
theorem mk_B_filledPlaces : sn_MK md_B_filledPlaces 0 := ⟨tw_330, tw_5, by decide +kernel, by decide⟩
def me_JL_bitCount : sn_E := (13, tb_JL_bitCount, md_JL_bitCount)
theorem ok_JL_bitCount : sn_MOK me_JL_bitCount := ⟨by decide +kernel, dk_JL_bitCount, rfl⟩
theorem mk_JL_bitCount : sn_MK md_JL_bitCount 1 := ⟨tw_333, tw_12, by decide +kernel, by decide⟩
def me_B_keysReally : sn_E := (10, tb_B_keysReally, md_B_keysReally)
theorem ok_B_keysReally : sn_MOK me_B_keysReally := ⟨by decide +kernel, dk_B_keysReally, rfl⟩
theorem mk_B_keysReally : sn_MK md_B_keysReally 0 := ⟨tw_346, tw_5, by decide +kernel, by decide⟩
def me_L_rowCount : sn_E := (8, tb_L_rowCount, md_L_rowCount)
theorem ok_L_rowCount : sn_MOK me_L_rowCount := ⟨by decide +kernel, dk_L_rowCount, rfl⟩
theorem mk_L_rowCount : sn_MK md_L_rowCount 0 := ⟨tw_354, tw_11, by decide +kernel, by decide⟩
def me_B_rowCount : sn_E := (10, tb_B_rowCount, md_B_rowCount)
theorem ok_B_rowCount : sn_MOK me_B_rowCount := ⟨by decide +kernel, dk_B_rowCount, rfl⟩
theorem mk_B_rowCount : sn_MK md_B_rowCount 0 := ⟨tw_358, tw_5, by decide +kernel, by decide⟩
def me_X_at : sn_E := (0, tb_X_at, md_X_at)
theorem ok_X_at : sn_MOK me_X_at := ⟨by decide +kernel, dk_X_at, rfl⟩
theorem mk_X_at : sn_MK md_X_at 2 := ⟨tw_362, tw_1, by decide +kernel, by decide⟩
def me_X_row : sn_E := (0, tb_X_row, md_X_row)
theorem ok_X_row : sn_MOK me_X_row := ⟨by decide +kernel, dk_X_row, rfl⟩
theorem mk_X_row : sn_MK md_X_row 2 := ⟨tw_366, tw_1, by decide +kernel, by decide⟩
def me_L_rowBits : sn_E := (8, tb_L_rowBits, md_L_rowBits)
theorem ok_L_rowBits : sn_MOK me_L_rowBits := ⟨by decide +kernel, dk_L_rowBits, rfl⟩
theorem mk_L_rowBits : sn_MK md_L_rowBits 1 := ⟨tw_375, tw_11, by decide +kernel, by decide⟩
def me_B_rowBits : sn_E := (10, tb_B_rowBits, md_B_rowBits)
theorem ok_B_rowBits : sn_MOK me_B_rowBits := ⟨by decide +kernel, dk_B_rowBits, rfl⟩
theorem mk_B_rowBits : sn_MK md_B_rowBits 1 := ⟨tw_379, tw_5, by decide +kernel, by decide⟩
def me_X_places : sn_E := (0, tb_X_places, md_X_places)
theorem ok_X_places : sn_MOK me_X_places := ⟨by decide +kernel, dk_X_places, rfl⟩
theorem mk_X_places : sn_MK md_X_places 2 := ⟨tw_383, tw_1, by decide +kernel, by decide⟩
def me_P_placeBits : sn_E := (3, tb_P_placeBits, md_P_placeBits)
theorem ok_P_placeBits : sn_MOK me_P_placeBits := ⟨by decide +kernel, dk_P_placeBits, rfl⟩
theorem mk_P_placeBits : sn_MK md_P_placeBits 1 := ⟨tw_389, tw_6, by decide +kernel, by decide⟩
def me_W_placeFor : sn_E := (2, tb_W_placeFor, md_W_placeFor)
theorem ok_W_placeFor : sn_MOK me_W_placeFor := ⟨by decide +kernel, dk_W_placeFor, rfl⟩
theorem mk_W_placeFor : sn_MK md_W_placeFor 2 := ⟨tw_393, tw_3, by decide +kernel, by decide⟩
def me_A_placeBits : sn_E := (5, tb_A_placeBits, md_A_placeBits)
theorem ok_A_placeBits : sn_MOK me_A_placeBits := ⟨by decide +kernel, dk_A_placeBits, rfl⟩
theorem mk_A_placeBits : sn_MK md_A_placeBits 1 := ⟨tw_396, tw_8, by decide +kernel, by decide⟩
def me_JM_max : sn_E := (14, tb_JM_max, md_JM_max)
theorem mk_JM_max : sn_MK md_JM_max 2 := ⟨tw_399, tw_13, by decide +kernel, by decide⟩
def me_U_placeBits : sn_E := (6, tb_U_placeBits, md_U_placeBits)
theorem ok_U_placeBits : sn_MOK me_U_placeBits := ⟨by decide +kernel, dk_U_placeBits, rfl⟩
theorem mk_U_placeBits : sn_MK md_U_placeBits 1 := ⟨tw_407, tw_9, by decide +kernel, by decide⟩
def me_U_firstPlace : sn_E := (6, tb_U_firstPlace, md_U_firstPlace)
theorem ok_U_firstPlace : sn_MOK me_U_firstPlace := ⟨by decide +kernel, dk_U_firstPlace, rfl⟩
theorem mk_U_firstPlace : sn_MK md_U_firstPlace 1 := ⟨tw_411, tw_9, by decide +kernel, by decide⟩
def me_U_markOf : sn_E := (6, tb_U_markOf, md_U_markOf)
theorem ok_U_markOf : sn_MOK me_U_markOf := ⟨by decide +kernel, dk_U_markOf, rfl⟩
theorem mk_U_markOf : sn_MK md_U_markOf 1 := ⟨tw_416, tw_9, by decide +kernel, by decide⟩
def me_W_markFor : sn_E := (2, tb_W_markFor, md_W_markFor)
theorem ok_W_markFor : sn_MOK me_W_markFor := ⟨by decide +kernel, dk_W_markFor, rfl⟩
theorem mk_W_markFor : sn_MK md_W_markFor 1 := ⟨tw_420, tw_3, by decide +kernel, by decide⟩
def me_U_otherPlace : sn_E := (6, tb_U_otherPlace, md_U_otherPlace)
theorem ok_U_otherPlace : sn_MOK me_U_otherPlace := ⟨by decide +kernel, dk_U_otherPlace, rfl⟩
theorem mk_U_otherPlace : sn_MK md_U_otherPlace 2 := ⟨tw_424, tw_9, by decide +kernel, by decide⟩
def me_X_put : sn_E := (0, tb_X_put, md_X_put)
theorem ok_X_put : sn_MOK me_X_put := ⟨by decide +kernel, dk_X_put, rfl⟩
theorem mk_X_put : sn_MK md_X_put 2 := ⟨tw_429, tw_1, by decide +kernel, by decide⟩
def me_P_letsPut : sn_E := (3, tb_P_letsPut, md_P_letsPut)
theorem ok_P_letsPut : sn_MOK me_P_letsPut := ⟨by decide +kernel, dk_P_letsPut, rfl⟩
theorem mk_P_letsPut : sn_MK md_P_letsPut 0 := ⟨tw_435, tw_6, by decide +kernel, by decide⟩
def me_F_letsPut : sn_E := (7, tb_F_letsPut, md_F_letsPut)
theorem ok_F_letsPut : sn_MOK me_F_letsPut := ⟨by decide +kernel, dk_F_letsPut, rfl⟩
theorem mk_F_letsPut : sn_MK md_F_letsPut 0 := ⟨tw_438, tw_10, by decide +kernel, by decide⟩
def me_L_letsPut : sn_E := (8, tb_L_letsPut, md_L_letsPut)
theorem ok_L_letsPut : sn_MOK me_L_letsPut := ⟨by decide +kernel, dk_L_letsPut, rfl⟩
theorem mk_L_letsPut : sn_MK md_L_letsPut 0 := ⟨tw_441, tw_11, by decide +kernel, by decide⟩
def me_U_letsPut : sn_E := (6, tb_U_letsPut, md_U_letsPut)
theorem ok_U_letsPut : sn_MOK me_U_letsPut := ⟨by decide +kernel, dk_U_letsPut, rfl⟩
theorem mk_U_letsPut : sn_MK md_U_letsPut 0 := ⟨tw_446, tw_9, by decide +kernel, by decide⟩
def me_P_holds : sn_E := (3, tb_P_holds, md_P_holds)
theorem ok_P_holds : sn_MOK me_P_holds := ⟨by decide +kernel, dk_P_holds, rfl⟩
theorem mk_P_holds : sn_MK md_P_holds 1 := ⟨tw_452, tw_6, by decide +kernel, by decide⟩
def me_F_holds : sn_E := (7, tb_F_holds, md_F_holds)
theorem ok_F_holds : sn_MOK me_F_holds := ⟨by decide +kernel, dk_F_holds, rfl⟩
theorem mk_F_holds : sn_MK md_F_holds 1 := ⟨tw_465, tw_10, by decide +kernel, by decide⟩
def me_F_together : sn_E := (7, tb_F_together, md_F_together)
theorem ok_F_together : sn_MOK me_F_together := ⟨by decide +kernel, dk_F_together, rfl⟩
theorem mk_F_together : sn_MK md_F_together 1 := ⟨tw_473, tw_10, by decide +kernel, by decide⟩
def me_F_markOf : sn_E := (7, tb_F_markOf, md_F_markOf)
theorem ok_F_markOf : sn_MOK me_F_markOf := ⟨by decide +kernel, dk_F_markOf, rfl⟩
theorem mk_F_markOf : sn_MK md_F_markOf 1 := ⟨tw_478, tw_10, by decide +kernel, by decide⟩
def me_L_holds : sn_E := (8, tb_L_holds, md_L_holds)
theorem ok_L_holds : sn_MOK me_L_holds := ⟨by decide +kernel, dk_L_holds, rfl⟩
theorem mk_L_holds : sn_MK md_L_holds 1 := ⟨tw_482, tw_11, by decide +kernel, by decide⟩
def me_L_placeInRow : sn_E := (8, tb_L_placeInRow, md_L_placeInRow)
theorem ok_L_placeInRow : sn_MOK me_L_placeInRow := ⟨by decide +kernel, dk_L_placeInRow, rfl⟩
theorem mk_L_placeInRow : sn_MK md_L_placeInRow 2 := ⟨tw_486, tw_11, by decide +kernel, by decide⟩
def me_U_holds : sn_E := (6, tb_U_holds, md_U_holds)
theorem ok_U_holds : sn_MOK me_U_holds := ⟨by decide +kernel, dk_U_holds, rfl⟩
theorem mk_U_holds : sn_MK md_U_holds 1 := ⟨tw_494, tw_9, by decide +kernel, by decide⟩
def me_C_insert : sn_E := (4, tb_C_insert, md_C_insert)
theorem ok_C_insert : sn_MOK me_C_insert := ⟨by decide +kernel, dk_C_insert, rfl⟩
theorem mk_C_insert : sn_MK md_C_insert 1 := ⟨tw_500, tw_7, by decide +kernel, by decide⟩
def me_P_insert : sn_E := (3, tb_P_insert, md_P_insert)
theorem ok_P_insert : sn_MOK me_P_insert := ⟨by decide +kernel, dk_P_insert, rfl⟩
theorem mk_P_insert : sn_MK md_P_insert 1 := ⟨tw_508, tw_6, by decide +kernel, by decide⟩
def me_U_insert : sn_E := (6, tb_U_insert, md_U_insert)
theorem ok_U_insert : sn_MOK me_U_insert := ⟨by decide +kernel, dk_U_insert, rfl⟩
theorem mk_U_insert : sn_MK md_U_insert 1 := ⟨tw_515, tw_9, by decide +kernel, by decide⟩
def me_U_pushInto : sn_E := (6, tb_U_pushInto, md_U_pushInto)
theorem ok_U_pushInto : sn_MOK me_U_pushInto := ⟨by decide +kernel, dk_U_pushInto, rfl⟩
theorem mk_U_pushInto : sn_MK md_U_pushInto 2 := ⟨tw_522, tw_9, by decide +kernel, by decide⟩
def me_X_take : sn_E := (0, tb_X_take, md_X_take)
theorem ok_X_take : sn_MOK me_X_take := ⟨by decide +kernel, dk_X_take, rfl⟩
theorem mk_X_take : sn_MK md_X_take 2 := ⟨tw_526, tw_1, by decide +kernel, by decide⟩
def me_C_letsTake : sn_E := (4, tb_C_letsTake, md_C_letsTake)
theorem ok_C_letsTake : sn_MOK me_C_letsTake := ⟨by decide +kernel, dk_C_letsTake, rfl⟩
theorem mk_C_letsTake : sn_MK md_C_letsTake 0 := ⟨tw_532, tw_7, by decide +kernel, by decide⟩
def me_U_letsTake : sn_E := (6, tb_U_letsTake, md_U_letsTake)
theorem ok_U_letsTake : sn_MOK me_U_letsTake := ⟨by decide +kernel, dk_U_letsTake, rfl⟩
theorem mk_U_letsTake : sn_MK md_U_letsTake 0 := ⟨tw_539, tw_9, by decide +kernel, by decide⟩
def me_B_letsTake : sn_E := (10, tb_B_letsTake, md_B_letsTake)
theorem ok_B_letsTake : sn_MOK me_B_letsTake := ⟨by decide +kernel, dk_B_letsTake, rfl⟩
theorem mk_B_letsTake : sn_MK md_B_letsTake 0 := ⟨tw_540, tw_5, by decide +kernel, by decide⟩
def me_C_remove : sn_E := (4, tb_C_remove, md_C_remove)
theorem ok_C_remove : sn_MOK me_C_remove := ⟨by decide +kernel, dk_C_remove, rfl⟩
theorem mk_C_remove : sn_MK md_C_remove 1 := ⟨tw_546, tw_7, by decide +kernel, by decide⟩
def me_U_remove : sn_E := (6, tb_U_remove, md_U_remove)
theorem ok_U_remove : sn_MOK me_U_remove := ⟨by decide +kernel, dk_U_remove, rfl⟩
theorem mk_U_remove : sn_MK md_U_remove 1 := ⟨tw_553, tw_9, by decide +kernel, by decide⟩
def me_B_remove : sn_E := (10, tb_B_remove, md_B_remove)
theorem ok_B_remove : sn_MOK me_B_remove := ⟨by decide +kernel, dk_B_remove, rfl⟩
theorem mk_B_remove : sn_MK md_B_remove 1 := ⟨tw_554, tw_5, by decide +kernel, by decide⟩
def me_X_build : sn_E := (0, tb_X_build, md_X_build)
theorem ok_X_build : sn_MOK me_X_build := ⟨by decide +kernel, dk_X_build, rfl⟩
theorem mk_X_build : sn_MK md_X_build 3 := ⟨tw_558, tw_1, by decide +kernel, by decide⟩
def me_F_rebuild : sn_E := (7, tb_F_rebuild, md_F_rebuild)
theorem ok_F_rebuild : sn_MOK me_F_rebuild := ⟨by decide +kernel, dk_F_rebuild, rfl⟩
theorem mk_F_rebuild : sn_MK md_F_rebuild 2 := ⟨tw_565, tw_10, by decide +kernel, by decide⟩
def me_F_peel : sn_E := (7, tb_F_peel, md_F_peel)
theorem ok_F_peel : sn_MOK me_F_peel := ⟨by decide +kernel, dk_F_peel, rfl⟩
theorem mk_F_peel : sn_MK md_F_peel 1 := ⟨tw_569, tw_10, by decide +kernel, by decide⟩
def me_F_placesOfOneKey : sn_E := (7, tb_F_placesOfOneKey, md_F_placesOfOneKey)
theorem ok_F_placesOfOneKey : sn_MOK me_F_placesOfOneKey := ⟨by decide +kernel, dk_F_placesOfOneKey, rfl⟩
theorem mk_F_placesOfOneKey : sn_MK md_F_placesOfOneKey 1 := ⟨tw_573, tw_10, by decide +kernel, by decide⟩
def me_JL_numberOfTrailingZeros : sn_E := (13, tb_JL_numberOfTrailingZeros, md_JL_numberOfTrailingZeros)
theorem ok_JL_numberOfTrailingZeros : sn_MOK me_JL_numberOfTrailingZeros := ⟨by decide +kernel, dk_JL_numberOfTrailingZeros, rfl⟩
theorem mk_JL_numberOfTrailingZeros : sn_MK md_JL_numberOfTrailingZeros 1 := ⟨tw_577, tw_12, by decide +kernel, by decide⟩
def me_JI_numberOfTrailingZeros : sn_E := (12, tb_JI_numberOfTrailingZeros, md_JI_numberOfTrailingZeros)
theorem ok_JI_numberOfTrailingZeros : sn_MOK me_JI_numberOfTrailingZeros := ⟨by decide +kernel, dk_JI_numberOfTrailingZeros, rfl⟩
theorem mk_JI_numberOfTrailingZeros : sn_MK md_JI_numberOfTrailingZeros 1 := ⟨tw_580, tw_4, by decide +kernel, by decide⟩
def me_F_keyAt : sn_E := (7, tb_F_keyAt, md_F_keyAt)
theorem ok_F_keyAt : sn_MOK me_F_keyAt := ⟨by decide +kernel, dk_F_keyAt, rfl⟩
theorem mk_F_keyAt : sn_MK md_F_keyAt 2 := ⟨tw_585, tw_10, by decide +kernel, by decide⟩
def me_L_rebuild : sn_E := (8, tb_L_rebuild, md_L_rebuild)
theorem ok_L_rebuild : sn_MOK me_L_rebuild := ⟨by decide +kernel, dk_L_rebuild, rfl⟩
theorem mk_L_rebuild : sn_MK md_L_rebuild 2 := ⟨tw_589, tw_11, by decide +kernel, by decide⟩
def me_L_placesInRow : sn_E := (8, tb_L_placesInRow, md_L_placesInRow)
theorem ok_L_placesInRow : sn_MOK me_L_placesInRow := ⟨by decide +kernel, dk_L_placesInRow, rfl⟩
theorem mk_L_placesInRow : sn_MK md_L_placesInRow 2 := ⟨tw_593, tw_11, by decide +kernel, by decide⟩
def me_L_thoseInRow : sn_E := (8, tb_L_thoseInRow, md_L_thoseInRow)
theorem ok_L_thoseInRow : sn_MOK me_L_thoseInRow := ⟨by decide +kernel, dk_L_thoseInRow, rfl⟩
theorem mk_L_thoseInRow : sn_MK md_L_thoseInRow 2 := ⟨tw_597, tw_11, by decide +kernel, by decide⟩
def me_B_rebuild : sn_E := (10, tb_B_rebuild, md_B_rebuild)
theorem ok_B_rebuild : sn_MOK me_B_rebuild := ⟨by decide +kernel, dk_B_rebuild, rfl⟩
theorem mk_B_rebuild : sn_MK md_B_rebuild 2 := ⟨tw_602, tw_5, by decide +kernel, by decide⟩
def me_X_real : sn_E := (0, tb_X_real, md_X_real)
theorem ok_X_real : sn_MOK me_X_real := ⟨by decide +kernel, dk_X_real, rfl⟩
theorem mk_X_real : sn_MK md_X_real 2 := ⟨tw_606, tw_1, by decide +kernel, by decide⟩
def me_X_keys : sn_E := (0, tb_X_keys, md_X_keys)
theorem ok_X_keys : sn_MOK me_X_keys := ⟨by decide +kernel, dk_X_keys, rfl⟩
theorem mk_X_keys : sn_MK md_X_keys 2 := ⟨tw_610, tw_1, by decide +kernel, by decide⟩
def me_B_keysHeld : sn_E := (10, tb_B_keysHeld, md_B_keysHeld)
theorem ok_B_keysHeld : sn_MOK me_B_keysHeld := ⟨by decide +kernel, dk_B_keysHeld, rfl⟩
theorem mk_B_keysHeld : sn_MK md_B_keysHeld 0 := ⟨tw_620, tw_5, by decide +kernel, by decide⟩
def me_X_join : sn_E := (0, tb_X_join, md_X_join)
theorem ok_X_join : sn_MOK me_X_join := ⟨by decide +kernel, dk_X_join, rfl⟩
theorem mk_X_join : sn_MK md_X_join 3 := ⟨tw_627, tw_1, by decide +kernel, by decide⟩
def me_X_isPlainOrParted : sn_E := (0, tb_X_isPlainOrParted, md_X_isPlainOrParted)
theorem ok_X_isPlainOrParted : sn_MOK me_X_isPlainOrParted := ⟨by decide +kernel, dk_X_isPlainOrParted, rfl⟩
theorem mk_X_isPlainOrParted : sn_MK md_X_isPlainOrParted 1 := ⟨tw_630, tw_1, by decide +kernel, by decide⟩
def me_X_either : sn_E := (0, tb_X_either, md_X_either)
theorem ok_X_either : sn_MOK me_X_either := ⟨by decide +kernel, dk_X_either, rfl⟩
theorem mk_X_either : sn_MK md_X_either 3 := ⟨tw_633, tw_1, by decide +kernel, by decide⟩
def me_JM_minI : sn_E := (14, tb_JM_minI, md_JM_minI)
theorem mk_JM_minI : sn_MK md_JM_minI 2 := ⟨tw_636, tw_13, by decide +kernel, by decide⟩
def me_X_halve : sn_E := (0, tb_X_halve, md_X_halve)
theorem ok_X_halve : sn_MOK me_X_halve := ⟨by decide +kernel, dk_X_halve, rfl⟩
theorem mk_X_halve : sn_MK md_X_halve 1 := ⟨tw_641, tw_1, by decide +kernel, by decide⟩
def me_X_spoil : sn_E := (0, tb_X_spoil, md_X_spoil)
theorem ok_X_spoil : sn_MOK me_X_spoil := ⟨by decide +kernel, dk_X_spoil, rfl⟩
theorem mk_X_spoil : sn_MK md_X_spoil 2 := ⟨tw_646, tw_1, by decide +kernel, by decide⟩
def me_X_noteSpots : sn_E := (0, tb_X_noteSpots, md_X_noteSpots)
theorem ok_X_noteSpots : sn_MOK me_X_noteSpots := ⟨by decide +kernel, dk_X_noteSpots, rfl⟩
theorem mk_X_noteSpots : sn_MK md_X_noteSpots 1 := ⟨tw_651, tw_1, by decide +kernel, by decide⟩
def me_X_leastFilling : sn_E := (0, tb_X_leastFilling, md_X_leastFilling)
theorem ok_X_leastFilling : sn_MOK me_X_leastFilling := ⟨by decide +kernel, dk_X_leastFilling, rfl⟩
theorem mk_X_leastFilling : sn_MK md_X_leastFilling 4 := ⟨tw_654, tw_1, by decide +kernel, by decide⟩
def me_X_made : sn_E := (0, tb_X_made, md_X_made)
theorem ok_X_made : sn_MOK me_X_made := ⟨by decide +kernel, dk_X_made, rfl⟩
theorem mk_X_made : sn_MK md_X_made 2 := ⟨tw_658, tw_1, by decide +kernel, by decide⟩
def me_X_sureMakers : sn_E := (0, tb_X_sureMakers, md_X_sureMakers)
theorem ok_X_sureMakers : sn_MOK me_X_sureMakers := ⟨by decide +kernel, dk_X_sureMakers, rfl⟩
theorem mk_X_sureMakers : sn_MK md_X_sureMakers 1 := ⟨tw_662, tw_1, by decide +kernel, by decide⟩
def me_X_makers : sn_E := (0, tb_X_makers, md_X_makers)
theorem ok_X_makers : sn_MOK me_X_makers := ⟨by decide +kernel, dk_X_makers, rfl⟩
theorem mk_X_makers : sn_MK md_X_makers 1 := ⟨tw_666, tw_1, by decide +kernel, by decide⟩
def me_V_init : sn_E := (9, tb_V_init, md_V_init)
theorem ok_V_init : sn_MOK me_V_init := ⟨by decide +kernel, dk_V_init, rfl⟩
theorem mk_V_init : sn_MK md_V_init 0 := ⟨tw_672, tw_15, by decide +kernel, by decide⟩
def me_V_leastSet : sn_E := (9, tb_V_leastSet, md_V_leastSet)
theorem ok_V_leastSet : sn_MOK me_V_leastSet := ⟨by decide +kernel, dk_V_leastSet, rfl⟩
theorem mk_V_leastSet : sn_MK md_V_leastSet 2 := ⟨tw_681, tw_15, by decide +kernel, by decide⟩
def me_V_squeeze : sn_E := (9, tb_V_squeeze, md_V_squeeze)
theorem ok_V_squeeze : sn_MOK me_V_squeeze := ⟨by decide +kernel, dk_V_squeeze, rfl⟩
theorem mk_V_squeeze : sn_MK md_V_squeeze 2 := ⟨tw_687, tw_15, by decide +kernel, by decide⟩
def me_V_letKeyHelp : sn_E := (9, tb_V_letKeyHelp, md_V_letKeyHelp)
theorem ok_V_letKeyHelp : sn_MOK me_V_letKeyHelp := ⟨by decide +kernel, dk_V_letKeyHelp, rfl⟩
theorem mk_V_letKeyHelp : sn_MK md_V_letKeyHelp 3 := ⟨tw_692, tw_15, by decide +kernel, by decide⟩
def me_JM_minL : sn_E := (14, tb_JM_minL, md_JM_minL)
theorem mk_JM_minL : sn_MK md_JM_minL 2 := ⟨tw_696, tw_13, by decide +kernel, by decide⟩
def me_X_order : sn_E := (0, tb_X_order, md_X_order)
theorem ok_X_order : sn_MOK me_X_order := ⟨by decide +kernel, dk_X_order, rfl⟩
theorem mk_X_order : sn_MK md_X_order 3 := ⟨tw_702, tw_1, by decide +kernel, by decide⟩
def me_U_orderedKey : sn_E := (6, tb_U_orderedKey, md_U_orderedKey)
theorem ok_U_orderedKey : sn_MOK me_U_orderedKey := ⟨by decide +kernel, dk_U_orderedKey, rfl⟩
theorem mk_U_orderedKey : sn_MK md_U_orderedKey 2 := ⟨tw_706, tw_9, by decide +kernel, by decide⟩
def me_U_allFindPlaces : sn_E := (6, tb_U_allFindPlaces, md_U_allFindPlaces)
theorem ok_U_allFindPlaces : sn_MOK me_U_allFindPlaces := ⟨by decide +kernel, dk_U_allFindPlaces, rfl⟩
theorem mk_U_allFindPlaces : sn_MK md_U_allFindPlaces 1 := ⟨tw_711, tw_9, by decide +kernel, by decide⟩
def me_U_nextLine : sn_E := (6, tb_U_nextLine, md_U_nextLine)
theorem ok_U_nextLine : sn_MOK me_U_nextLine := ⟨by decide +kernel, dk_U_nextLine, rfl⟩
theorem mk_U_nextLine : sn_MK md_U_nextLine 1 := ⟨tw_715, tw_9, by decide +kernel, by decide⟩
def me_U_swapInLine : sn_E := (6, tb_U_swapInLine, md_U_swapInLine)
theorem ok_U_swapInLine : sn_MOK me_U_swapInLine := ⟨by decide +kernel, dk_U_swapInLine, rfl⟩
theorem mk_U_swapInLine : sn_MK md_U_swapInLine 2 := ⟨tw_719, tw_9, by decide +kernel, by decide⟩
def me_X_most : sn_E := (0, tb_X_most, md_X_most)
theorem ok_X_most : sn_MOK me_X_most := ⟨by decide +kernel, dk_X_most, rfl⟩
theorem mk_X_most : sn_MK md_X_most 2 := ⟨tw_723, tw_1, by decide +kernel, by decide⟩
def me_U_mostAtOnce : sn_E := (6, tb_U_mostAtOnce, md_U_mostAtOnce)
theorem ok_U_mostAtOnce : sn_MOK me_U_mostAtOnce := ⟨by decide +kernel, dk_U_mostAtOnce, rfl⟩
theorem mk_U_mostAtOnce : sn_MK md_U_mostAtOnce 1 := ⟨tw_727, tw_9, by decide +kernel, by decide⟩
def me_U_tieGroups : sn_E := (6, tb_U_tieGroups, md_U_tieGroups)
theorem ok_U_tieGroups : sn_MOK me_U_tieGroups := ⟨by decide +kernel, dk_U_tieGroups, rfl⟩
theorem mk_U_tieGroups : sn_MK md_U_tieGroups 1 := ⟨tw_731, tw_9, by decide +kernel, by decide⟩
def me_U_renameGroup : sn_E := (6, tb_U_renameGroup, md_U_renameGroup)
theorem ok_U_renameGroup : sn_MOK me_U_renameGroup := ⟨by decide +kernel, dk_U_renameGroup, rfl⟩
theorem mk_U_renameGroup : sn_MK md_U_renameGroup 2 := ⟨tw_735, tw_9, by decide +kernel, by decide⟩
def me_X_count : sn_E := (0, tb_X_count, md_X_count)
theorem ok_X_count : sn_MOK me_X_count := ⟨by decide +kernel, dk_X_count, rfl⟩
theorem mk_X_count : sn_MK md_X_count 1 := ⟨tw_740, tw_1, by decide +kernel, by decide⟩
def me_X_keysReallySomewhere : sn_E := (0, tb_X_keysReallySomewhere, md_X_keysReallySomewhere)
theorem ok_X_keysReallySomewhere : sn_MOK me_X_keysReallySomewhere := ⟨by decide +kernel, dk_X_keysReallySomewhere, rfl⟩
theorem mk_X_keysReallySomewhere : sn_MK md_X_keysReallySomewhere 0 := ⟨tw_744, tw_1, by decide +kernel, by decide⟩
def me_X_keysHeldEverywhere : sn_E := (0, tb_X_keysHeldEverywhere, md_X_keysHeldEverywhere)
theorem ok_X_keysHeldEverywhere : sn_MOK me_X_keysHeldEverywhere := ⟨by decide +kernel, dk_X_keysHeldEverywhere, rfl⟩
theorem mk_X_keysHeldEverywhere : sn_MK md_X_keysHeldEverywhere 0 := ⟨tw_748, tw_1, by decide +kernel, by decide⟩
def me_X_digest : sn_E := (0, tb_X_digest, md_X_digest)
theorem ok_X_digest : sn_MOK me_X_digest := ⟨by decide +kernel, dk_X_digest, rfl⟩
theorem mk_X_digest : sn_MK md_X_digest 0 := ⟨tw_752, tw_1, by decide +kernel, by decide⟩
def me_X_digestOfBook : sn_E := (0, tb_X_digestOfBook, md_X_digestOfBook)
theorem ok_X_digestOfBook : sn_MOK me_X_digestOfBook := ⟨by decide +kernel, dk_X_digestOfBook, rfl⟩
theorem mk_X_digestOfBook : sn_MK md_X_digestOfBook 2 := ⟨tw_759, tw_1, by decide +kernel, by decide⟩
def me_M_init : sn_E := (1, tb_M_init, md_M_init)
theorem ok_M_init : sn_MOK me_M_init := ⟨by decide +kernel, dk_M_init, rfl⟩
theorem mk_M_init : sn_MK md_M_init 0 := ⟨tw_769, tw_2, by decide +kernel, by decide⟩
def me_M_law : sn_E := (1, tb_M_law, md_M_law)
theorem ok_M_law : sn_MOK me_M_law := ⟨by decide +kernel, dk_M_law, rfl⟩
theorem mk_M_law : sn_MK md_M_law 2 := ⟨tw_851, tw_2, by decide +kernel, by decide⟩
def me_M_within : sn_E := (1, tb_M_within, md_M_within)
theorem ok_M_within : sn_MOK me_M_within := ⟨by decide +kernel, dk_M_within, rfl⟩
theorem mk_M_within : sn_MK md_M_within 3 := ⟨tw_855, tw_2, by decide +kernel, by decide⟩
def me_M_value : sn_E := (1, tb_M_value, md_M_value)
theorem ok_M_value : sn_MOK me_M_value := ⟨by decide +kernel, dk_M_value, rfl⟩
theorem mk_M_value : sn_MK md_M_value 2 := ⟨tw_859, tw_2, by decide +kernel, by decide⟩
def me_M_isLaw : sn_E := (1, tb_M_isLaw, md_M_isLaw)
theorem ok_M_isLaw : sn_MOK me_M_isLaw := ⟨by decide +kernel, dk_M_isLaw, rfl⟩
theorem mk_M_isLaw : sn_MK md_M_isLaw 1 := ⟨tw_863, tw_2, by decide +kernel, by decide⟩
def me_M_isKey : sn_E := (1, tb_M_isKey, md_M_isKey)
theorem ok_M_isKey : sn_MOK me_M_isKey := ⟨by decide +kernel, dk_M_isKey, rfl⟩
theorem mk_M_isKey : sn_MK md_M_isKey 1 := ⟨tw_866, tw_2, by decide +kernel, by decide⟩
def me_M_valueOf : sn_E := (1, tb_M_valueOf, md_M_valueOf)
theorem ok_M_valueOf : sn_MOK me_M_valueOf := ⟨by decide +kernel, dk_M_valueOf, rfl⟩
theorem mk_M_valueOf : sn_MK md_M_valueOf 2 := ⟨tw_871, tw_2, by decide +kernel, by decide⟩
def me_M_odds : sn_E := (1, tb_M_odds, md_M_odds)
theorem ok_M_odds : sn_MOK me_M_odds := ⟨by decide +kernel, dk_M_odds, rfl⟩
theorem mk_M_odds : sn_MK md_M_odds 4 := ⟨tw_875, tw_2, by decide +kernel, by decide⟩
def me_M_isSet : sn_E := (1, tb_M_isSet, md_M_isSet)
theorem ok_M_isSet : sn_MOK me_M_isSet := ⟨by decide +kernel, dk_M_isSet, rfl⟩
theorem mk_M_isSet : sn_MK md_M_isSet 1 := ⟨tw_878, tw_2, by decide +kernel, by decide⟩
def me_M_has : sn_E := (1, tb_M_has, md_M_has)
theorem ok_M_has : sn_MOK me_M_has := ⟨by decide +kernel, dk_M_has, rfl⟩
theorem mk_M_has : sn_MK md_M_has 2 := ⟨tw_884, tw_2, by decide +kernel, by decide⟩
def me_M_placesBy : sn_E := (1, tb_M_placesBy, md_M_placesBy)
theorem ok_M_placesBy : sn_MOK me_M_placesBy := ⟨by decide +kernel, dk_M_placesBy, rfl⟩
theorem mk_M_placesBy : sn_MK md_M_placesBy 4 := ⟨tw_887, tw_2, by decide +kernel, by decide⟩
def me_M_best : sn_E := (1, tb_M_best, md_M_best)
theorem ok_M_best : sn_MOK me_M_best := ⟨by decide +kernel, dk_M_best, rfl⟩
theorem mk_M_best : sn_MK md_M_best 3 := ⟨tw_891, tw_2, by decide +kernel, by decide⟩
def me_M_falseBy : sn_E := (1, tb_M_falseBy, md_M_falseBy)
theorem ok_M_falseBy : sn_MOK me_M_falseBy := ⟨by decide +kernel, dk_M_falseBy, rfl⟩
theorem mk_M_falseBy : sn_MK md_M_falseBy 4 := ⟨tw_894, tw_2, by decide +kernel, by decide⟩
def me_M_fewest : sn_E := (1, tb_M_fewest, md_M_fewest)
theorem ok_M_fewest : sn_MOK me_M_fewest := ⟨by decide +kernel, dk_M_fewest, rfl⟩
theorem mk_M_fewest : sn_MK md_M_fewest 3 := ⟨tw_898, tw_2, by decide +kernel, by decide⟩
def me_M_book : sn_E := (1, tb_M_book, md_M_book)
theorem ok_M_book : sn_MOK me_M_book := ⟨by decide +kernel, dk_M_book, rfl⟩
theorem mk_M_book : sn_MK md_M_book 3 := ⟨tw_902, tw_2, by decide +kernel, by decide⟩
def me_M_ones : sn_E := (1, tb_M_ones, md_M_ones)
theorem ok_M_ones : sn_MOK me_M_ones := ⟨by decide +kernel, dk_M_ones, rfl⟩
theorem mk_M_ones : sn_MK md_M_ones 1 := ⟨tw_907, tw_2, by decide +kernel, by decide⟩
def me_M_as : sn_E := (1, tb_M_as, md_M_as)
theorem ok_M_as : sn_MOK me_M_as := ⟨by decide +kernel, dk_M_as, rfl⟩
theorem mk_M_as : sn_MK md_M_as 2 := ⟨tw_911, tw_2, by decide +kernel, by decide⟩
def me_M_isBook : sn_E := (1, tb_M_isBook, md_M_isBook)
theorem ok_M_isBook : sn_MOK me_M_isBook := ⟨by decide +kernel, dk_M_isBook, rfl⟩
theorem mk_M_isBook : sn_MK md_M_isBook 1 := ⟨tw_915, tw_2, by decide +kernel, by decide⟩
def me_M_about : sn_E := (1, tb_M_about, md_M_about)
theorem ok_M_about : sn_MOK me_M_about := ⟨by decide +kernel, dk_M_about, rfl⟩
theorem mk_M_about : sn_MK md_M_about 2 := ⟨tw_919, tw_2, by decide +kernel, by decide⟩
def me_M_aboutOf : sn_E := (1, tb_M_aboutOf, md_M_aboutOf)
theorem ok_M_aboutOf : sn_MOK me_M_aboutOf := ⟨by decide +kernel, dk_M_aboutOf, rfl⟩
theorem mk_M_aboutOf : sn_MK md_M_aboutOf 2 := ⟨tw_923, tw_2, by decide +kernel, by decide⟩
def me_M_numbersAbove : sn_E := (1, tb_M_numbersAbove, md_M_numbersAbove)
theorem ok_M_numbersAbove : sn_MOK me_M_numbersAbove := ⟨by decide +kernel, dk_M_numbersAbove, rfl⟩
theorem mk_M_numbersAbove : sn_MK md_M_numbersAbove 1 := ⟨tw_927, tw_2, by decide +kernel, by decide⟩
def me_M_reallyIn : sn_E := (1, tb_M_reallyIn, md_M_reallyIn)
theorem ok_M_reallyIn : sn_MOK me_M_reallyIn := ⟨by decide +kernel, dk_M_reallyIn, rfl⟩
theorem mk_M_reallyIn : sn_MK md_M_reallyIn 1 := ⟨tw_931, tw_2, by decide +kernel, by decide⟩
def me_M_at : sn_E := (1, tb_M_at, md_M_at)
theorem ok_M_at : sn_MOK me_M_at := ⟨by decide +kernel, dk_M_at, rfl⟩
theorem mk_M_at : sn_MK md_M_at 2 := ⟨tw_935, tw_2, by decide +kernel, by decide⟩
def me_M_row : sn_E := (1, tb_M_row, md_M_row)
theorem ok_M_row : sn_MOK me_M_row := ⟨by decide +kernel, dk_M_row, rfl⟩
theorem mk_M_row : sn_MK md_M_row 2 := ⟨tw_939, tw_2, by decide +kernel, by decide⟩
def me_M_places : sn_E := (1, tb_M_places, md_M_places)
theorem ok_M_places : sn_MOK me_M_places := ⟨by decide +kernel, dk_M_places, rfl⟩
theorem mk_M_places : sn_MK md_M_places 2 := ⟨tw_944, tw_2, by decide +kernel, by decide⟩
def me_M_placesOf : sn_E := (1, tb_M_placesOf, md_M_placesOf)
theorem ok_M_placesOf : sn_MOK me_M_placesOf := ⟨by decide +kernel, dk_M_placesOf, rfl⟩
theorem mk_M_placesOf : sn_MK md_M_placesOf 2 := ⟨tw_948, tw_2, by decide +kernel, by decide⟩
def me_M_firstPlace : sn_E := (1, tb_M_firstPlace, md_M_firstPlace)
theorem ok_M_firstPlace : sn_MOK me_M_firstPlace := ⟨by decide +kernel, dk_M_firstPlace, rfl⟩
theorem mk_M_firstPlace : sn_MK md_M_firstPlace 2 := ⟨tw_952, tw_2, by decide +kernel, by decide⟩
def me_M_lawAt : sn_E := (1, tb_M_lawAt, md_M_lawAt)
theorem ok_M_lawAt : sn_MOK me_M_lawAt := ⟨by decide +kernel, dk_M_lawAt, rfl⟩
theorem mk_M_lawAt : sn_MK md_M_lawAt 2 := ⟨tw_956, tw_2, by decide +kernel, by decide⟩
def me_M_pushedMark : sn_E := (1, tb_M_pushedMark, md_M_pushedMark)
theorem ok_M_pushedMark : sn_MOK me_M_pushedMark := ⟨by decide +kernel, dk_M_pushedMark, rfl⟩
theorem mk_M_pushedMark : sn_MK md_M_pushedMark 2 := ⟨tw_960, tw_2, by decide +kernel, by decide⟩
def me_M_markOf : sn_E := (1, tb_M_markOf, md_M_markOf)
theorem ok_M_markOf : sn_MOK me_M_markOf := ⟨by decide +kernel, dk_M_markOf, rfl⟩
theorem mk_M_markOf : sn_MK md_M_markOf 1 := ⟨tw_963, tw_2, by decide +kernel, by decide⟩
def me_M_otherPlace : sn_E := (1, tb_M_otherPlace, md_M_otherPlace)
theorem ok_M_otherPlace : sn_MOK me_M_otherPlace := ⟨by decide +kernel, dk_M_otherPlace, rfl⟩
theorem mk_M_otherPlace : sn_MK md_M_otherPlace 3 := ⟨tw_967, tw_2, by decide +kernel, by decide⟩
def me_M_placeBy : sn_E := (1, tb_M_placeBy, md_M_placeBy)
theorem ok_M_placeBy : sn_MOK me_M_placeBy := ⟨by decide +kernel, dk_M_placeBy, rfl⟩
theorem mk_M_placeBy : sn_MK md_M_placeBy 3 := ⟨tw_971, tw_2, by decide +kernel, by decide⟩
def me_M_put : sn_E := (1, tb_M_put, md_M_put)
theorem ok_M_put : sn_MOK me_M_put := ⟨by decide +kernel, dk_M_put, rfl⟩
theorem mk_M_put : sn_MK md_M_put 2 := ⟨tw_975, tw_2, by decide +kernel, by decide⟩
def me_M_isIn : sn_E := (1, tb_M_isIn, md_M_isIn)
theorem ok_M_isIn : sn_MOK me_M_isIn := ⟨by decide +kernel, dk_M_isIn, rfl⟩
theorem mk_M_isIn : sn_MK md_M_isIn 2 := ⟨tw_979, tw_2, by decide +kernel, by decide⟩
def me_M_together : sn_E := (1, tb_M_together, md_M_together)
theorem ok_M_together : sn_MOK me_M_together := ⟨by decide +kernel, dk_M_together, rfl⟩
theorem mk_M_together : sn_MK md_M_together 2 := ⟨tw_983, tw_2, by decide +kernel, by decide⟩
def me_M_layerPlace : sn_E := (1, tb_M_layerPlace, md_M_layerPlace)
theorem ok_M_layerPlace : sn_MOK me_M_layerPlace := ⟨by decide +kernel, dk_M_layerPlace, rfl⟩
theorem mk_M_layerPlace : sn_MK md_M_layerPlace 3 := ⟨tw_987, tw_2, by decide +kernel, by decide⟩
def me_M_filled : sn_E := (1, tb_M_filled, md_M_filled)
theorem ok_M_filled : sn_MOK me_M_filled := ⟨by decide +kernel, dk_M_filled, rfl⟩
theorem mk_M_filled : sn_MK md_M_filled 1 := ⟨tw_991, tw_2, by decide +kernel, by decide⟩
def me_M_push : sn_E := (1, tb_M_push, md_M_push)
theorem ok_M_push : sn_MOK me_M_push := ⟨by decide +kernel, dk_M_push, rfl⟩
theorem mk_M_push : sn_MK md_M_push 2 := ⟨tw_996, tw_2, by decide +kernel, by decide⟩
def me_M_take : sn_E := (1, tb_M_take, md_M_take)
theorem ok_M_take : sn_MOK me_M_take := ⟨by decide +kernel, dk_M_take, rfl⟩
theorem mk_M_take : sn_MK md_M_take 2 := ⟨tw_1000, tw_2, by decide +kernel, by decide⟩
def me_M_build : sn_E := (1, tb_M_build, md_M_build)
theorem ok_M_build : sn_MOK me_M_build := ⟨by decide +kernel, dk_M_build, rfl⟩
theorem mk_M_build : sn_MK md_M_build 3 := ⟨tw_1004, tw_2, by decide +kernel, by decide⟩
def me_M_fold : sn_E := (1, tb_M_fold, md_M_fold)
theorem ok_M_fold : sn_MOK me_M_fold := ⟨by decide +kernel, dk_M_fold, rfl⟩
theorem mk_M_fold : sn_MK md_M_fold 2 := ⟨tw_1008, tw_2, by decide +kernel, by decide⟩
def me_M_lonePlace : sn_E := (1, tb_M_lonePlace, md_M_lonePlace)
theorem ok_M_lonePlace : sn_MOK me_M_lonePlace := ⟨by decide +kernel, dk_M_lonePlace, rfl⟩
theorem mk_M_lonePlace : sn_MK md_M_lonePlace 2 := ⟨tw_1012, tw_2, by decide +kernel, by decide⟩
def me_M_layer : sn_E := (1, tb_M_layer, md_M_layer)
theorem ok_M_layer : sn_MOK me_M_layer := ⟨by decide +kernel, dk_M_layer, rfl⟩
theorem mk_M_layer : sn_MK md_M_layer 3 := ⟨tw_1016, tw_2, by decide +kernel, by decide⟩
def me_M_thoseIn : sn_E := (1, tb_M_thoseIn, md_M_thoseIn)
theorem ok_M_thoseIn : sn_MOK me_M_thoseIn := ⟨by decide +kernel, dk_M_thoseIn, rfl⟩
theorem mk_M_thoseIn : sn_MK md_M_thoseIn 3 := ⟨tw_1020, tw_2, by decide +kernel, by decide⟩
def me_M_real : sn_E := (1, tb_M_real, md_M_real)
theorem ok_M_real : sn_MOK me_M_real := ⟨by decide +kernel, dk_M_real, rfl⟩
theorem mk_M_real : sn_MK md_M_real 2 := ⟨tw_1024, tw_2, by decide +kernel, by decide⟩
def me_M_keys : sn_E := (1, tb_M_keys, md_M_keys)
theorem ok_M_keys : sn_MOK me_M_keys := ⟨by decide +kernel, dk_M_keys, rfl⟩
theorem mk_M_keys : sn_MK md_M_keys 2 := ⟨tw_1028, tw_2, by decide +kernel, by decide⟩
def me_M_keysOf : sn_E := (1, tb_M_keysOf, md_M_keysOf)
theorem ok_M_keysOf : sn_MOK me_M_keysOf := ⟨by decide +kernel, dk_M_keysOf, rfl⟩
theorem mk_M_keysOf : sn_MK md_M_keysOf 2 := ⟨tw_1032, tw_2, by decide +kernel, by decide⟩
def me_M_allIn : sn_E := (1, tb_M_allIn, md_M_allIn)
theorem ok_M_allIn : sn_MOK me_M_allIn := ⟨by decide +kernel, dk_M_allIn, rfl⟩
theorem mk_M_allIn : sn_MK md_M_allIn 1 := ⟨tw_1036, tw_2, by decide +kernel, by decide⟩
def me_M_join : sn_E := (1, tb_M_join, md_M_join)
theorem ok_M_join : sn_MOK me_M_join := ⟨by decide +kernel, dk_M_join, rfl⟩
theorem mk_M_join : sn_MK md_M_join 3 := ⟨tw_1041, tw_2, by decide +kernel, by decide⟩
def me_M_chosen : sn_E := (1, tb_M_chosen, md_M_chosen)
theorem ok_M_chosen : sn_MOK me_M_chosen := ⟨by decide +kernel, dk_M_chosen, rfl⟩
theorem mk_M_chosen : sn_MK md_M_chosen 3 := ⟨tw_1044, tw_2, by decide +kernel, by decide⟩
def me_M_halve : sn_E := (1, tb_M_halve, md_M_halve)
theorem ok_M_halve : sn_MOK me_M_halve := ⟨by decide +kernel, dk_M_halve, rfl⟩
theorem mk_M_halve : sn_MK md_M_halve 1 := ⟨tw_1048, tw_2, by decide +kernel, by decide⟩
def me_M_spoil : sn_E := (1, tb_M_spoil, md_M_spoil)
theorem ok_M_spoil : sn_MOK me_M_spoil := ⟨by decide +kernel, dk_M_spoil, rfl⟩
theorem mk_M_spoil : sn_MK md_M_spoil 2 := ⟨tw_1052, tw_2, by decide +kernel, by decide⟩
def me_M_layPlaces : sn_E := (1, tb_M_layPlaces, md_M_layPlaces)
theorem ok_M_layPlaces : sn_MOK me_M_layPlaces := ⟨by decide +kernel, dk_M_layPlaces, rfl⟩
theorem mk_M_layPlaces : sn_MK md_M_layPlaces 1 := ⟨tw_1057, tw_2, by decide +kernel, by decide⟩
def me_M_spoilBy : sn_E := (1, tb_M_spoilBy, md_M_spoilBy)
theorem ok_M_spoilBy : sn_MOK me_M_spoilBy := ⟨by decide +kernel, dk_M_spoilBy, rfl⟩
theorem mk_M_spoilBy : sn_MK md_M_spoilBy 3 := ⟨tw_1061, tw_2, by decide +kernel, by decide⟩
def me_M_made : sn_E := (1, tb_M_made, md_M_made)
theorem ok_M_made : sn_MOK me_M_made := ⟨by decide +kernel, dk_M_made, rfl⟩
theorem mk_M_made : sn_MK md_M_made 2 := ⟨tw_1065, tw_2, by decide +kernel, by decide⟩
def me_M_unionOf : sn_E := (1, tb_M_unionOf, md_M_unionOf)
theorem ok_M_unionOf : sn_MOK me_M_unionOf := ⟨by decide +kernel, dk_M_unionOf, rfl⟩
theorem mk_M_unionOf : sn_MK md_M_unionOf 2 := ⟨tw_1069, tw_2, by decide +kernel, by decide⟩
def me_M_cover : sn_E := (1, tb_M_cover, md_M_cover)
theorem ok_M_cover : sn_MOK me_M_cover := ⟨by decide +kernel, dk_M_cover, rfl⟩
theorem mk_M_cover : sn_MK md_M_cover 2 := ⟨tw_1074, tw_2, by decide +kernel, by decide⟩
def me_M_folded : sn_E := (1, tb_M_folded, md_M_folded)
theorem ok_M_folded : sn_MOK me_M_folded := ⟨by decide +kernel, dk_M_folded, rfl⟩
theorem mk_M_folded : sn_MK md_M_folded 2 := ⟨tw_1077, tw_2, by decide +kernel, by decide⟩
def me_M_order : sn_E := (1, tb_M_order, md_M_order)
theorem ok_M_order : sn_MOK me_M_order := ⟨by decide +kernel, dk_M_order, rfl⟩
theorem mk_M_order : sn_MK md_M_order 3 := ⟨tw_1081, tw_2, by decide +kernel, by decide⟩
def me_M_layOrder : sn_E := (1, tb_M_layOrder, md_M_layOrder)
theorem ok_M_layOrder : sn_MOK me_M_layOrder := ⟨by decide +kernel, dk_M_layOrder, rfl⟩
theorem mk_M_layOrder : sn_MK md_M_layOrder 2 := ⟨tw_1085, tw_2, by decide +kernel, by decide⟩
def me_M_goes : sn_E := (1, tb_M_goes, md_M_goes)
theorem ok_M_goes : sn_MOK me_M_goes := ⟨by decide +kernel, dk_M_goes, rfl⟩
theorem mk_M_goes : sn_MK md_M_goes 2 := ⟨tw_1089, tw_2, by decide +kernel, by decide⟩
def me_M_most : sn_E := (1, tb_M_most, md_M_most)
theorem ok_M_most : sn_MOK me_M_most := ⟨by decide +kernel, dk_M_most, rfl⟩
theorem mk_M_most : sn_MK md_M_most 2 := ⟨tw_1093, tw_2, by decide +kernel, by decide⟩
def me_M_head : sn_E := (1, tb_M_head, md_M_head)
theorem ok_M_head : sn_MOK me_M_head := ⟨by decide +kernel, dk_M_head, rfl⟩
theorem mk_M_head : sn_MK md_M_head 1 := ⟨tw_1097, tw_2, by decide +kernel, by decide⟩
def me_M_count : sn_E := (1, tb_M_count, md_M_count)
theorem ok_M_count : sn_MOK me_M_count := ⟨by decide +kernel, dk_M_count, rfl⟩
theorem mk_M_count : sn_MK md_M_count 1 := ⟨tw_1101, tw_2, by decide +kernel, by decide⟩
def me_M_howMany : sn_E := (1, tb_M_howMany, md_M_howMany)
theorem ok_M_howMany : sn_MOK me_M_howMany := ⟨by decide +kernel, dk_M_howMany, rfl⟩
theorem mk_M_howMany : sn_MK md_M_howMany 1 := ⟨tw_1105, tw_2, by decide +kernel, by decide⟩
def me_M_digest : sn_E := (1, tb_M_digest, md_M_digest)
theorem ok_M_digest : sn_MOK me_M_digest := ⟨by decide +kernel, dk_M_digest, rfl⟩
theorem mk_M_digest : sn_MK md_M_digest 0 := ⟨tw_1109, tw_2, by decide +kernel, by decide⟩
def me_M_mix : sn_E := (1, tb_M_mix, md_M_mix)
theorem ok_M_mix : sn_MOK me_M_mix := ⟨by decide +kernel, dk_M_mix, rfl⟩
theorem mk_M_mix : sn_MK md_M_mix 1 := ⟨tw_1114, tw_2, by decide +kernel, by decide⟩
def md_Law : sn_Md := (⟨"SureNoesLaw", "law", "([I)Z"⟩, code, 4, some .boolean)
def tb_Law : sn_Tb := tl_0 ++ (tl_1 ++ (tl_2 ++ (tl_3 ++ (tl_4 ++ (tl_5 ++ (tl_6 ++ (tl_7 ++ (tl_8 ++ (tl_9 ++ (tl_10 ++ (tl_11 ++ (tl_12 ++ (tl_13 ++ (tl_14 ++ (tl_15 ++ (tl_16 ++ (tl_17)))))))))))))))))
theorem dk_Law : sn_tabOk code tb_Law := (dl_0).app ((dl_1).app ((dl_2).app ((dl_3).app ((dl_4).app ((dl_5).app ((dl_6).app ((dl_7).app ((dl_8).app ((dl_9).app ((dl_10).app ((dl_11).app ((dl_12).app ((dl_13).app ((dl_14).app ((dl_15).app ((dl_16).app (dl_17)))))))))))))))))
def me_Law : sn_E := (11, tb_Law, md_Law)
theorem lo_i : Cond.instanceMethod Lib.objectInit ∈ sn_gw := tw_22
theorem lo_c : Cond.code Lib.objectInit ⟨#[0xb1]⟩ 1 none ∈ sn_gw := tw_23
theorem lo_0_1 : Cond.methodLink (sn_rn 0) 1 Lib.objectInit ∈ sn_gw := tw_21
theorem lq_0_9 : Cond.classLink (sn_rn 0) 9 (sn_nq 3) ∈ sn_gw := tw_24
theorem lf_0_11_0 : sn_LF 0 11 0 0 := ⟨_, "SureNoes", ck_0, by decide, tw_28, Or.inl rfl⟩
theorem lp_X_init_11_0 : sn_LP 0 11 0 0 md_X_init := ⟨lf_0_11_0, fun q hq => by cases hq; exact Or.inr ⟨rfl, rfl, rfl⟩⟩
theorem lf_0_15_0 : sn_LF 0 15 0 1 := ⟨_, "SureNoes", ck_0, by decide, tw_29, Or.inl rfl⟩
theorem lp_X_init_15_0 : sn_LP 0 15 0 1 md_X_init := ⟨lf_0_15_0, fun q hq => by cases hq; exact Or.inl rfl⟩
theorem lq_0_19 : Cond.classLink (sn_rn 0) 19 (sn_nq 4) ∈ sn_gw := tw_26
theorem lf_0_21_0 : sn_LF 0 21 0 2 := ⟨_, "SureNoes", ck_0, by decide, tw_30, Or.inl rfl⟩
theorem lp_X_init_21_0 : sn_LP 0 21 0 2 md_X_init := ⟨lf_0_21_0, fun q hq => by cases hq; exact Or.inr ⟨rfl, rfl, rfl⟩⟩
theorem lf_0_25_0 : sn_LF 0 25 0 3 := ⟨_, "SureNoes", ck_0, by decide, tw_31, Or.inl rfl⟩
theorem lp_X_init_25_0 : sn_LP 0 25 0 3 md_X_init := ⟨lf_0_25_0, fun q hq => by cases hq; exact Or.inl rfl⟩
theorem lf_0_28_0 : sn_LF 0 28 0 4 := ⟨_, "SureNoes", ck_0, by decide, tw_32, Or.inl rfl⟩
theorem lp_X_init_28_0 : sn_LP 0 28 0 4 md_X_init := ⟨lf_0_28_0, fun q hq => by cases hq; exact Or.inr ⟨rfl, rfl, rfl⟩⟩
theorem lf_0_32_0 : sn_LF 0 32 0 5 := ⟨_, "SureNoes", ck_0, by decide, tw_33, Or.inl rfl⟩
theorem lp_X_init_32_0 : sn_LP 0 32 0 5 md_X_init := ⟨lf_0_32_0, fun q hq => by cases hq; exact Or.inl rfl⟩
theorem lc_0_9 : sn_LC 0 9 2 [.int 0, .int 0] := ⟨_, ck_2, rfl, tw_24, tw_52, tw_3, fun _ j hj => match j, hj with
  | 0, _ => rfl
  | 1, _ => rfl
  | j + 2, hj => absurd hj (Nat.not_lt.mpr (Nat.le_add_left _ _))⟩
theorem li_0_36 : sn_LI 0 36 md_W_init := ⟨Or.inl tw_53, rfl, tw_54, rfl⟩
theorem lp_X_law_15_0 : sn_LP 0 15 0 1 md_X_law := ⟨lf_0_15_0, fun q hq => by cases hq; exact Or.inl rfl⟩
theorem lo_2_3 : Cond.methodLink (sn_rn 2) 3 Lib.objectInit ∈ sn_gw := tw_56
theorem lf_2_9_2 : sn_LF 2 9 2 0 := ⟨_, "SureNoes$Law", ck_2, by decide, tw_57, Or.inl rfl⟩
theorem lp_W_init_9_2 : sn_LP 2 9 2 0 md_W_init := ⟨lf_2_9_2, fun q hq => by cases hq; exact Or.inr ⟨rfl, rfl, rfl⟩⟩
theorem lf_2_15_2 : sn_LF 2 15 2 1 := ⟨_, "SureNoes$Law", ck_2, by decide, tw_59, Or.inl rfl⟩
theorem lp_W_init_15_2 : sn_LP 2 15 2 1 md_W_init := ⟨lf_2_15_2, fun q hq => by cases hq; exact Or.inr ⟨rfl, rfl, rfl⟩⟩
theorem lv_0_39_0 : sn_LV 0 39 0 md_X_isLaw 1 := ⟨_, rfl, Or.inl ⟨tw_70, tw_72, tp_0⟩⟩
theorem ls_0_43 : sn_LS 0 43 md_X_isKey := ⟨Or.inl tw_74, tw_75⟩
theorem lv_0_46_2 : sn_LV 0 46 2 md_W_valueFor 1 := ⟨_, rfl, Or.inl ⟨tw_77, tw_78, tw_79⟩⟩
theorem ls_0_50 : sn_LS 0 50 md_X_isSet := ⟨Or.inl tw_85, tw_86⟩
theorem ls_0_54 : sn_LS 0 54 md_X_isSize := ⟨Or.inl tw_89, tw_90⟩
theorem ls_0_57 : sn_LS 0 57 md_X_has := ⟨Or.inl tw_92, tw_93⟩
theorem ls_0_61 : sn_LS 0 61 md_X_placesOfSet := ⟨Or.inl tw_95, tw_96⟩
theorem ls_0_65 : sn_LS 0 65 md_X_placeBy := ⟨Or.inl tw_98, tw_99⟩
theorem ls_0_69 : sn_LS 0 69 md_X_commonDivisor := ⟨Or.inl tw_101, tw_102⟩
theorem ls_0_280 : sn_LS 0 280 md_X_rest := ⟨Or.inl tw_104, tw_105⟩
theorem ls_0_73 : sn_LS 0 73 md_X_strangersMet := ⟨Or.inl tw_111, tw_112⟩
theorem lf_0_77_2 : sn_LF 0 77 2 0 := ⟨_, "SureNoes$Law", ck_2, by decide, tw_58, Or.inl rfl⟩
theorem lf_0_80_2 : sn_LF 0 80 2 1 := ⟨_, "SureNoes$Law", ck_2, by decide, tw_60, Or.inl rfl⟩
theorem ls_0_83 : sn_LS 0 83 md_X_isKind := ⟨Or.inl tw_122, tw_123⟩
theorem lv_0_86_0 : sn_LV 0 86 0 md_X_areLawsFor 2 := ⟨_, rfl, Or.inl ⟨tw_125, tw_127, tp_1⟩⟩
theorem lv_0_90_0 : sn_LV 0 90 0 md_X_lawsOf 1 := ⟨_, rfl, Or.inl ⟨tw_135, tw_137, tp_2⟩⟩
theorem ls_0_94 : sn_LS 0 94 md_X_newBook := ⟨Or.inl tw_139, tw_140⟩
theorem lv_0_98_0 : sn_LV 0 98 0 md_X_keep 1 := ⟨_, rfl, Or.inl ⟨tw_302, tw_304, tp_3⟩⟩
theorem ls_0_263 : sn_LS 0 263 md_JI_bitCount := ⟨Or.inl tw_129, tw_130⟩
theorem lc_0_267 : sn_LC 0 267 3 [.int 0, .int 0, .int 0, .null, .null, .null] := ⟨_, ck_3, rfl, tw_142, tw_143, tw_6, fun _ j hj => match j, hj with
  | 0, _ => rfl
  | 1, _ => rfl
  | 2, _ => rfl
  | 3, _ => rfl
  | 4, _ => rfl
  | 5, _ => rfl
  | j + 6, hj => absurd hj (Nat.not_lt.mpr (Nat.le_add_left _ _))⟩
theorem li_0_283 : sn_LI 0 283 md_P_init := ⟨Or.inl tw_144, rfl, tw_145, rfl⟩
theorem lc_0_269 : sn_LC 0 269 4 [.int 0, .int 0, .int 0, .null, .null, .null] := ⟨_, ck_4, rfl, tw_207, tw_208, tw_7, fun _ j hj => match j, hj with
  | 0, _ => rfl
  | 1, _ => rfl
  | 2, _ => rfl
  | 3, _ => rfl
  | 4, _ => rfl
  | 5, _ => rfl
  | j + 6, hj => absurd hj (Nat.not_lt.mpr (Nat.le_add_left _ _))⟩
theorem li_0_286 : sn_LI 0 286 md_C_init := ⟨Or.inl tw_209, rfl, tw_210, rfl⟩
theorem lc_0_271 : sn_LC 0 271 5 [.int 0, .int 0, .int 0, .null, .null, .null] := ⟨_, ck_5, rfl, tw_220, tw_221, tw_8, fun _ j hj => match j, hj with
  | 0, _ => rfl
  | 1, _ => rfl
  | 2, _ => rfl
  | 3, _ => rfl
  | 4, _ => rfl
  | 5, _ => rfl
  | j + 6, hj => absurd hj (Nat.not_lt.mpr (Nat.le_add_left _ _))⟩
theorem li_0_289 : sn_LI 0 289 md_A_init := ⟨Or.inl tw_222, rfl, tw_223, rfl⟩
theorem lc_0_234 : sn_LC 0 234 6 [.int 0, .int 0, .int 0, .null, .null, .null, .null, .null, .null, .null] := ⟨_, ck_6, rfl, tw_233, tw_234, tw_9, fun _ j hj => match j, hj with
  | 0, _ => rfl
  | 1, _ => rfl
  | 2, _ => rfl
  | 3, _ => rfl
  | 4, _ => rfl
  | 5, _ => rfl
  | 6, _ => rfl
  | 7, _ => rfl
  | 8, _ => rfl
  | 9, _ => rfl
  | j + 10, hj => absurd hj (Nat.not_lt.mpr (Nat.le_add_left _ _))⟩
theorem li_0_290 : sn_LI 0 290 md_U_init := ⟨Or.inl tw_235, rfl, tw_236, rfl⟩
theorem lc_0_273 : sn_LC 0 273 7 [.int 0, .int 0, .int 0, .null, .null, .null, .null, .null, .null] := ⟨_, ck_7, rfl, tw_258, tw_259, tw_10, fun _ j hj => match j, hj with
  | 0, _ => rfl
  | 1, _ => rfl
  | 2, _ => rfl
  | 3, _ => rfl
  | 4, _ => rfl
  | 5, _ => rfl
  | 6, _ => rfl
  | 7, _ => rfl
  | 8, _ => rfl
  | j + 9, hj => absurd hj (Nat.not_lt.mpr (Nat.le_add_left _ _))⟩
theorem li_0_291 : sn_LI 0 291 md_F_init := ⟨Or.inl tw_260, rfl, tw_261, rfl⟩
theorem lc_0_275 : sn_LC 0 275 8 [.int 0, .int 0, .int 0, .null, .null, .null, .null, .null, .int 0] := ⟨_, ck_8, rfl, tw_280, tw_281, tw_11, fun _ j hj => match j, hj with
  | 0, _ => rfl
  | 1, _ => rfl
  | 2, _ => rfl
  | 3, _ => rfl
  | 4, _ => rfl
  | 5, _ => rfl
  | 6, _ => rfl
  | 7, _ => rfl
  | 8, _ => rfl
  | j + 9, hj => absurd hj (Nat.not_lt.mpr (Nat.le_add_left _ _))⟩
theorem li_0_292 : sn_LI 0 292 md_L_init := ⟨Or.inl tw_282, rfl, tw_283, rfl⟩
theorem li_3_1 : sn_LI 3 1 md_B_init := ⟨Or.inl tw_147, rfl, tw_148, rfl⟩
theorem lo_10_3 : Cond.methodLink (sn_rn 10) 3 Lib.objectInit ∈ sn_gw := tw_150
theorem lf_10_9_3 : sn_LF 10 9 3 0 := ⟨_, "SureNoes$Book", ck_3, by decide, tw_151, Or.inl rfl⟩
theorem lp_B_init_9_3 : sn_LP 10 9 3 0 md_B_init := ⟨lf_10_9_3, fun q hq => by cases hq; exact Or.inr ⟨rfl, rfl, rfl⟩⟩
theorem lf_10_9_4 : sn_LF 10 9 4 0 := ⟨_, "SureNoes$Book", ck_4, by decide, tw_151, Or.inl rfl⟩
theorem lp_B_init_9_4 : sn_LP 10 9 4 0 md_B_init := ⟨lf_10_9_4, fun q hq => by cases hq; exact Or.inr ⟨rfl, rfl, rfl⟩⟩
theorem lf_10_9_5 : sn_LF 10 9 5 0 := ⟨_, "SureNoes$Book", ck_5, by decide, tw_151, Or.inl rfl⟩
theorem lp_B_init_9_5 : sn_LP 10 9 5 0 md_B_init := ⟨lf_10_9_5, fun q hq => by cases hq; exact Or.inr ⟨rfl, rfl, rfl⟩⟩
theorem lf_10_9_6 : sn_LF 10 9 6 0 := ⟨_, "SureNoes$Book", ck_6, by decide, tw_151, Or.inl rfl⟩
theorem lp_B_init_9_6 : sn_LP 10 9 6 0 md_B_init := ⟨lf_10_9_6, fun q hq => by cases hq; exact Or.inr ⟨rfl, rfl, rfl⟩⟩
theorem lf_10_9_7 : sn_LF 10 9 7 0 := ⟨_, "SureNoes$Book", ck_7, by decide, tw_151, Or.inl rfl⟩
theorem lp_B_init_9_7 : sn_LP 10 9 7 0 md_B_init := ⟨lf_10_9_7, fun q hq => by cases hq; exact Or.inr ⟨rfl, rfl, rfl⟩⟩
theorem lf_10_9_8 : sn_LF 10 9 8 0 := ⟨_, "SureNoes$Book", ck_8, by decide, tw_151, Or.inl rfl⟩
theorem lp_B_init_9_8 : sn_LP 10 9 8 0 md_B_init := ⟨lf_10_9_8, fun q hq => by cases hq; exact Or.inr ⟨rfl, rfl, rfl⟩⟩
theorem lf_10_15_3 : sn_LF 10 15 3 1 := ⟨_, "SureNoes$Book", ck_3, by decide, tw_153, Or.inl rfl⟩
theorem lp_B_init_15_3 : sn_LP 10 15 3 1 md_B_init := ⟨lf_10_15_3, fun q hq => by cases hq; exact Or.inr ⟨rfl, rfl, rfl⟩⟩
theorem lf_10_15_4 : sn_LF 10 15 4 1 := ⟨_, "SureNoes$Book", ck_4, by decide, tw_153, Or.inl rfl⟩
theorem lp_B_init_15_4 : sn_LP 10 15 4 1 md_B_init := ⟨lf_10_15_4, fun q hq => by cases hq; exact Or.inr ⟨rfl, rfl, rfl⟩⟩
theorem lf_10_15_5 : sn_LF 10 15 5 1 := ⟨_, "SureNoes$Book", ck_5, by decide, tw_153, Or.inl rfl⟩
theorem lp_B_init_15_5 : sn_LP 10 15 5 1 md_B_init := ⟨lf_10_15_5, fun q hq => by cases hq; exact Or.inr ⟨rfl, rfl, rfl⟩⟩
theorem lf_10_15_6 : sn_LF 10 15 6 1 := ⟨_, "SureNoes$Book", ck_6, by decide, tw_153, Or.inl rfl⟩
theorem lp_B_init_15_6 : sn_LP 10 15 6 1 md_B_init := ⟨lf_10_15_6, fun q hq => by cases hq; exact Or.inr ⟨rfl, rfl, rfl⟩⟩
theorem lf_10_15_7 : sn_LF 10 15 7 1 := ⟨_, "SureNoes$Book", ck_7, by decide, tw_153, Or.inl rfl⟩
theorem lp_B_init_15_7 : sn_LP 10 15 7 1 md_B_init := ⟨lf_10_15_7, fun q hq => by cases hq; exact Or.inr ⟨rfl, rfl, rfl⟩⟩
theorem lf_10_15_8 : sn_LF 10 15 8 1 := ⟨_, "SureNoes$Book", ck_8, by decide, tw_153, Or.inl rfl⟩
theorem lp_B_init_15_8 : sn_LP 10 15 8 1 md_B_init := ⟨lf_10_15_8, fun q hq => by cases hq; exact Or.inr ⟨rfl, rfl, rfl⟩⟩
theorem lf_10_18_3 : sn_LF 10 18 3 2 := ⟨_, "SureNoes$Book", ck_3, by decide, tw_167, Or.inl rfl⟩
theorem lp_B_init_18_3 : sn_LP 10 18 3 2 md_B_init := ⟨lf_10_18_3, fun q hq => by cases hq; exact Or.inr ⟨rfl, rfl, rfl⟩⟩
theorem lf_10_18_4 : sn_LF 10 18 4 2 := ⟨_, "SureNoes$Book", ck_4, by decide, tw_167, Or.inl rfl⟩
theorem lp_B_init_18_4 : sn_LP 10 18 4 2 md_B_init := ⟨lf_10_18_4, fun q hq => by cases hq; exact Or.inr ⟨rfl, rfl, rfl⟩⟩
theorem lf_10_18_5 : sn_LF 10 18 5 2 := ⟨_, "SureNoes$Book", ck_5, by decide, tw_167, Or.inl rfl⟩
theorem lp_B_init_18_5 : sn_LP 10 18 5 2 md_B_init := ⟨lf_10_18_5, fun q hq => by cases hq; exact Or.inr ⟨rfl, rfl, rfl⟩⟩
theorem lf_10_18_6 : sn_LF 10 18 6 2 := ⟨_, "SureNoes$Book", ck_6, by decide, tw_167, Or.inl rfl⟩
theorem lp_B_init_18_6 : sn_LP 10 18 6 2 md_B_init := ⟨lf_10_18_6, fun q hq => by cases hq; exact Or.inr ⟨rfl, rfl, rfl⟩⟩
theorem lf_10_18_7 : sn_LF 10 18 7 2 := ⟨_, "SureNoes$Book", ck_7, by decide, tw_167, Or.inl rfl⟩
theorem lp_B_init_18_7 : sn_LP 10 18 7 2 md_B_init := ⟨lf_10_18_7, fun q hq => by cases hq; exact Or.inr ⟨rfl, rfl, rfl⟩⟩
theorem lf_10_18_8 : sn_LF 10 18 8 2 := ⟨_, "SureNoes$Book", ck_8, by decide, tw_167, Or.inl rfl⟩
theorem lp_B_init_18_8 : sn_LP 10 18 8 2 md_B_init := ⟨lf_10_18_8, fun q hq => by cases hq; exact Or.inr ⟨rfl, rfl, rfl⟩⟩
theorem lf_10_21_3 : sn_LF 10 21 3 3 := ⟨_, "SureNoes$Book", ck_3, by decide, tw_169, Or.inl rfl⟩
theorem lp_B_init_21_3 : sn_LP 10 21 3 3 md_B_init := ⟨lf_10_21_3, fun q hq => by cases hq; exact Or.inr ⟨rfl, rfl, rfl⟩⟩
theorem lf_10_21_4 : sn_LF 10 21 4 3 := ⟨_, "SureNoes$Book", ck_4, by decide, tw_169, Or.inl rfl⟩
theorem lp_B_init_21_4 : sn_LP 10 21 4 3 md_B_init := ⟨lf_10_21_4, fun q hq => by cases hq; exact Or.inr ⟨rfl, rfl, rfl⟩⟩
theorem lf_10_21_5 : sn_LF 10 21 5 3 := ⟨_, "SureNoes$Book", ck_5, by decide, tw_169, Or.inl rfl⟩
theorem lp_B_init_21_5 : sn_LP 10 21 5 3 md_B_init := ⟨lf_10_21_5, fun q hq => by cases hq; exact Or.inr ⟨rfl, rfl, rfl⟩⟩
theorem lf_10_21_6 : sn_LF 10 21 6 3 := ⟨_, "SureNoes$Book", ck_6, by decide, tw_169, Or.inl rfl⟩
theorem lp_B_init_21_6 : sn_LP 10 21 6 3 md_B_init := ⟨lf_10_21_6, fun q hq => by cases hq; exact Or.inr ⟨rfl, rfl, rfl⟩⟩
theorem lf_10_21_7 : sn_LF 10 21 7 3 := ⟨_, "SureNoes$Book", ck_7, by decide, tw_169, Or.inl rfl⟩
theorem lp_B_init_21_7 : sn_LP 10 21 7 3 md_B_init := ⟨lf_10_21_7, fun q hq => by cases hq; exact Or.inr ⟨rfl, rfl, rfl⟩⟩
theorem lf_10_21_8 : sn_LF 10 21 8 3 := ⟨_, "SureNoes$Book", ck_8, by decide, tw_169, Or.inl rfl⟩
theorem lp_B_init_21_8 : sn_LP 10 21 8 3 md_B_init := ⟨lf_10_21_8, fun q hq => by cases hq; exact Or.inr ⟨rfl, rfl, rfl⟩⟩
theorem lf_10_25_3 : sn_LF 10 25 3 4 := ⟨_, "SureNoes$Book", ck_3, by decide, tw_181, Or.inl rfl⟩
theorem lp_B_init_25_3 : sn_LP 10 25 3 4 md_B_init := ⟨lf_10_25_3, fun q hq => by cases hq; exact Or.inr ⟨rfl, rfl, rfl⟩⟩
theorem lf_10_25_4 : sn_LF 10 25 4 4 := ⟨_, "SureNoes$Book", ck_4, by decide, tw_181, Or.inl rfl⟩
theorem lp_B_init_25_4 : sn_LP 10 25 4 4 md_B_init := ⟨lf_10_25_4, fun q hq => by cases hq; exact Or.inr ⟨rfl, rfl, rfl⟩⟩
theorem lf_10_25_5 : sn_LF 10 25 5 4 := ⟨_, "SureNoes$Book", ck_5, by decide, tw_181, Or.inl rfl⟩
theorem lp_B_init_25_5 : sn_LP 10 25 5 4 md_B_init := ⟨lf_10_25_5, fun q hq => by cases hq; exact Or.inr ⟨rfl, rfl, rfl⟩⟩
theorem lf_10_25_6 : sn_LF 10 25 6 4 := ⟨_, "SureNoes$Book", ck_6, by decide, tw_181, Or.inl rfl⟩
theorem lp_B_init_25_6 : sn_LP 10 25 6 4 md_B_init := ⟨lf_10_25_6, fun q hq => by cases hq; exact Or.inr ⟨rfl, rfl, rfl⟩⟩
theorem lf_10_25_7 : sn_LF 10 25 7 4 := ⟨_, "SureNoes$Book", ck_7, by decide, tw_181, Or.inl rfl⟩
theorem lp_B_init_25_7 : sn_LP 10 25 7 4 md_B_init := ⟨lf_10_25_7, fun q hq => by cases hq; exact Or.inr ⟨rfl, rfl, rfl⟩⟩
theorem lf_10_25_8 : sn_LF 10 25 8 4 := ⟨_, "SureNoes$Book", ck_8, by decide, tw_181, Or.inl rfl⟩
theorem lp_B_init_25_8 : sn_LP 10 25 8 4 md_B_init := ⟨lf_10_25_8, fun q hq => by cases hq; exact Or.inr ⟨rfl, rfl, rfl⟩⟩
theorem lf_10_29_3 : sn_LF 10 29 3 5 := ⟨_, "SureNoes$Book", ck_3, by decide, tw_191, Or.inl rfl⟩
theorem lp_B_init_29_3 : sn_LP 10 29 3 5 md_B_init := ⟨lf_10_29_3, fun q hq => by cases hq; exact Or.inr ⟨rfl, rfl, rfl⟩⟩
theorem lf_10_29_4 : sn_LF 10 29 4 5 := ⟨_, "SureNoes$Book", ck_4, by decide, tw_191, Or.inl rfl⟩
theorem lp_B_init_29_4 : sn_LP 10 29 4 5 md_B_init := ⟨lf_10_29_4, fun q hq => by cases hq; exact Or.inr ⟨rfl, rfl, rfl⟩⟩
theorem lf_10_29_5 : sn_LF 10 29 5 5 := ⟨_, "SureNoes$Book", ck_5, by decide, tw_191, Or.inl rfl⟩
theorem lp_B_init_29_5 : sn_LP 10 29 5 5 md_B_init := ⟨lf_10_29_5, fun q hq => by cases hq; exact Or.inr ⟨rfl, rfl, rfl⟩⟩
theorem lf_10_29_6 : sn_LF 10 29 6 5 := ⟨_, "SureNoes$Book", ck_6, by decide, tw_191, Or.inl rfl⟩
theorem lp_B_init_29_6 : sn_LP 10 29 6 5 md_B_init := ⟨lf_10_29_6, fun q hq => by cases hq; exact Or.inr ⟨rfl, rfl, rfl⟩⟩
theorem lf_10_29_7 : sn_LF 10 29 7 5 := ⟨_, "SureNoes$Book", ck_7, by decide, tw_191, Or.inl rfl⟩
theorem lp_B_init_29_7 : sn_LP 10 29 7 5 md_B_init := ⟨lf_10_29_7, fun q hq => by cases hq; exact Or.inr ⟨rfl, rfl, rfl⟩⟩
theorem lf_10_29_8 : sn_LF 10 29 8 5 := ⟨_, "SureNoes$Book", ck_8, by decide, tw_191, Or.inl rfl⟩
theorem lp_B_init_29_8 : sn_LP 10 29 8 5 md_B_init := ⟨lf_10_29_8, fun q hq => by cases hq; exact Or.inr ⟨rfl, rfl, rfl⟩⟩
theorem li_4_3 : sn_LI 4 3 md_P_init := ⟨Or.inl tw_212, rfl, tw_145, rfl⟩
theorem li_5_1 : sn_LI 5 1 md_P_init := ⟨Or.inl tw_225, rfl, tw_145, rfl⟩
theorem li_6_3 : sn_LI 6 3 md_B_init := ⟨Or.inl tw_238, rfl, tw_148, rfl⟩
theorem lf_6_9_6 : sn_LF 6 9 6 6 := ⟨_, "SureNoes$Pushed", ck_6, by decide, tw_239, Or.inl rfl⟩
theorem lp_U_init_9_6 : sn_LP 6 9 6 6 md_U_init := ⟨lf_6_9_6, fun q hq => by cases hq; exact Or.inr ⟨rfl, rfl, rfl⟩⟩
theorem lf_6_15_6 : sn_LF 6 15 6 7 := ⟨_, "SureNoes$Pushed", ck_6, by decide, tw_240, Or.inl rfl⟩
theorem lp_U_init_15_6 : sn_LP 6 15 6 7 md_U_init := ⟨lf_6_15_6, fun q hq => by cases hq; exact Or.inr ⟨rfl, rfl, rfl⟩⟩
theorem lf_6_18_6 : sn_LF 6 18 6 8 := ⟨_, "SureNoes$Pushed", ck_6, by decide, tw_241, Or.inl rfl⟩
theorem lp_U_init_18_6 : sn_LP 6 18 6 8 md_U_init := ⟨lf_6_18_6, fun q hq => by cases hq; exact Or.inr ⟨rfl, rfl, rfl⟩⟩
theorem lf_6_21_6 : sn_LF 6 21 6 9 := ⟨_, "SureNoes$Pushed", ck_6, by decide, tw_242, Or.inl rfl⟩
theorem lp_U_init_21_6 : sn_LP 6 21 6 9 md_U_init := ⟨lf_6_21_6, fun q hq => by cases hq; exact Or.inr ⟨rfl, rfl, rfl⟩⟩
theorem li_7_3 : sn_LI 7 3 md_A_init := ⟨Or.inl tw_263, rfl, tw_223, rfl⟩
theorem lf_7_9_7 : sn_LF 7 9 7 6 := ⟨_, "SureNoes$Folded", ck_7, by decide, tw_264, Or.inl rfl⟩
theorem lp_F_init_9_7 : sn_LP 7 9 7 6 md_F_init := ⟨lf_7_9_7, fun q hq => by cases hq; exact Or.inr ⟨rfl, rfl, rfl⟩⟩
theorem lf_7_15_7 : sn_LF 7 15 7 7 := ⟨_, "SureNoes$Folded", ck_7, by decide, tw_265, Or.inl rfl⟩
theorem lp_F_init_15_7 : sn_LP 7 15 7 7 md_F_init := ⟨lf_7_15_7, fun q hq => by cases hq; exact Or.inr ⟨rfl, rfl, rfl⟩⟩
theorem lf_7_19_7 : sn_LF 7 19 7 8 := ⟨_, "SureNoes$Folded", ck_7, by decide, tw_266, Or.inl rfl⟩
theorem lp_F_init_19_7 : sn_LP 7 19 7 8 md_F_init := ⟨lf_7_19_7, fun q hq => by cases hq; exact Or.inr ⟨rfl, rfl, rfl⟩⟩
theorem li_8_3 : sn_LI 8 3 md_P_init := ⟨Or.inl tw_285, rfl, tw_145, rfl⟩
theorem lf_8_11_8 : sn_LF 8 11 8 6 := ⟨_, "SureNoes$Layered", ck_8, by decide, tw_286, Or.inl rfl⟩
theorem lp_L_init_11_8 : sn_LP 8 11 8 6 md_L_init := ⟨lf_8_11_8, fun q hq => by cases hq; exact Or.inr ⟨rfl, rfl, rfl⟩⟩
theorem lf_8_15_8 : sn_LF 8 15 8 7 := ⟨_, "SureNoes$Layered", ck_8, by decide, tw_287, Or.inl rfl⟩
theorem lp_L_init_15_8 : sn_LP 8 15 8 7 md_L_init := ⟨lf_8_15_8, fun q hq => by cases hq; exact Or.inr ⟨rfl, rfl, rfl⟩⟩
theorem lf_8_18_8 : sn_LF 8 18 8 8 := ⟨_, "SureNoes$Layered", ck_8, by decide, tw_288, Or.inl rfl⟩
theorem lp_L_init_18_8 : sn_LP 8 18 8 8 md_L_init := ⟨lf_8_18_8, fun q hq => by cases hq; exact Or.inl rfl⟩
theorem lp_X_keep_25_0 : sn_LP 0 25 0 3 md_X_keep := ⟨lf_0_25_0, fun q hq => by cases hq; exact Or.inl rfl⟩
theorem lv_0_102_0 : sn_LV 0 102 0 md_X_find 1 := ⟨_, rfl, Or.inl ⟨tw_310, tw_312, tp_4⟩⟩
theorem ls_0_106 : sn_LS 0 106 md_X_isOfKind := ⟨Or.inl tw_314, tw_315⟩
theorem ly_0_267_3 : sn_LY 0 267 3 := ⟨_, _, rfl, tw_142, Or.inl rfl⟩
theorem ly_0_267_4 : sn_LY 0 267 4 := ⟨_, _, rfl, tw_142, Or.inr tn_1122⟩
theorem ly_0_267_5 : sn_LY 0 267 5 := ⟨_, _, rfl, tw_142, Or.inr tn_1125⟩
theorem ln_0_267_6 : sn_LN 0 267 6 := ⟨_, _, rfl, tw_142, by decide +kernel⟩
theorem ly_0_267_7 : sn_LY 0 267 7 := ⟨_, _, rfl, tw_142, Or.inr tn_1123⟩
theorem ly_0_267_8 : sn_LY 0 267 8 := ⟨_, _, rfl, tw_142, Or.inr tn_1124⟩
theorem ln_0_269_3 : sn_LN 0 269 3 := ⟨_, _, rfl, tw_207, by decide +kernel⟩
theorem ly_0_269_4 : sn_LY 0 269 4 := ⟨_, _, rfl, tw_207, Or.inl rfl⟩
theorem ln_0_269_5 : sn_LN 0 269 5 := ⟨_, _, rfl, tw_207, by decide +kernel⟩
theorem ln_0_269_6 : sn_LN 0 269 6 := ⟨_, _, rfl, tw_207, by decide +kernel⟩
theorem ln_0_269_7 : sn_LN 0 269 7 := ⟨_, _, rfl, tw_207, by decide +kernel⟩
theorem ln_0_269_8 : sn_LN 0 269 8 := ⟨_, _, rfl, tw_207, by decide +kernel⟩
theorem ln_0_271_3 : sn_LN 0 271 3 := ⟨_, _, rfl, tw_220, by decide +kernel⟩
theorem ln_0_271_4 : sn_LN 0 271 4 := ⟨_, _, rfl, tw_220, by decide +kernel⟩
theorem ly_0_271_5 : sn_LY 0 271 5 := ⟨_, _, rfl, tw_220, Or.inl rfl⟩
theorem ln_0_271_6 : sn_LN 0 271 6 := ⟨_, _, rfl, tw_220, by decide +kernel⟩
theorem ly_0_271_7 : sn_LY 0 271 7 := ⟨_, _, rfl, tw_220, Or.inr tn_1126⟩
theorem ln_0_271_8 : sn_LN 0 271 8 := ⟨_, _, rfl, tw_220, by decide +kernel⟩
theorem ln_0_234_3 : sn_LN 0 234 3 := ⟨_, _, rfl, tw_233, by decide +kernel⟩
theorem ln_0_234_4 : sn_LN 0 234 4 := ⟨_, _, rfl, tw_233, by decide +kernel⟩
theorem ln_0_234_5 : sn_LN 0 234 5 := ⟨_, _, rfl, tw_233, by decide +kernel⟩
theorem ly_0_234_6 : sn_LY 0 234 6 := ⟨_, _, rfl, tw_233, Or.inl rfl⟩
theorem ln_0_234_7 : sn_LN 0 234 7 := ⟨_, _, rfl, tw_233, by decide +kernel⟩
theorem ln_0_234_8 : sn_LN 0 234 8 := ⟨_, _, rfl, tw_233, by decide +kernel⟩
theorem ln_0_273_3 : sn_LN 0 273 3 := ⟨_, _, rfl, tw_258, by decide +kernel⟩
theorem ln_0_273_4 : sn_LN 0 273 4 := ⟨_, _, rfl, tw_258, by decide +kernel⟩
theorem ln_0_273_5 : sn_LN 0 273 5 := ⟨_, _, rfl, tw_258, by decide +kernel⟩
theorem ln_0_273_6 : sn_LN 0 273 6 := ⟨_, _, rfl, tw_258, by decide +kernel⟩
theorem ly_0_273_7 : sn_LY 0 273 7 := ⟨_, _, rfl, tw_258, Or.inl rfl⟩
theorem ln_0_273_8 : sn_LN 0 273 8 := ⟨_, _, rfl, tw_258, by decide +kernel⟩
theorem ln_0_275_3 : sn_LN 0 275 3 := ⟨_, _, rfl, tw_280, by decide +kernel⟩
theorem ln_0_275_4 : sn_LN 0 275 4 := ⟨_, _, rfl, tw_280, by decide +kernel⟩
theorem ln_0_275_5 : sn_LN 0 275 5 := ⟨_, _, rfl, tw_280, by decide +kernel⟩
theorem ln_0_275_6 : sn_LN 0 275 6 := ⟨_, _, rfl, tw_280, by decide +kernel⟩
theorem ln_0_275_7 : sn_LN 0 275 7 := ⟨_, _, rfl, tw_280, by decide +kernel⟩
theorem ly_0_275_8 : sn_LY 0 275 8 := ⟨_, _, rfl, tw_280, Or.inl rfl⟩
theorem lf_0_110_3 : sn_LF 0 110 3 0 := ⟨_, "SureNoes$Book", ck_3, by decide, tw_152, Or.inl rfl⟩
theorem lf_0_110_4 : sn_LF 0 110 4 0 := ⟨_, "SureNoes$Book", ck_4, by decide, tw_152, Or.inl rfl⟩
theorem lf_0_110_5 : sn_LF 0 110 5 0 := ⟨_, "SureNoes$Book", ck_5, by decide, tw_152, Or.inl rfl⟩
theorem lf_0_110_6 : sn_LF 0 110 6 0 := ⟨_, "SureNoes$Book", ck_6, by decide, tw_152, Or.inl rfl⟩
theorem lf_0_110_7 : sn_LF 0 110 7 0 := ⟨_, "SureNoes$Book", ck_7, by decide, tw_152, Or.inl rfl⟩
theorem lf_0_110_8 : sn_LF 0 110 8 0 := ⟨_, "SureNoes$Book", ck_8, by decide, tw_152, Or.inl rfl⟩
theorem lf_0_113_3 : sn_LF 0 113 3 1 := ⟨_, "SureNoes$Book", ck_3, by decide, tw_166, Or.inl rfl⟩
theorem lf_0_113_4 : sn_LF 0 113 4 1 := ⟨_, "SureNoes$Book", ck_4, by decide, tw_166, Or.inl rfl⟩
theorem lf_0_113_5 : sn_LF 0 113 5 1 := ⟨_, "SureNoes$Book", ck_5, by decide, tw_166, Or.inl rfl⟩
theorem lf_0_113_6 : sn_LF 0 113 6 1 := ⟨_, "SureNoes$Book", ck_6, by decide, tw_166, Or.inl rfl⟩
theorem lf_0_113_7 : sn_LF 0 113 7 1 := ⟨_, "SureNoes$Book", ck_7, by decide, tw_166, Or.inl rfl⟩
theorem lf_0_113_8 : sn_LF 0 113 8 1 := ⟨_, "SureNoes$Book", ck_8, by decide, tw_166, Or.inl rfl⟩
theorem lf_0_116_3 : sn_LF 0 116 3 2 := ⟨_, "SureNoes$Book", ck_3, by decide, tw_168, Or.inl rfl⟩
theorem lf_0_116_4 : sn_LF 0 116 4 2 := ⟨_, "SureNoes$Book", ck_4, by decide, tw_168, Or.inl rfl⟩
theorem lf_0_116_5 : sn_LF 0 116 5 2 := ⟨_, "SureNoes$Book", ck_5, by decide, tw_168, Or.inl rfl⟩
theorem lf_0_116_6 : sn_LF 0 116 6 2 := ⟨_, "SureNoes$Book", ck_6, by decide, tw_168, Or.inl rfl⟩
theorem lf_0_116_7 : sn_LF 0 116 7 2 := ⟨_, "SureNoes$Book", ck_7, by decide, tw_168, Or.inl rfl⟩
theorem lf_0_116_8 : sn_LF 0 116 8 2 := ⟨_, "SureNoes$Book", ck_8, by decide, tw_168, Or.inl rfl⟩
theorem lv_0_119_3 : sn_LV 0 119 3 md_B_filledPlaces 0 := ⟨_, rfl, Or.inl ⟨tw_321, tw_322, tw_328⟩⟩
theorem lv_0_119_4 : sn_LV 0 119 4 md_B_filledPlaces 0 := ⟨_, rfl, Or.inl ⟨tw_321, tw_322, tw_324⟩⟩
theorem lv_0_119_5 : sn_LV 0 119 5 md_B_filledPlaces 0 := ⟨_, rfl, Or.inl ⟨tw_321, tw_322, tw_327⟩⟩
theorem lv_0_119_6 : sn_LV 0 119 6 md_B_filledPlaces 0 := ⟨_, rfl, Or.inl ⟨tw_321, tw_322, tw_329⟩⟩
theorem lv_0_119_7 : sn_LV 0 119 7 md_B_filledPlaces 0 := ⟨_, rfl, Or.inl ⟨tw_321, tw_322, tw_325⟩⟩
theorem lv_0_119_8 : sn_LV 0 119 8 md_B_filledPlaces 0 := ⟨_, rfl, Or.inl ⟨tw_321, tw_322, tw_326⟩⟩
theorem ls_0_123 : sn_LS 0 123 md_JL_bitCount := ⟨Or.inl tw_331, tw_332⟩
theorem lv_0_129_3 : sn_LV 0 129 3 md_B_keysReally 0 := ⟨_, rfl, Or.inl ⟨tw_337, tw_338, tw_344⟩⟩
theorem lv_0_129_4 : sn_LV 0 129 4 md_B_keysReally 0 := ⟨_, rfl, Or.inl ⟨tw_337, tw_338, tw_340⟩⟩
theorem lv_0_129_5 : sn_LV 0 129 5 md_B_keysReally 0 := ⟨_, rfl, Or.inl ⟨tw_337, tw_338, tw_343⟩⟩
theorem lv_0_129_6 : sn_LV 0 129 6 md_B_keysReally 0 := ⟨_, rfl, Or.inl ⟨tw_337, tw_338, tw_345⟩⟩
theorem lv_0_129_7 : sn_LV 0 129 7 md_B_keysReally 0 := ⟨_, rfl, Or.inl ⟨tw_337, tw_338, tw_341⟩⟩
theorem lv_0_129_8 : sn_LV 0 129 8 md_B_keysReally 0 := ⟨_, rfl, Or.inl ⟨tw_337, tw_338, tw_342⟩⟩
theorem lv_0_132_3 : sn_LV 0 132 3 md_B_rowCount 0 := ⟨_, rfl, Or.inl ⟨tw_347, tw_348, tw_356⟩⟩
theorem lv_0_132_4 : sn_LV 0 132 4 md_B_rowCount 0 := ⟨_, rfl, Or.inl ⟨tw_347, tw_348, tw_350⟩⟩
theorem lv_0_132_5 : sn_LV 0 132 5 md_B_rowCount 0 := ⟨_, rfl, Or.inl ⟨tw_347, tw_348, tw_355⟩⟩
theorem lv_0_132_6 : sn_LV 0 132 6 md_B_rowCount 0 := ⟨_, rfl, Or.inl ⟨tw_347, tw_348, tw_357⟩⟩
theorem lv_0_132_7 : sn_LV 0 132 7 md_B_rowCount 0 := ⟨_, rfl, Or.inl ⟨tw_347, tw_348, tw_351⟩⟩
theorem lv_0_132_8 : sn_LV 0 132 8 md_L_rowCount 0 := ⟨_, rfl, Or.inr ⟨⟨"SureNoes$Book", "rowCount", "()I"⟩, "SureNoes$Book", tw_347, tw_349, tw_352, tw_353, by decide +kernel, Or.inr (Or.inl ⟨tw_348, _, _, _, tw_358⟩)⟩⟩
theorem lf_0_136_3 : sn_LF 0 136 3 4 := ⟨_, "SureNoes$Book", ck_3, by decide, tw_190, Or.inl rfl⟩
theorem lf_0_136_4 : sn_LF 0 136 4 4 := ⟨_, "SureNoes$Book", ck_4, by decide, tw_190, Or.inl rfl⟩
theorem lf_0_136_5 : sn_LF 0 136 5 4 := ⟨_, "SureNoes$Book", ck_5, by decide, tw_190, Or.inl rfl⟩
theorem lf_0_136_6 : sn_LF 0 136 6 4 := ⟨_, "SureNoes$Book", ck_6, by decide, tw_190, Or.inl rfl⟩
theorem lf_0_136_7 : sn_LF 0 136 7 4 := ⟨_, "SureNoes$Book", ck_7, by decide, tw_190, Or.inl rfl⟩
theorem lf_0_136_8 : sn_LF 0 136 8 4 := ⟨_, "SureNoes$Book", ck_8, by decide, tw_190, Or.inl rfl⟩
theorem lv_0_142_3 : sn_LV 0 142 3 md_B_rowBits 1 := ⟨_, rfl, Or.inl ⟨tw_368, tw_369, tw_377⟩⟩
theorem lv_0_142_4 : sn_LV 0 142 4 md_B_rowBits 1 := ⟨_, rfl, Or.inl ⟨tw_368, tw_369, tw_371⟩⟩
theorem lv_0_142_5 : sn_LV 0 142 5 md_B_rowBits 1 := ⟨_, rfl, Or.inl ⟨tw_368, tw_369, tw_376⟩⟩
theorem lv_0_142_6 : sn_LV 0 142 6 md_B_rowBits 1 := ⟨_, rfl, Or.inl ⟨tw_368, tw_369, tw_378⟩⟩
theorem lv_0_142_7 : sn_LV 0 142 7 md_B_rowBits 1 := ⟨_, rfl, Or.inl ⟨tw_368, tw_369, tw_372⟩⟩
theorem lv_0_142_8 : sn_LV 0 142 8 md_L_rowBits 1 := ⟨_, rfl, Or.inr ⟨⟨"SureNoes$Book", "rowBits", "(I)J"⟩, "SureNoes$Book", tw_368, tw_370, tw_373, tw_374, by decide +kernel, Or.inr (Or.inl ⟨tw_369, _, _, _, tw_379⟩)⟩⟩
theorem lv_0_146_3 : sn_LV 0 146 3 md_P_placeBits 1 := ⟨_, rfl, Or.inr ⟨⟨"SureNoes$Book", "placeBits", "(I)J"⟩, "SureNoes$Book", tw_384, tw_386, tw_404, tw_388, by decide +kernel, Or.inr (Or.inr tn_385)⟩⟩
theorem lv_0_146_4 : sn_LV 0 146 4 md_P_placeBits 1 := ⟨_, rfl, Or.inr ⟨⟨"SureNoes$Book", "placeBits", "(I)J"⟩, "SureNoes$Book", tw_384, tw_386, tw_387, tw_388, by decide +kernel, Or.inr (Or.inr tn_385)⟩⟩
theorem lv_0_146_5 : sn_LV 0 146 5 md_A_placeBits 1 := ⟨_, rfl, Or.inr ⟨⟨"SureNoes$Book", "placeBits", "(I)J"⟩, "SureNoes$Book", tw_384, tw_386, tw_403, tw_395, by decide +kernel, Or.inr (Or.inr tn_385)⟩⟩
theorem lv_0_146_6 : sn_LV 0 146 6 md_U_placeBits 1 := ⟨_, rfl, Or.inr ⟨⟨"SureNoes$Book", "placeBits", "(I)J"⟩, "SureNoes$Book", tw_384, tw_386, tw_405, tw_406, by decide +kernel, Or.inr (Or.inr tn_385)⟩⟩
theorem lv_0_146_7 : sn_LV 0 146 7 md_A_placeBits 1 := ⟨_, rfl, Or.inr ⟨⟨"SureNoes$Book", "placeBits", "(I)J"⟩, "SureNoes$Book", tw_384, tw_386, tw_394, tw_395, by decide +kernel, Or.inr (Or.inr tn_385)⟩⟩
theorem lv_0_146_8 : sn_LV 0 146 8 md_P_placeBits 1 := ⟨_, rfl, Or.inr ⟨⟨"SureNoes$Book", "placeBits", "(I)J"⟩, "SureNoes$Book", tw_384, tw_386, tw_402, tw_388, by decide +kernel, Or.inr (Or.inr tn_385)⟩⟩
theorem lf_3_7_3 : sn_LF 3 7 3 3 := ⟨_, "SureNoes$Plain", ck_3, by decide, tw_178, Or.inr tw_179⟩
theorem lf_3_7_4 : sn_LF 3 7 4 3 := ⟨_, "SureNoes$Plain", ck_4, by decide, tw_178, Or.inr tw_179⟩
theorem lf_3_7_5 : sn_LF 3 7 5 3 := ⟨_, "SureNoes$Plain", ck_5, by decide, tw_178, Or.inr tw_179⟩
theorem lf_3_7_7 : sn_LF 3 7 7 3 := ⟨_, "SureNoes$Plain", ck_7, by decide, tw_178, Or.inr tw_179⟩
theorem lf_3_7_8 : sn_LF 3 7 8 3 := ⟨_, "SureNoes$Plain", ck_8, by decide, tw_178, Or.inr tw_179⟩
theorem lf_3_13_3 : sn_LF 3 13 3 1 := ⟨_, "SureNoes$Plain", ck_3, by decide, tw_160, Or.inr tw_161⟩
theorem lf_3_13_4 : sn_LF 3 13 4 1 := ⟨_, "SureNoes$Plain", ck_4, by decide, tw_160, Or.inr tw_161⟩
theorem lf_3_13_5 : sn_LF 3 13 5 1 := ⟨_, "SureNoes$Plain", ck_5, by decide, tw_160, Or.inr tw_161⟩
theorem lf_3_13_7 : sn_LF 3 13 7 1 := ⟨_, "SureNoes$Plain", ck_7, by decide, tw_160, Or.inr tw_161⟩
theorem lf_3_13_8 : sn_LF 3 13 8 1 := ⟨_, "SureNoes$Plain", ck_8, by decide, tw_160, Or.inr tw_161⟩
theorem lv_3_17_2 : sn_LV 3 17 2 md_W_placeFor 2 := ⟨_, rfl, Or.inl ⟨tw_390, tw_391, tw_392⟩⟩
theorem lf_5_7_5 : sn_LF 5 7 5 3 := ⟨_, "SureNoes$Parted", ck_5, by decide, tw_170, Or.inr tw_171⟩
theorem lf_5_7_7 : sn_LF 5 7 7 3 := ⟨_, "SureNoes$Parted", ck_7, by decide, tw_170, Or.inr tw_171⟩
theorem lf_5_13_5 : sn_LF 5 13 5 1 := ⟨_, "SureNoes$Parted", ck_5, by decide, tw_154, Or.inr tw_155⟩
theorem lf_5_13_7 : sn_LF 5 13 7 1 := ⟨_, "SureNoes$Parted", ck_7, by decide, tw_154, Or.inr tw_155⟩
theorem lm_5_17 : Cond.methodLink (sn_rn 5) 17 ⟨"java/lang/Math", "max", "(II)I"⟩ ∈ sn_gw := tw_397
theorem lv_5_23_2 : sn_LV 5 23 2 md_W_placeFor 2 := ⟨_, rfl, Or.inl ⟨tw_400, tw_391, tw_392⟩⟩
theorem ls_5_28 : sn_LS 5 28 md_X_rest := ⟨Or.inr ⟨_, tn_401⟩, tw_105⟩
theorem lv_6_45_6 : sn_LV 6 45 6 md_U_firstPlace 1 := ⟨_, rfl, Or.inl ⟨tw_408, tw_410, tp_5⟩⟩
theorem lv_6_48_6 : sn_LV 6 48 6 md_U_markOf 1 := ⟨_, rfl, Or.inl ⟨tw_413, tw_415, tp_6⟩⟩
theorem lv_6_51_6 : sn_LV 6 51 6 md_U_otherPlace 2 := ⟨_, rfl, Or.inl ⟨tw_421, tw_423, tp_7⟩⟩
theorem lf_6_24_6 : sn_LF 6 24 6 3 := ⟨_, "SureNoes$Pushed", ck_6, by decide, tw_172, Or.inr tw_173⟩
theorem lf_6_28_6 : sn_LF 6 28 6 1 := ⟨_, "SureNoes$Pushed", ck_6, by decide, tw_158, Or.inr tw_159⟩
theorem lv_6_32_2 : sn_LV 6 32 2 md_W_placeFor 2 := ⟨_, rfl, Or.inl ⟨tw_412, tw_391, tw_392⟩⟩
theorem lv_6_38_2 : sn_LV 6 38 2 md_W_markFor 1 := ⟨_, rfl, Or.inl ⟨tw_417, tw_418, tw_419⟩⟩
theorem ls_6_42 : sn_LS 6 42 md_X_rest := ⟨Or.inr ⟨_, tn_425⟩, tw_105⟩
theorem lv_0_149_3 : sn_LV 0 149 3 md_P_letsPut 0 := ⟨_, rfl, Or.inr ⟨⟨"SureNoes$Book", "letsPut", "()Z"⟩, "SureNoes$Book", tw_430, tw_432, tw_443, tw_434, by decide +kernel, Or.inr (Or.inr tn_431)⟩⟩
theorem lv_0_149_4 : sn_LV 0 149 4 md_P_letsPut 0 := ⟨_, rfl, Or.inr ⟨⟨"SureNoes$Book", "letsPut", "()Z"⟩, "SureNoes$Book", tw_430, tw_432, tw_433, tw_434, by decide +kernel, Or.inr (Or.inr tn_431)⟩⟩
theorem lv_0_149_5 : sn_LV 0 149 5 md_P_letsPut 0 := ⟨_, rfl, Or.inr ⟨⟨"SureNoes$Book", "letsPut", "()Z"⟩, "SureNoes$Book", tw_430, tw_432, tw_442, tw_434, by decide +kernel, Or.inr (Or.inr tn_431)⟩⟩
theorem lv_0_149_6 : sn_LV 0 149 6 md_U_letsPut 0 := ⟨_, rfl, Or.inr ⟨⟨"SureNoes$Book", "letsPut", "()Z"⟩, "SureNoes$Book", tw_430, tw_432, tw_444, tw_445, by decide +kernel, Or.inr (Or.inr tn_431)⟩⟩
theorem lv_0_149_7 : sn_LV 0 149 7 md_F_letsPut 0 := ⟨_, rfl, Or.inr ⟨⟨"SureNoes$Book", "letsPut", "()Z"⟩, "SureNoes$Book", tw_430, tw_432, tw_436, tw_437, by decide +kernel, Or.inr (Or.inr tn_431)⟩⟩
theorem lv_0_149_8 : sn_LV 0 149 8 md_L_letsPut 0 := ⟨_, rfl, Or.inr ⟨⟨"SureNoes$Book", "letsPut", "()Z"⟩, "SureNoes$Book", tw_430, tw_432, tw_439, tw_440, by decide +kernel, Or.inr (Or.inr tn_431)⟩⟩
theorem lf_0_153_3 : sn_LF 0 153 3 5 := ⟨_, "SureNoes$Book", ck_3, by decide, tw_192, Or.inl rfl⟩
theorem lf_0_153_4 : sn_LF 0 153 4 5 := ⟨_, "SureNoes$Book", ck_4, by decide, tw_192, Or.inl rfl⟩
theorem lf_0_153_5 : sn_LF 0 153 5 5 := ⟨_, "SureNoes$Book", ck_5, by decide, tw_192, Or.inl rfl⟩
theorem lf_0_153_6 : sn_LF 0 153 6 5 := ⟨_, "SureNoes$Book", ck_6, by decide, tw_192, Or.inl rfl⟩
theorem lf_0_153_7 : sn_LF 0 153 7 5 := ⟨_, "SureNoes$Book", ck_7, by decide, tw_192, Or.inl rfl⟩
theorem lf_0_153_8 : sn_LF 0 153 8 5 := ⟨_, "SureNoes$Book", ck_8, by decide, tw_192, Or.inl rfl⟩
theorem lv_0_156_3 : sn_LV 0 156 3 md_P_holds 1 := ⟨_, rfl, Or.inr ⟨⟨"SureNoes$Book", "holds", "(I)Z"⟩, "SureNoes$Book", tw_447, tw_449, tw_491, tw_451, by decide +kernel, Or.inr (Or.inr tn_448)⟩⟩
theorem lv_0_156_4 : sn_LV 0 156 4 md_P_holds 1 := ⟨_, rfl, Or.inr ⟨⟨"SureNoes$Book", "holds", "(I)Z"⟩, "SureNoes$Book", tw_447, tw_449, tw_450, tw_451, by decide +kernel, Or.inr (Or.inr tn_448)⟩⟩
theorem lv_0_156_5 : sn_LV 0 156 5 md_P_holds 1 := ⟨_, rfl, Or.inr ⟨⟨"SureNoes$Book", "holds", "(I)Z"⟩, "SureNoes$Book", tw_447, tw_449, tw_490, tw_451, by decide +kernel, Or.inr (Or.inr tn_448)⟩⟩
theorem lv_0_156_6 : sn_LV 0 156 6 md_U_holds 1 := ⟨_, rfl, Or.inr ⟨⟨"SureNoes$Book", "holds", "(I)Z"⟩, "SureNoes$Book", tw_447, tw_449, tw_492, tw_493, by decide +kernel, Or.inr (Or.inr tn_448)⟩⟩
theorem lv_0_156_7 : sn_LV 0 156 7 md_F_holds 1 := ⟨_, rfl, Or.inr ⟨⟨"SureNoes$Book", "holds", "(I)Z"⟩, "SureNoes$Book", tw_447, tw_449, tw_463, tw_464, by decide +kernel, Or.inr (Or.inr tn_448)⟩⟩
theorem lv_0_156_8 : sn_LV 0 156 8 md_L_holds 1 := ⟨_, rfl, Or.inr ⟨⟨"SureNoes$Book", "holds", "(I)Z"⟩, "SureNoes$Book", tw_447, tw_449, tw_480, tw_481, by decide +kernel, Or.inr (Or.inr tn_448)⟩⟩
theorem lv_0_159_3 : sn_LV 0 159 3 md_P_insert 1 := ⟨_, rfl, Or.inr ⟨⟨"SureNoes$Book", "insert", "(I)Z"⟩, "SureNoes$Book", tw_495, tw_497, tw_512, tw_507, by decide +kernel, Or.inr (Or.inr tn_496)⟩⟩
theorem lv_0_159_4 : sn_LV 0 159 4 md_C_insert 1 := ⟨_, rfl, Or.inr ⟨⟨"SureNoes$Book", "insert", "(I)Z"⟩, "SureNoes$Book", tw_495, tw_497, tw_498, tw_499, by decide +kernel, Or.inr (Or.inr tn_496)⟩⟩
theorem lv_0_159_5 : sn_LV 0 159 5 md_P_insert 1 := ⟨_, rfl, Or.inr ⟨⟨"SureNoes$Book", "insert", "(I)Z"⟩, "SureNoes$Book", tw_495, tw_497, tw_511, tw_507, by decide +kernel, Or.inr (Or.inr tn_496)⟩⟩
theorem lv_0_159_6 : sn_LV 0 159 6 md_U_insert 1 := ⟨_, rfl, Or.inr ⟨⟨"SureNoes$Book", "insert", "(I)Z"⟩, "SureNoes$Book", tw_495, tw_497, tw_513, tw_514, by decide +kernel, Or.inr (Or.inr tn_496)⟩⟩
theorem lv_0_159_7 : sn_LV 0 159 7 md_P_insert 1 := ⟨_, rfl, Or.inr ⟨⟨"SureNoes$Book", "insert", "(I)Z"⟩, "SureNoes$Book", tw_495, tw_497, tw_506, tw_507, by decide +kernel, Or.inr (Or.inr tn_496)⟩⟩
theorem lv_0_159_8 : sn_LV 0 159 8 md_P_insert 1 := ⟨_, rfl, Or.inr ⟨⟨"SureNoes$Book", "insert", "(I)Z"⟩, "SureNoes$Book", tw_495, tw_497, tw_510, tw_507, by decide +kernel, Or.inr (Or.inr tn_496)⟩⟩
theorem lv_3_23_3 : sn_LV 3 23 3 md_P_placeBits 1 := ⟨_, rfl, Or.inl ⟨tw_453, tw_388, tw_1121⟩⟩
theorem lv_3_23_4 : sn_LV 3 23 4 md_P_placeBits 1 := ⟨_, rfl, Or.inl ⟨tw_453, tw_388, tw_1117⟩⟩
theorem lv_3_23_5 : sn_LV 3 23 5 md_A_placeBits 1 := ⟨_, rfl, Or.inr ⟨⟨"SureNoes$Plain", "placeBits", "(I)J"⟩, "SureNoes$Plain", tw_453, tw_1116, tw_1120, tw_395, by decide +kernel, Or.inr (Or.inl ⟨tw_388, _, _, _, tw_389⟩)⟩⟩
theorem lv_3_23_7 : sn_LV 3 23 7 md_A_placeBits 1 := ⟨_, rfl, Or.inr ⟨⟨"SureNoes$Plain", "placeBits", "(I)J"⟩, "SureNoes$Plain", tw_453, tw_1116, tw_1118, tw_395, by decide +kernel, Or.inr (Or.inl ⟨tw_388, _, _, _, tw_389⟩)⟩⟩
theorem lv_3_23_8 : sn_LV 3 23 8 md_P_placeBits 1 := ⟨_, rfl, Or.inl ⟨tw_453, tw_388, tw_1119⟩⟩
theorem lv_3_27_3 : sn_LV 3 27 3 md_B_filledPlaces 0 := ⟨_, rfl, Or.inr ⟨⟨"SureNoes$Plain", "filledPlaces", "()J"⟩, "SureNoes$Book", tw_454, tw_455, tw_461, tw_322, by decide +kernel, Or.inl rfl⟩⟩
theorem lv_3_27_4 : sn_LV 3 27 4 md_B_filledPlaces 0 := ⟨_, rfl, Or.inr ⟨⟨"SureNoes$Plain", "filledPlaces", "()J"⟩, "SureNoes$Book", tw_454, tw_455, tw_457, tw_322, by decide +kernel, Or.inl rfl⟩⟩
theorem lv_3_27_5 : sn_LV 3 27 5 md_B_filledPlaces 0 := ⟨_, rfl, Or.inr ⟨⟨"SureNoes$Plain", "filledPlaces", "()J"⟩, "SureNoes$Book", tw_454, tw_455, tw_460, tw_322, by decide +kernel, Or.inl rfl⟩⟩
theorem lv_3_27_7 : sn_LV 3 27 7 md_B_filledPlaces 0 := ⟨_, rfl, Or.inr ⟨⟨"SureNoes$Plain", "filledPlaces", "()J"⟩, "SureNoes$Book", tw_454, tw_455, tw_458, tw_322, by decide +kernel, Or.inl rfl⟩⟩
theorem lv_3_27_8 : sn_LV 3 27 8 md_B_filledPlaces 0 := ⟨_, rfl, Or.inr ⟨⟨"SureNoes$Plain", "filledPlaces", "()J"⟩, "SureNoes$Book", tw_454, tw_455, tw_459, tw_322, by decide +kernel, Or.inl rfl⟩⟩
theorem lv_7_43_7 : sn_LV 7 43 7 md_A_placeBits 1 := ⟨_, rfl, Or.inr ⟨⟨"SureNoes$Folded", "placeBits", "(I)J"⟩, "SureNoes$Parted", tw_466, tw_467, tw_469, tw_395, by decide +kernel, Or.inl rfl⟩⟩
theorem lv_7_47_7 : sn_LV 7 47 7 md_F_together 1 := ⟨_, rfl, Or.inl ⟨tw_470, tw_472, tp_8⟩⟩
theorem lv_7_51_7 : sn_LV 7 51 7 md_F_markOf 1 := ⟨_, rfl, Or.inl ⟨tw_475, tw_477, tp_9⟩⟩
theorem lf_7_32_7 : sn_LF 7 32 7 1 := ⟨_, "SureNoes$Folded", ck_7, by decide, tw_164, Or.inr tw_165⟩
theorem ls_7_36 : sn_LS 7 36 md_X_has := ⟨Or.inr ⟨_, tn_474⟩, tw_93⟩
theorem lf_7_40_7 : sn_LF 7 40 7 4 := ⟨_, "SureNoes$Folded", ck_7, by decide, tw_184, Or.inr tw_185⟩
theorem lf_7_22_7 : sn_LF 7 22 7 3 := ⟨_, "SureNoes$Folded", ck_7, by decide, tw_174, Or.inr tw_175⟩
theorem lv_7_26_2 : sn_LV 7 26 2 md_W_markFor 1 := ⟨_, rfl, Or.inl ⟨tw_479, tw_418, tw_419⟩⟩
theorem lv_8_38_8 : sn_LV 8 38 8 md_L_placeInRow 2 := ⟨_, rfl, Or.inl ⟨tw_483, tw_485, tp_10⟩⟩
theorem ls_8_41 : sn_LS 8 41 md_X_has := ⟨Or.inr ⟨_, tn_489⟩, tw_93⟩
theorem lf_8_22_8 : sn_LF 8 22 8 3 := ⟨_, "SureNoes$Layered", ck_8, by decide, tw_176, Or.inr tw_177⟩
theorem ls_8_26 : sn_LS 8 26 md_X_rest := ⟨Or.inr ⟨_, tn_487⟩, tw_105⟩
theorem lf_8_30_8 : sn_LF 8 30 8 1 := ⟨_, "SureNoes$Layered", ck_8, by decide, tw_162, Or.inr tw_163⟩
theorem lv_8_33_2 : sn_LV 8 33 2 md_W_placeFor 2 := ⟨_, rfl, Or.inl ⟨tw_488, tw_391, tw_392⟩⟩
theorem lf_6_54_6 : sn_LF 6 54 6 4 := ⟨_, "SureNoes$Pushed", ck_6, by decide, tw_188, Or.inr tw_189⟩
theorem lv_4_9_4 : sn_LV 4 9 4 md_P_placeBits 1 := ⟨_, rfl, Or.inr ⟨⟨"SureNoes$Counted", "placeBits", "(I)J"⟩, "SureNoes$Plain", tw_501, tw_502, tw_504, tw_388, by decide +kernel, Or.inl rfl⟩⟩
theorem lf_4_15_4 : sn_LF 4 15 4 1 := ⟨_, "SureNoes$Counted", ck_4, by decide, tw_156, Or.inr tw_157⟩
theorem ls_4_19 : sn_LS 4 19 md_X_has := ⟨Or.inr ⟨_, tn_505⟩, tw_93⟩
theorem lf_4_23_4 : sn_LF 4 23 4 4 := ⟨_, "SureNoes$Counted", ck_4, by decide, tw_182, Or.inr tw_183⟩
theorem ls_3_33 : sn_LS 3 33 md_X_has := ⟨Or.inr ⟨_, tn_509⟩, tw_93⟩
theorem lf_3_39_3 : sn_LF 3 39 3 4 := ⟨_, "SureNoes$Plain", ck_3, by decide, tw_186, Or.inr tw_187⟩
theorem lf_3_39_4 : sn_LF 3 39 4 4 := ⟨_, "SureNoes$Plain", ck_4, by decide, tw_186, Or.inr tw_187⟩
theorem lf_3_39_5 : sn_LF 3 39 5 4 := ⟨_, "SureNoes$Plain", ck_5, by decide, tw_186, Or.inr tw_187⟩
theorem lf_3_39_7 : sn_LF 3 39 7 4 := ⟨_, "SureNoes$Plain", ck_7, by decide, tw_186, Or.inr tw_187⟩
theorem lf_3_39_8 : sn_LF 3 39 8 4 := ⟨_, "SureNoes$Plain", ck_8, by decide, tw_186, Or.inr tw_187⟩
theorem la_6_57 : sn_LA 6 57 := ⟨tw_516, tw_518, tw_517, tw_14⟩
theorem lv_6_63_6 : sn_LV 6 63 6 md_U_pushInto 2 := ⟨_, rfl, Or.inl ⟨tw_519, tw_521, tp_11⟩⟩
theorem lv_0_162_3 : sn_LV 0 162 3 md_B_letsTake 0 := ⟨_, rfl, Or.inl ⟨tw_527, tw_528, tw_536⟩⟩
theorem lv_0_162_4 : sn_LV 0 162 4 md_C_letsTake 0 := ⟨_, rfl, Or.inr ⟨⟨"SureNoes$Book", "letsTake", "()Z"⟩, "SureNoes$Book", tw_527, tw_529, tw_530, tw_531, by decide +kernel, Or.inr (Or.inl ⟨tw_528, _, _, _, tw_540⟩)⟩⟩
theorem lv_0_162_5 : sn_LV 0 162 5 md_B_letsTake 0 := ⟨_, rfl, Or.inl ⟨tw_527, tw_528, tw_535⟩⟩
theorem lv_0_162_6 : sn_LV 0 162 6 md_U_letsTake 0 := ⟨_, rfl, Or.inr ⟨⟨"SureNoes$Book", "letsTake", "()Z"⟩, "SureNoes$Book", tw_527, tw_529, tw_537, tw_538, by decide +kernel, Or.inr (Or.inl ⟨tw_528, _, _, _, tw_540⟩)⟩⟩
theorem lv_0_162_7 : sn_LV 0 162 7 md_B_letsTake 0 := ⟨_, rfl, Or.inl ⟨tw_527, tw_528, tw_533⟩⟩
theorem lv_0_162_8 : sn_LV 0 162 8 md_B_letsTake 0 := ⟨_, rfl, Or.inl ⟨tw_527, tw_528, tw_534⟩⟩
theorem lv_0_165_3 : sn_LV 0 165 3 md_B_remove 1 := ⟨_, rfl, Or.inl ⟨tw_541, tw_542, tw_550⟩⟩
theorem lv_0_165_4 : sn_LV 0 165 4 md_C_remove 1 := ⟨_, rfl, Or.inr ⟨⟨"SureNoes$Book", "remove", "(I)V"⟩, "SureNoes$Book", tw_541, tw_543, tw_544, tw_545, by decide +kernel, Or.inr (Or.inl ⟨tw_542, _, _, _, tw_554⟩)⟩⟩
theorem lv_0_165_5 : sn_LV 0 165 5 md_B_remove 1 := ⟨_, rfl, Or.inl ⟨tw_541, tw_542, tw_549⟩⟩
theorem lv_0_165_6 : sn_LV 0 165 6 md_U_remove 1 := ⟨_, rfl, Or.inr ⟨⟨"SureNoes$Book", "remove", "(I)V"⟩, "SureNoes$Book", tw_541, tw_543, tw_551, tw_552, by decide +kernel, Or.inr (Or.inl ⟨tw_542, _, _, _, tw_554⟩)⟩⟩
theorem lv_0_165_7 : sn_LV 0 165 7 md_B_remove 1 := ⟨_, rfl, Or.inl ⟨tw_541, tw_542, tw_547⟩⟩
theorem lv_0_165_8 : sn_LV 0 165 8 md_B_remove 1 := ⟨_, rfl, Or.inl ⟨tw_541, tw_542, tw_548⟩⟩
theorem lv_0_169_3 : sn_LV 0 169 3 md_B_rebuild 2 := ⟨_, rfl, Or.inl ⟨tw_559, tw_560, tw_600⟩⟩
theorem lv_0_169_4 : sn_LV 0 169 4 md_B_rebuild 2 := ⟨_, rfl, Or.inl ⟨tw_559, tw_560, tw_562⟩⟩
theorem lv_0_169_5 : sn_LV 0 169 5 md_B_rebuild 2 := ⟨_, rfl, Or.inl ⟨tw_559, tw_560, tw_599⟩⟩
theorem lv_0_169_6 : sn_LV 0 169 6 md_B_rebuild 2 := ⟨_, rfl, Or.inl ⟨tw_559, tw_560, tw_601⟩⟩
theorem lv_0_169_7 : sn_LV 0 169 7 md_F_rebuild 2 := ⟨_, rfl, Or.inr ⟨⟨"SureNoes$Book", "rebuild", "(JJ)Z"⟩, "SureNoes$Book", tw_559, tw_561, tw_563, tw_564, by decide +kernel, Or.inr (Or.inl ⟨tw_560, _, _, _, tw_602⟩)⟩⟩
theorem lv_0_169_8 : sn_LV 0 169 8 md_L_rebuild 2 := ⟨_, rfl, Or.inr ⟨⟨"SureNoes$Book", "rebuild", "(JJ)Z"⟩, "SureNoes$Book", tw_559, tw_561, tw_587, tw_588, by decide +kernel, Or.inr (Or.inl ⟨tw_560, _, _, _, tw_602⟩)⟩⟩
theorem lv_7_54_7 : sn_LV 7 54 7 md_F_peel 1 := ⟨_, rfl, Or.inl ⟨tw_566, tw_568, tp_12⟩⟩
theorem ls_7_58 : sn_LS 7 58 md_JL_bitCount := ⟨Or.inl tw_586, tw_332⟩
theorem lv_7_63_7 : sn_LV 7 63 7 md_F_placesOfOneKey 1 := ⟨_, rfl, Or.inl ⟨tw_570, tw_572, tp_13⟩⟩
theorem ls_7_67 : sn_LS 7 67 md_JL_numberOfTrailingZeros := ⟨Or.inl tw_575, tw_576⟩
theorem lv_7_70_7 : sn_LV 7 70 7 md_F_keyAt 2 := ⟨_, rfl, Or.inl ⟨tw_582, tw_584, tp_14⟩⟩
theorem ls_13_311 : sn_LS 13 311 md_JI_numberOfTrailingZeros := ⟨Or.inl tw_578, tw_579⟩
theorem lv_8_45_8 : sn_LV 8 45 8 md_L_placesInRow 2 := ⟨_, rfl, Or.inl ⟨tw_590, tw_592, tp_15⟩⟩
theorem lv_8_49_8 : sn_LV 8 49 8 md_L_thoseInRow 2 := ⟨_, rfl, Or.inl ⟨tw_594, tw_596, tp_16⟩⟩
theorem la_8_52 : sn_LA 8 52 := ⟨tw_598, tw_518, tw_517, tw_14⟩
theorem lp_L_rebuild_18_8 : sn_LP 8 18 8 8 md_L_rebuild := ⟨lf_8_18_8, fun q hq => by cases hq; exact Or.inl rfl⟩
theorem lv_0_173_3 : sn_LV 0 173 3 md_B_keysHeld 0 := ⟨_, rfl, Or.inl ⟨tw_611, tw_612, tw_618⟩⟩
theorem lv_0_173_4 : sn_LV 0 173 4 md_B_keysHeld 0 := ⟨_, rfl, Or.inl ⟨tw_611, tw_612, tw_614⟩⟩
theorem lv_0_173_5 : sn_LV 0 173 5 md_B_keysHeld 0 := ⟨_, rfl, Or.inl ⟨tw_611, tw_612, tw_617⟩⟩
theorem lv_0_173_6 : sn_LV 0 173 6 md_B_keysHeld 0 := ⟨_, rfl, Or.inl ⟨tw_611, tw_612, tw_619⟩⟩
theorem lv_0_173_7 : sn_LV 0 173 7 md_B_keysHeld 0 := ⟨_, rfl, Or.inl ⟨tw_611, tw_612, tw_615⟩⟩
theorem lv_0_173_8 : sn_LV 0 173 8 md_B_keysHeld 0 := ⟨_, rfl, Or.inl ⟨tw_611, tw_612, tw_616⟩⟩
theorem lv_10_32_3 : sn_LV 10 32 3 md_P_holds 1 := ⟨_, rfl, Or.inr ⟨⟨"SureNoes$Book", "holds", "(I)Z"⟩, "SureNoes$Book", tw_621, tw_449, tw_491, tw_451, by decide +kernel, Or.inr (Or.inr tn_448)⟩⟩
theorem lv_10_32_4 : sn_LV 10 32 4 md_P_holds 1 := ⟨_, rfl, Or.inr ⟨⟨"SureNoes$Book", "holds", "(I)Z"⟩, "SureNoes$Book", tw_621, tw_449, tw_450, tw_451, by decide +kernel, Or.inr (Or.inr tn_448)⟩⟩
theorem lv_10_32_5 : sn_LV 10 32 5 md_P_holds 1 := ⟨_, rfl, Or.inr ⟨⟨"SureNoes$Book", "holds", "(I)Z"⟩, "SureNoes$Book", tw_621, tw_449, tw_490, tw_451, by decide +kernel, Or.inr (Or.inr tn_448)⟩⟩
theorem lv_10_32_6 : sn_LV 10 32 6 md_U_holds 1 := ⟨_, rfl, Or.inr ⟨⟨"SureNoes$Book", "holds", "(I)Z"⟩, "SureNoes$Book", tw_621, tw_449, tw_492, tw_493, by decide +kernel, Or.inr (Or.inr tn_448)⟩⟩
theorem lv_10_32_7 : sn_LV 10 32 7 md_F_holds 1 := ⟨_, rfl, Or.inr ⟨⟨"SureNoes$Book", "holds", "(I)Z"⟩, "SureNoes$Book", tw_621, tw_449, tw_463, tw_464, by decide +kernel, Or.inr (Or.inr tn_448)⟩⟩
theorem lv_10_32_8 : sn_LV 10 32 8 md_L_holds 1 := ⟨_, rfl, Or.inr ⟨⟨"SureNoes$Book", "holds", "(I)Z"⟩, "SureNoes$Book", tw_621, tw_449, tw_480, tw_481, by decide +kernel, Or.inr (Or.inr tn_448)⟩⟩
theorem ls_0_180 : sn_LS 0 180 md_X_isPlainOrParted := ⟨Or.inl tw_628, tw_629⟩
theorem lf_0_184_3 : sn_LF 0 184 3 3 := ⟨_, "SureNoes$Book", ck_3, by decide, tw_180, Or.inl rfl⟩
theorem lf_0_184_4 : sn_LF 0 184 4 3 := ⟨_, "SureNoes$Book", ck_4, by decide, tw_180, Or.inl rfl⟩
theorem lf_0_184_5 : sn_LF 0 184 5 3 := ⟨_, "SureNoes$Book", ck_5, by decide, tw_180, Or.inl rfl⟩
theorem lf_0_184_6 : sn_LF 0 184 6 3 := ⟨_, "SureNoes$Book", ck_6, by decide, tw_180, Or.inl rfl⟩
theorem lf_0_184_7 : sn_LF 0 184 7 3 := ⟨_, "SureNoes$Book", ck_7, by decide, tw_180, Or.inl rfl⟩
theorem lf_0_184_8 : sn_LF 0 184 8 3 := ⟨_, "SureNoes$Book", ck_8, by decide, tw_180, Or.inl rfl⟩
theorem ls_0_187 : sn_LS 0 187 md_X_either := ⟨Or.inl tw_631, tw_632⟩
theorem lm_0_277 : Cond.methodLink (sn_rn 0) 277 ⟨"java/lang/Math", "min", "(II)I"⟩ ∈ sn_gw := tw_634
theorem lm_0_191 : Cond.methodLink (sn_rn 0) 191 ⟨"java/lang/Math", "max", "(II)I"⟩ ∈ sn_gw := tw_637
theorem la_0_196 : sn_LA 0 196 := ⟨tw_642, tw_518, tw_517, tw_14⟩
theorem lv_0_204_0 : sn_LV 0 204 0 md_X_noteSpots 1 := ⟨_, rfl, Or.inl ⟨tw_648, tw_650, tp_17⟩⟩
theorem ls_0_208 : sn_LS 0 208 md_X_leastFilling := ⟨Or.inl tw_652, tw_653⟩
theorem lv_0_212_0 : sn_LV 0 212 0 md_X_sureMakers 1 := ⟨_, rfl, Or.inl ⟨tw_659, tw_661, tp_18⟩⟩
theorem lv_0_216_0 : sn_LV 0 216 0 md_X_makers 1 := ⟨_, rfl, Or.inl ⟨tw_663, tw_665, tp_19⟩⟩
theorem lc_0_221 : sn_LC 0 221 9 [.null] := ⟨_, ck_9, rfl, tw_668, tw_669, tw_15, fun _ j hj => match j, hj with
  | 0, _ => rfl
  | j + 1, hj => absurd hj (Nat.not_lt.mpr (Nat.le_add_left _ _))⟩
theorem li_0_223 : sn_LI 0 223 md_V_init := ⟨Or.inr ⟨_, tn_670⟩, rfl, tw_671, rfl⟩
theorem lp_X_made_32_0 : sn_LP 0 32 0 5 md_X_made := ⟨lf_0_32_0, fun q hq => by cases hq; exact Or.inl rfl⟩
theorem lv_0_224_9 : sn_LV 0 224 9 md_V_leastSet 2 := ⟨_, rfl, Or.inl ⟨tw_678, tw_679, tw_680⟩⟩
theorem lo_9_5 : Cond.methodLink (sn_rn 9) 5 Lib.objectInit ∈ sn_gw := tw_673
theorem lf_9_11_9 : sn_LF 9 11 9 0 := ⟨_, "SureNoes$Cover", ck_9, by decide, tw_674, Or.inl rfl⟩
theorem lp_V_init_11_9 : sn_LP 9 11 9 0 md_V_init := ⟨lf_9_11_9, fun q hq => by cases hq; exact Or.inr ⟨rfl, rfl, rfl⟩⟩
theorem ls_9_15 : sn_LS 9 15 md_JL_bitCount := ⟨Or.inl tw_682, tw_332⟩
theorem ls_9_25 : sn_LS 9 25 md_V_squeeze := ⟨Or.inl tw_685, tw_686⟩
theorem lv_9_29_9 : sn_LV 9 29 9 md_V_letKeyHelp 3 := ⟨_, rfl, Or.inl ⟨tw_689, tw_691, tp_20⟩⟩
theorem ls_9_41 : sn_LS 9 41 md_X_has := ⟨Or.inr ⟨_, tn_688⟩, tw_93⟩
theorem lm_9_35 : Cond.methodLink (sn_rn 9) 35 ⟨"java/lang/Math", "min", "(JJ)J"⟩ ∈ sn_gw := tw_694
theorem lv_0_236_6 : sn_LV 0 236 6 md_U_orderedKey 2 := ⟨_, rfl, Or.inl ⟨tw_703, tw_704, tw_705⟩⟩
theorem ls_6_67 : sn_LS 6 67 md_X_has := ⟨Or.inr ⟨_, tn_707⟩, tw_93⟩
theorem lv_6_71_6 : sn_LV 6 71 6 md_U_allFindPlaces 1 := ⟨_, rfl, Or.inl ⟨tw_708, tw_710, tp_21⟩⟩
theorem lv_6_75_6 : sn_LV 6 75 6 md_U_nextLine 1 := ⟨_, rfl, Or.inl ⟨tw_712, tw_714, tp_22⟩⟩
theorem lv_6_78_6 : sn_LV 6 78 6 md_U_swapInLine 2 := ⟨_, rfl, Or.inl ⟨tw_716, tw_718, tp_23⟩⟩
theorem lv_0_240_6 : sn_LV 0 240 6 md_U_mostAtOnce 1 := ⟨_, rfl, Or.inl ⟨tw_724, tw_725, tw_726⟩⟩
theorem lv_6_82_6 : sn_LV 6 82 6 md_U_tieGroups 1 := ⟨_, rfl, Or.inl ⟨tw_728, tw_730, tp_24⟩⟩
theorem lm_6_86 : Cond.methodLink (sn_rn 6) 86 ⟨"java/lang/Math", "min", "(II)I"⟩ ∈ sn_gw := tw_736
theorem lv_6_91_6 : sn_LV 6 91 6 md_U_renameGroup 2 := ⟨_, rfl, Or.inl ⟨tw_732, tw_734, tp_25⟩⟩
theorem lv_0_243_0 : sn_LV 0 243 0 md_X_keysReallySomewhere 0 := ⟨_, rfl, Or.inl ⟨tw_741, tw_743, tp_26⟩⟩
theorem lv_0_246_0 : sn_LV 0 246 0 md_X_keysHeldEverywhere 0 := ⟨_, rfl, Or.inl ⟨tw_745, tw_747, tp_27⟩⟩
theorem lv_0_253_0 : sn_LV 0 253 0 md_X_value 2 := ⟨_, rfl, Or.inl ⟨tw_755, tw_67, tw_68⟩⟩
theorem lv_0_256_0 : sn_LV 0 256 0 md_X_digestOfBook 2 := ⟨_, rfl, Or.inl ⟨tw_756, tw_758, tp_28⟩⟩
theorem lv_0_260_0 : sn_LV 0 260 0 md_X_count 1 := ⟨_, rfl, Or.inl ⟨tw_764, tw_738, tw_739⟩⟩
theorem lv_0_293_0 : sn_LV 0 293 0 md_X_about 2 := ⟨_, rfl, Or.inl ⟨tw_760, tw_318, tw_319⟩⟩
theorem lv_0_296_0 : sn_LV 0 296 0 md_X_at 2 := ⟨_, rfl, Or.inl ⟨tw_761, tw_360, tw_361⟩⟩
theorem lv_0_299_0 : sn_LV 0 299 0 md_X_row 2 := ⟨_, rfl, Or.inl ⟨tw_762, tw_364, tw_365⟩⟩
theorem lv_0_303_0 : sn_LV 0 303 0 md_X_keys 2 := ⟨_, rfl, Or.inl ⟨tw_763, tw_608, tw_609⟩⟩
theorem lo_1_1 : Cond.methodLink (sn_rn 1) 1 Lib.objectInit ∈ sn_gw := tw_770
theorem lf_1_7_1 : sn_LF 1 7 1 1 := ⟨_, "SureNoesModel", ck_1, by decide, tw_772, Or.inl rfl⟩
theorem lp_M_init_7_1 : sn_LP 1 7 1 1 md_M_init := ⟨lf_1_7_1, fun q hq => by cases hq; exact Or.inr ⟨rfl, rfl, rfl⟩⟩
theorem lf_1_13_1 : sn_LF 1 13 1 2 := ⟨_, "SureNoesModel", ck_1, by decide, tw_773, Or.inl rfl⟩
theorem lp_M_init_13_1 : sn_LP 1 13 1 2 md_M_init := ⟨lf_1_13_1, fun q hq => by cases hq; exact Or.inr ⟨rfl, rfl, rfl⟩⟩
theorem lf_1_16_1 : sn_LF 1 16 1 4 := ⟨_, "SureNoesModel", ck_1, by decide, tw_775, Or.inl rfl⟩
theorem lp_M_init_16_1 : sn_LP 1 16 1 4 md_M_init := ⟨lf_1_16_1, fun q hq => by cases hq; exact Or.inr ⟨rfl, rfl, rfl⟩⟩
theorem lf_1_19_1 : sn_LF 1 19 1 5 := ⟨_, "SureNoesModel", ck_1, by decide, tw_776, Or.inl rfl⟩
theorem lp_M_init_19_1 : sn_LP 1 19 1 5 md_M_init := ⟨lf_1_19_1, fun q hq => by cases hq; exact Or.inr ⟨rfl, rfl, rfl⟩⟩
theorem lf_1_22_1 : sn_LF 1 22 1 6 := ⟨_, "SureNoesModel", ck_1, by decide, tw_777, Or.inl rfl⟩
theorem lp_M_init_22_1 : sn_LP 1 22 1 6 md_M_init := ⟨lf_1_22_1, fun q hq => by cases hq; exact Or.inr ⟨rfl, rfl, rfl⟩⟩
theorem lf_1_25_1 : sn_LF 1 25 1 7 := ⟨_, "SureNoesModel", ck_1, by decide, tw_778, Or.inl rfl⟩
theorem lp_M_init_25_1 : sn_LP 1 25 1 7 md_M_init := ⟨lf_1_25_1, fun q hq => by cases hq; exact Or.inr ⟨rfl, rfl, rfl⟩⟩
theorem lf_1_28_1 : sn_LF 1 28 1 8 := ⟨_, "SureNoesModel", ck_1, by decide, tw_779, Or.inl rfl⟩
theorem lp_M_init_28_1 : sn_LP 1 28 1 8 md_M_init := ⟨lf_1_28_1, fun q hq => by cases hq; exact Or.inr ⟨rfl, rfl, rfl⟩⟩
theorem lf_1_31_1 : sn_LF 1 31 1 9 := ⟨_, "SureNoesModel", ck_1, by decide, tw_780, Or.inl rfl⟩
theorem lp_M_init_31_1 : sn_LP 1 31 1 9 md_M_init := ⟨lf_1_31_1, fun q hq => by cases hq; exact Or.inr ⟨rfl, rfl, rfl⟩⟩
theorem lf_1_34_1 : sn_LF 1 34 1 10 := ⟨_, "SureNoesModel", ck_1, by decide, tw_781, Or.inl rfl⟩
theorem lp_M_init_34_1 : sn_LP 1 34 1 10 md_M_init := ⟨lf_1_34_1, fun q hq => by cases hq; exact Or.inr ⟨rfl, rfl, rfl⟩⟩
theorem lf_1_38_1 : sn_LF 1 38 1 11 := ⟨_, "SureNoesModel", ck_1, by decide, tw_782, Or.inl rfl⟩
theorem lp_M_init_38_1 : sn_LP 1 38 1 11 md_M_init := ⟨lf_1_38_1, fun q hq => by cases hq; exact Or.inr ⟨rfl, rfl, rfl⟩⟩
theorem lf_1_41_1 : sn_LF 1 41 1 13 := ⟨_, "SureNoesModel", ck_1, by decide, tw_784, Or.inl rfl⟩
theorem lp_M_init_41_1 : sn_LP 1 41 1 13 md_M_init := ⟨lf_1_41_1, fun q hq => by cases hq; exact Or.inr ⟨rfl, rfl, rfl⟩⟩
theorem lf_1_44_1 : sn_LF 1 44 1 14 := ⟨_, "SureNoesModel", ck_1, by decide, tw_785, Or.inl rfl⟩
theorem lp_M_init_44_1 : sn_LP 1 44 1 14 md_M_init := ⟨lf_1_44_1, fun q hq => by cases hq; exact Or.inr ⟨rfl, rfl, rfl⟩⟩
theorem lf_1_47_1 : sn_LF 1 47 1 15 := ⟨_, "SureNoesModel", ck_1, by decide, tw_786, Or.inl rfl⟩
theorem lp_M_init_47_1 : sn_LP 1 47 1 15 md_M_init := ⟨lf_1_47_1, fun q hq => by cases hq; exact Or.inr ⟨rfl, rfl, rfl⟩⟩
theorem lf_1_50_1 : sn_LF 1 50 1 16 := ⟨_, "SureNoesModel", ck_1, by decide, tw_787, Or.inl rfl⟩
theorem lp_M_init_50_1 : sn_LP 1 50 1 16 md_M_init := ⟨lf_1_50_1, fun q hq => by cases hq; exact Or.inr ⟨rfl, rfl, rfl⟩⟩
theorem lf_1_53_1 : sn_LF 1 53 1 17 := ⟨_, "SureNoesModel", ck_1, by decide, tw_788, Or.inl rfl⟩
theorem lp_M_init_53_1 : sn_LP 1 53 1 17 md_M_init := ⟨lf_1_53_1, fun q hq => by cases hq; exact Or.inr ⟨rfl, rfl, rfl⟩⟩
theorem lf_1_57_1 : sn_LF 1 57 1 18 := ⟨_, "SureNoesModel", ck_1, by decide, tw_789, Or.inl rfl⟩
theorem lp_M_init_57_1 : sn_LP 1 57 1 18 md_M_init := ⟨lf_1_57_1, fun q hq => by cases hq; exact Or.inr ⟨rfl, rfl, rfl⟩⟩
theorem lf_1_60_1 : sn_LF 1 60 1 19 := ⟨_, "SureNoesModel", ck_1, by decide, tw_790, Or.inl rfl⟩
theorem lp_M_init_60_1 : sn_LP 1 60 1 19 md_M_init := ⟨lf_1_60_1, fun q hq => by cases hq; exact Or.inr ⟨rfl, rfl, rfl⟩⟩
theorem lf_1_63_1 : sn_LF 1 63 1 20 := ⟨_, "SureNoesModel", ck_1, by decide, tw_791, Or.inl rfl⟩
theorem lp_M_init_63_1 : sn_LP 1 63 1 20 md_M_init := ⟨lf_1_63_1, fun q hq => by cases hq; exact Or.inr ⟨rfl, rfl, rfl⟩⟩
theorem lf_1_66_1 : sn_LF 1 66 1 21 := ⟨_, "SureNoesModel", ck_1, by decide, tw_792, Or.inl rfl⟩
theorem lp_M_init_66_1 : sn_LP 1 66 1 21 md_M_init := ⟨lf_1_66_1, fun q hq => by cases hq; exact Or.inr ⟨rfl, rfl, rfl⟩⟩
theorem lf_1_69_1 : sn_LF 1 69 1 22 := ⟨_, "SureNoesModel", ck_1, by decide, tw_793, Or.inl rfl⟩
theorem lp_M_init_69_1 : sn_LP 1 69 1 22 md_M_init := ⟨lf_1_69_1, fun q hq => by cases hq; exact Or.inr ⟨rfl, rfl, rfl⟩⟩
theorem lf_1_72_1 : sn_LF 1 72 1 23 := ⟨_, "SureNoesModel", ck_1, by decide, tw_794, Or.inl rfl⟩
theorem lp_M_init_72_1 : sn_LP 1 72 1 23 md_M_init := ⟨lf_1_72_1, fun q hq => by cases hq; exact Or.inr ⟨rfl, rfl, rfl⟩⟩
theorem ls_1_77 : sn_LS 1 77 md_M_within := ⟨Or.inl tw_853, tw_854⟩
theorem lf_1_83_1 : sn_LF 1 83 1 0 := ⟨_, "SureNoesModel", ck_1, by decide, tw_771, Or.inl rfl⟩
theorem lp_M_law_83_1 : sn_LP 1 83 1 0 md_M_law := ⟨lf_1_83_1, fun q hq => by cases hq; exact Or.inl rfl⟩
theorem lv_1_89_1 : sn_LV 1 89 1 md_M_isLaw 1 := ⟨_, rfl, Or.inl ⟨tw_860, tw_862, tp_29⟩⟩
theorem ls_1_93 : sn_LS 1 93 md_M_isKey := ⟨Or.inl tw_864, tw_865⟩
theorem lv_1_96_1 : sn_LV 1 96 1 md_M_valueOf 2 := ⟨_, rfl, Or.inl ⟨tw_868, tw_870, tp_30⟩⟩
theorem ls_1_108 : sn_LS 1 108 md_M_isSet := ⟨Or.inl tw_876, tw_877⟩
theorem ls_1_100 : sn_LS 1 100 md_M_has := ⟨Or.inl tw_882, tw_883⟩
theorem ls_1_104 : sn_LS 1 104 md_M_placesBy := ⟨Or.inl tw_885, tw_886⟩
theorem ls_1_116 : sn_LS 1 116 md_M_falseBy := ⟨Or.inl tw_892, tw_893⟩
theorem ls_1_127 : sn_LS 1 127 md_M_ones := ⟨Or.inl tw_905, tw_906⟩
theorem lf_1_120_1 : sn_LF 1 120 1 3 := ⟨_, "SureNoesModel", ck_1, by decide, tw_774, Or.inl rfl⟩
theorem lp_M_book_120_1 : sn_LP 1 120 1 3 md_M_book := ⟨lf_1_120_1, fun q hq => by cases hq; exact Or.inl rfl⟩
theorem lv_1_131_1 : sn_LV 1 131 1 md_M_isBook 1 := ⟨_, rfl, Or.inl ⟨tw_912, tw_914, tp_31⟩⟩
theorem lv_1_142_1 : sn_LV 1 142 1 md_M_aboutOf 2 := ⟨_, rfl, Or.inl ⟨tw_920, tw_922, tp_32⟩⟩
theorem lv_1_134_1 : sn_LV 1 134 1 md_M_numbersAbove 1 := ⟨_, rfl, Or.inl ⟨tw_924, tw_926, tp_33⟩⟩
theorem lv_1_138_1 : sn_LV 1 138 1 md_M_reallyIn 1 := ⟨_, rfl, Or.inl ⟨tw_928, tw_930, tp_34⟩⟩
theorem lv_1_166_1 : sn_LV 1 166 1 md_M_placesOf 2 := ⟨_, rfl, Or.inl ⟨tw_945, tw_947, tp_35⟩⟩
theorem lv_1_153_1 : sn_LV 1 153 1 md_M_firstPlace 2 := ⟨_, rfl, Or.inl ⟨tw_949, tw_951, tp_36⟩⟩
theorem lv_1_156_1 : sn_LV 1 156 1 md_M_pushedMark 2 := ⟨_, rfl, Or.inl ⟨tw_957, tw_959, tp_38⟩⟩
theorem lv_1_159_1 : sn_LV 1 159 1 md_M_otherPlace 3 := ⟨_, rfl, Or.inl ⟨tw_964, tw_966, tp_39⟩⟩
theorem lv_1_163_1 : sn_LV 1 163 1 md_M_placeBy 3 := ⟨_, rfl, Or.inl ⟨tw_968, tw_970, tp_40⟩⟩
theorem lv_1_147_1 : sn_LV 1 147 1 md_M_lawAt 2 := ⟨_, rfl, Or.inl ⟨tw_953, tw_955, tp_37⟩⟩
theorem ls_1_150 : sn_LS 1 150 md_M_markOf := ⟨Or.inl tw_961, tw_962⟩
theorem lv_1_181_1 : sn_LV 1 181 1 md_M_isIn 2 := ⟨_, rfl, Or.inl ⟨tw_976, tw_978, tp_41⟩⟩
theorem lv_1_185_1 : sn_LV 1 185 1 md_M_push 2 := ⟨_, rfl, Or.inl ⟨tw_993, tw_995, tp_45⟩⟩
theorem lv_1_170_1 : sn_LV 1 170 1 md_M_together 2 := ⟨_, rfl, Or.inl ⟨tw_980, tw_982, tp_42⟩⟩
theorem lv_1_173_1 : sn_LV 1 173 1 md_M_layerPlace 3 := ⟨_, rfl, Or.inl ⟨tw_984, tw_986, tp_43⟩⟩
theorem lv_1_176_1 : sn_LV 1 176 1 md_M_filled 1 := ⟨_, rfl, Or.inl ⟨tw_988, tw_990, tp_44⟩⟩
theorem lv_1_199_1 : sn_LV 1 199 1 md_M_fold 2 := ⟨_, rfl, Or.inl ⟨tw_1005, tw_1007, tp_46⟩⟩
theorem lv_1_203_1 : sn_LV 1 203 1 md_M_layer 3 := ⟨_, rfl, Or.inl ⟨tw_1013, tw_1015, tp_48⟩⟩
theorem lf_1_188_1 : sn_LF 1 188 1 12 := ⟨_, "SureNoesModel", ck_1, by decide, tw_783, Or.inl rfl⟩
theorem lp_M_fold_188_1 : sn_LP 1 188 1 12 md_M_fold := ⟨lf_1_188_1, fun q hq => by cases hq; exact Or.inl rfl⟩
theorem lv_1_191_1 : sn_LV 1 191 1 md_M_lonePlace 2 := ⟨_, rfl, Or.inl ⟨tw_1009, tw_1011, tp_47⟩⟩
theorem lv_1_195_1 : sn_LV 1 195 1 md_M_thoseIn 3 := ⟨_, rfl, Or.inl ⟨tw_1017, tw_1019, tp_49⟩⟩
theorem lv_1_210_1 : sn_LV 1 210 1 md_M_keysOf 2 := ⟨_, rfl, Or.inl ⟨tw_1029, tw_1031, tp_50⟩⟩
theorem lv_1_207_1 : sn_LV 1 207 1 md_M_allIn 1 := ⟨_, rfl, Or.inl ⟨tw_1033, tw_1035, tp_51⟩⟩
theorem ls_1_215 : sn_LS 1 215 md_M_chosen := ⟨Or.inl tw_1042, tw_1043⟩
theorem lp_M_join_120_1 : sn_LP 1 120 1 3 md_M_join := ⟨lf_1_120_1, fun q hq => by cases hq; exact Or.inl rfl⟩
theorem lp_M_halve_120_1 : sn_LP 1 120 1 3 md_M_halve := ⟨lf_1_120_1, fun q hq => by cases hq; exact Or.inl rfl⟩
theorem lv_1_221_1 : sn_LV 1 221 1 md_M_layPlaces 1 := ⟨_, rfl, Or.inl ⟨tw_1054, tw_1056, tp_52⟩⟩
theorem lv_1_225_1 : sn_LV 1 225 1 md_M_spoilBy 3 := ⟨_, rfl, Or.inl ⟨tw_1058, tw_1060, tp_53⟩⟩
theorem lv_1_233_1 : sn_LV 1 233 1 md_M_unionOf 2 := ⟨_, rfl, Or.inl ⟨tw_1066, tw_1068, tp_54⟩⟩
theorem lv_1_239_1 : sn_LV 1 239 1 md_M_cover 2 := ⟨_, rfl, Or.inl ⟨tw_1071, tw_1073, tp_55⟩⟩
theorem ls_1_229 : sn_LS 1 229 md_M_folded := ⟨Or.inl tw_1075, tw_1076⟩
theorem lv_1_243_1 : sn_LV 1 243 1 md_M_layOrder 2 := ⟨_, rfl, Or.inl ⟨tw_1082, tw_1084, tp_56⟩⟩
theorem lv_1_247_1 : sn_LV 1 247 1 md_M_goes 2 := ⟨_, rfl, Or.inl ⟨tw_1086, tw_1088, tp_57⟩⟩
theorem lv_1_250_1 : sn_LV 1 250 1 md_M_head 1 := ⟨_, rfl, Or.inl ⟨tw_1094, tw_1096, tp_58⟩⟩
theorem lv_1_253_1 : sn_LV 1 253 1 md_M_howMany 1 := ⟨_, rfl, Or.inl ⟨tw_1102, tw_1104, tp_59⟩⟩
theorem lf_1_256_1 : sn_LF 1 256 1 24 := ⟨_, "SureNoesModel", ck_1, by decide, tw_795, Or.inl rfl⟩
theorem lp_M_digest_256_1 : sn_LP 1 256 1 24 md_M_digest := ⟨lf_1_256_1, fun q hq => by cases hq; exact Or.inl rfl⟩
theorem lv_1_262_1 : sn_LV 1 262 1 md_M_mix 1 := ⟨_, rfl, Or.inl ⟨tw_1111, tw_1113, tp_60⟩⟩
theorem lp_M_mix_256_1 : sn_LP 1 256 1 24 md_M_mix := ⟨lf_1_256_1, fun q hq => by cases hq; exact Or.inl rfl⟩
theorem lc_11_7 : sn_LC 11 7 0 [.null, .int 0, .null, .int 0, .null, .null] := ⟨_, ck_0, rfl, tw_16, tw_17, tw_1, fun _ j hj => match j, hj with
  | 0, _ => rfl
  | 1, _ => rfl
  | 2, _ => rfl
  | 3, _ => rfl
  | 4, _ => rfl
  | 5, _ => rfl
  | j + 6, hj => absurd hj (Nat.not_lt.mpr (Nat.le_add_left _ _))⟩
theorem li_11_9 : sn_LI 11 9 md_X_init := ⟨Or.inl tw_18, rfl, tw_19, rfl⟩
theorem lc_11_10 : sn_LC 11 10 1 [.int 0, .null, .null, .int 0, .null, .null, .null, .null, .null, .null, .null, .null, .int 0, .null, .null, .null, .null, .null, .null, .null, .null, .null, .null, .null, .long 0] := ⟨_, ck_1, rfl, tw_765, tw_766, tw_2, fun _ j hj => match j, hj with
  | 0, _ => rfl
  | 1, _ => rfl
  | 2, _ => rfl
  | 3, _ => rfl
  | 4, _ => rfl
  | 5, _ => rfl
  | 6, _ => rfl
  | 7, _ => rfl
  | 8, _ => rfl
  | 9, _ => rfl
  | 10, _ => rfl
  | 11, _ => rfl
  | 12, _ => rfl
  | 13, _ => rfl
  | 14, _ => rfl
  | 15, _ => rfl
  | 16, _ => rfl
  | 17, _ => rfl
  | 18, _ => rfl
  | 19, _ => rfl
  | 20, _ => rfl
  | 21, _ => rfl
  | 22, _ => rfl
  | 23, _ => rfl
  | 24, _ => rfl
  | j + 25, hj => absurd hj (Nat.not_lt.mpr (Nat.le_add_left _ _))⟩
theorem li_11_12 : sn_LI 11 12 md_M_init := ⟨Or.inl tw_767, rfl, tw_768, rfl⟩
theorem lv_11_13_0 : sn_LV 11 13 0 md_X_law 2 := ⟨_, rfl, Or.inl ⟨tw_48, tw_49, tw_50⟩⟩
theorem lv_11_17_1 : sn_LV 11 17 1 md_M_law 2 := ⟨_, rfl, Or.inl ⟨tw_848, tw_849, tw_850⟩⟩
theorem lv_11_18_0 : sn_LV 11 18 0 md_X_value 2 := ⟨_, rfl, Or.inl ⟨tw_66, tw_67, tw_68⟩⟩
theorem lv_11_21_1 : sn_LV 11 21 1 md_M_value 2 := ⟨_, rfl, Or.inl ⟨tw_856, tw_857, tw_858⟩⟩
theorem lv_11_24_0 : sn_LV 11 24 0 md_X_odds 4 := ⟨_, rfl, Or.inl ⟨tw_81, tw_82, tw_83⟩⟩
theorem lv_11_28_1 : sn_LV 11 28 1 md_M_odds 4 := ⟨_, rfl, Or.inl ⟨tw_872, tw_873, tw_874⟩⟩
theorem lv_11_29_0 : sn_LV 11 29 0 md_X_best 3 := ⟨_, rfl, Or.inl ⟨tw_107, tw_108, tw_109⟩⟩
theorem lv_11_33_1 : sn_LV 11 33 1 md_M_best 3 := ⟨_, rfl, Or.inl ⟨tw_888, tw_889, tw_890⟩⟩
theorem lv_11_34_0 : sn_LV 11 34 0 md_X_fewest 3 := ⟨_, rfl, Or.inl ⟨tw_114, tw_115, tw_116⟩⟩
theorem lv_11_37_1 : sn_LV 11 37 1 md_M_fewest 3 := ⟨_, rfl, Or.inl ⟨tw_895, tw_896, tw_897⟩⟩
theorem lv_11_38_0 : sn_LV 11 38 0 md_X_book 3 := ⟨_, rfl, Or.inl ⟨tw_118, tw_119, tw_120⟩⟩
theorem lv_11_42_1 : sn_LV 11 42 1 md_M_book 3 := ⟨_, rfl, Or.inl ⟨tw_899, tw_900, tw_901⟩⟩
theorem lv_11_43_0 : sn_LV 11 43 0 md_X_as 2 := ⟨_, rfl, Or.inl ⟨tw_306, tw_307, tw_308⟩⟩
theorem lv_11_46_1 : sn_LV 11 46 1 md_M_as 2 := ⟨_, rfl, Or.inl ⟨tw_908, tw_909, tw_910⟩⟩
theorem lv_11_47_0 : sn_LV 11 47 0 md_X_about 2 := ⟨_, rfl, Or.inl ⟨tw_317, tw_318, tw_319⟩⟩
theorem lv_11_50_1 : sn_LV 11 50 1 md_M_about 2 := ⟨_, rfl, Or.inl ⟨tw_916, tw_917, tw_918⟩⟩
theorem lv_11_51_0 : sn_LV 11 51 0 md_X_at 2 := ⟨_, rfl, Or.inl ⟨tw_359, tw_360, tw_361⟩⟩
theorem lv_11_54_1 : sn_LV 11 54 1 md_M_at 2 := ⟨_, rfl, Or.inl ⟨tw_932, tw_933, tw_934⟩⟩
theorem lv_11_55_0 : sn_LV 11 55 0 md_X_row 2 := ⟨_, rfl, Or.inl ⟨tw_363, tw_364, tw_365⟩⟩
theorem lv_11_59_1 : sn_LV 11 59 1 md_M_row 2 := ⟨_, rfl, Or.inl ⟨tw_936, tw_937, tw_938⟩⟩
theorem lv_11_60_0 : sn_LV 11 60 0 md_X_places 2 := ⟨_, rfl, Or.inl ⟨tw_380, tw_381, tw_382⟩⟩
theorem lv_11_63_1 : sn_LV 11 63 1 md_M_places 2 := ⟨_, rfl, Or.inl ⟨tw_941, tw_942, tw_943⟩⟩
theorem lv_11_64_0 : sn_LV 11 64 0 md_X_put 2 := ⟨_, rfl, Or.inl ⟨tw_426, tw_427, tw_428⟩⟩
theorem lv_11_67_1 : sn_LV 11 67 1 md_M_put 2 := ⟨_, rfl, Or.inl ⟨tw_972, tw_973, tw_974⟩⟩
theorem lv_11_68_0 : sn_LV 11 68 0 md_X_take 2 := ⟨_, rfl, Or.inl ⟨tw_523, tw_524, tw_525⟩⟩
theorem lv_11_71_1 : sn_LV 11 71 1 md_M_take 2 := ⟨_, rfl, Or.inl ⟨tw_997, tw_998, tw_999⟩⟩
theorem lv_11_72_0 : sn_LV 11 72 0 md_X_build 3 := ⟨_, rfl, Or.inl ⟨tw_555, tw_556, tw_557⟩⟩
theorem lv_11_76_1 : sn_LV 11 76 1 md_M_build 3 := ⟨_, rfl, Or.inl ⟨tw_1001, tw_1002, tw_1003⟩⟩
theorem lv_11_77_0 : sn_LV 11 77 0 md_X_real 2 := ⟨_, rfl, Or.inl ⟨tw_603, tw_604, tw_605⟩⟩
theorem lv_11_80_1 : sn_LV 11 80 1 md_M_real 2 := ⟨_, rfl, Or.inl ⟨tw_1021, tw_1022, tw_1023⟩⟩
theorem lv_11_81_0 : sn_LV 11 81 0 md_X_keys 2 := ⟨_, rfl, Or.inl ⟨tw_607, tw_608, tw_609⟩⟩
theorem lv_11_84_1 : sn_LV 11 84 1 md_M_keys 2 := ⟨_, rfl, Or.inl ⟨tw_1025, tw_1026, tw_1027⟩⟩
theorem lv_11_85_0 : sn_LV 11 85 0 md_X_join 3 := ⟨_, rfl, Or.inl ⟨tw_624, tw_625, tw_626⟩⟩
theorem lv_11_89_1 : sn_LV 11 89 1 md_M_join 3 := ⟨_, rfl, Or.inl ⟨tw_1038, tw_1039, tw_1040⟩⟩
theorem lv_11_90_0 : sn_LV 11 90 0 md_X_halve 1 := ⟨_, rfl, Or.inl ⟨tw_638, tw_639, tw_640⟩⟩
theorem lv_11_94_1 : sn_LV 11 94 1 md_M_halve 1 := ⟨_, rfl, Or.inl ⟨tw_1045, tw_1046, tw_1047⟩⟩
theorem lv_11_95_0 : sn_LV 11 95 0 md_X_spoil 2 := ⟨_, rfl, Or.inl ⟨tw_643, tw_644, tw_645⟩⟩
theorem lv_11_98_1 : sn_LV 11 98 1 md_M_spoil 2 := ⟨_, rfl, Or.inl ⟨tw_1049, tw_1050, tw_1051⟩⟩
theorem lv_11_99_0 : sn_LV 11 99 0 md_X_made 2 := ⟨_, rfl, Or.inl ⟨tw_655, tw_656, tw_657⟩⟩
theorem lv_11_102_1 : sn_LV 11 102 1 md_M_made 2 := ⟨_, rfl, Or.inl ⟨tw_1062, tw_1063, tw_1064⟩⟩
theorem lv_11_103_0 : sn_LV 11 103 0 md_X_order 3 := ⟨_, rfl, Or.inl ⟨tw_699, tw_700, tw_701⟩⟩
theorem lv_11_107_1 : sn_LV 11 107 1 md_M_order 3 := ⟨_, rfl, Or.inl ⟨tw_1078, tw_1079, tw_1080⟩⟩
theorem lv_11_108_0 : sn_LV 11 108 0 md_X_most 2 := ⟨_, rfl, Or.inl ⟨tw_720, tw_721, tw_722⟩⟩
theorem lv_11_112_1 : sn_LV 11 112 1 md_M_most 2 := ⟨_, rfl, Or.inl ⟨tw_1090, tw_1091, tw_1092⟩⟩
theorem lv_11_113_0 : sn_LV 11 113 0 md_X_count 1 := ⟨_, rfl, Or.inl ⟨tw_737, tw_738, tw_739⟩⟩
theorem lv_11_116_1 : sn_LV 11 116 1 md_M_count 1 := ⟨_, rfl, Or.inl ⟨tw_1098, tw_1099, tw_1100⟩⟩
theorem lv_11_117_0 : sn_LV 11 117 0 md_X_digest 0 := ⟨_, rfl, Or.inl ⟨tw_749, tw_750, tw_751⟩⟩
theorem lv_11_121_1 : sn_LV 11 121 1 md_M_digest 0 := ⟨_, rfl, Or.inl ⟨tw_1106, tw_1107, tw_1108⟩⟩
theorem lg_3 : sn_asg 4 3 := Or.inr ⟨rfl, _, rfl, tn_1127⟩
theorem lg_4 : sn_asg 4 4 := Or.inr ⟨rfl, _, rfl, tn_1128⟩
theorem lg_5 : sn_asg 4 5 := Or.inr ⟨rfl, _, rfl, tn_1129⟩
theorem lg_6 : sn_asg 4 6 := Or.inr ⟨rfl, _, rfl, tn_1130⟩
theorem lg_7 : sn_asg 4 7 := Or.inr ⟨rfl, _, rfl, tn_1131⟩
theorem lg_8 : sn_asg 4 8 := Or.inr ⟨rfl, _, rfl, tn_1132⟩
theorem lg_2 : sn_asg 3 2 := Or.inl ⟨rfl, rfl⟩
theorem lac_0 : Cond.arrayClass (sn_nak 0).2 ∈ sn_gw := tw_206
theorem lac_1 : Cond.arrayClass (sn_nak 1).2 ∈ sn_gw := tw_47
theorem lac_2 : Cond.arrayClass (sn_nak 2).2 ∈ sn_gw := tw_847
end
section
/-! Math.max, Math.min -/
section EV
variable {Ω : sn_O} {d : Nat} {E : sn_E} {pc : Nat} {lv rest st : List Value} {h h' : sn_H} {r : Option Value} {len nx tg : Nat}
theorem Ev.mx {idx : Nat} {x y : Int32} (hi : sn_tg E.2.1 pc = some (.invokestatic idx, len, nx, tg)) (lk : Cond.methodLink (sn_rn E.1) idx ⟨"java/lang/Math", "max", "(II)I"⟩ ∈ sn_gw) (hct : Nat.ble (sn_cts rest) 8 = true) (K : Ev Ω (d + 1) E nx lv (.int (if x < y then y else x) :: rest) h r h') : Ev Ω (d + 1) E pc lv (.int y :: .int x :: rest) h r h' := by
  refine Ev.gen 0 0 rfl rfl (fun γ κ mc ms Q n k kf om a b K => ?_) K
  intro H locs ls hR hl hS
  obtain ⟨hx, hb, hml, hown, hts, hGK, hsz, hlk, hrt, hT, hrm, hnm⟩ := kf
  obtain ⟨p, l, e, R, s, m, args, below, meth, c⟩ := κ
  obtain ⟨hd, hj⟩ := hT _ (sn_tg_mem hi)
  have hnx := sn_jok_nx hj
  have hn := sn_jok_len hj (by simp [sn_len])
  subst hn; subst hnx
  dsimp only at *
  exact va_mmax hx hb (by rw [hml]; exact hl.1.symm) hown (hts _ lk) (hts _ tw_398) (hts _ tw_13) (hts _ tw_399) (by omega) (by rw [sn_cat, sn_cts_eq]; have := Nat.le_of_ble_eq_true hct; omega) (Nat.le_trans a hrm.2.2.1) (Nat.le_trans b hrm.2.2.2) hd (K H locs ls hR hl hS)
theorem Ev.mn {idx : Nat} {x y : Int32} (hi : sn_tg E.2.1 pc = some (.invokestatic idx, len, nx, tg)) (lk : Cond.methodLink (sn_rn E.1) idx ⟨"java/lang/Math", "min", "(II)I"⟩ ∈ sn_gw) (hct : Nat.ble (sn_cts rest) 8 = true) (K : Ev Ω (d + 1) E nx lv (.int (if y < x then y else x) :: rest) h r h') : Ev Ω (d + 1) E pc lv (.int y :: .int x :: rest) h r h' := by
  refine Ev.gen 0 0 rfl rfl (fun γ κ mc ms Q n k kf om a b K => ?_) K
  intro H locs ls hR hl hS
  obtain ⟨hx, hb, hml, hown, hts, hGK, hsz, hlk, hrt, hT, hrm, hnm⟩ := kf
  obtain ⟨p, l, e, R, s, m, args, below, meth, c⟩ := κ
  obtain ⟨hd, hj⟩ := hT _ (sn_tg_mem hi)
  have hnx := sn_jok_nx hj
  have hn := sn_jok_len hj (by simp [sn_len])
  subst hn; subst hnx
  dsimp only at *
  exact va_mmin hx hb (by rw [hml]; exact hl.1.symm) hown (hts _ lk) (hts _ tw_635) (hts _ tw_13) (hts _ tw_636) (by omega) (by rw [sn_cat, sn_cts_eq]; have := Nat.le_of_ble_eq_true hct; omega) (Nat.le_trans a hrm.2.2.1) (Nat.le_trans b hrm.2.2.2) hd (K H locs ls hR hl hS)
theorem Ev.mnl {idx : Nat} {x y : Int64} (hi : sn_tg E.2.1 pc = some (.invokestatic idx, len, nx, tg)) (lk : Cond.methodLink (sn_rn E.1) idx ⟨"java/lang/Math", "min", "(JJ)J"⟩ ∈ sn_gw) (hct : Nat.ble (sn_cts rest) 8 = true) (K : Ev Ω (d + 1) E nx lv (.long (if y < x then y else x) :: rest) h r h') : Ev Ω (d + 1) E pc lv (.long y :: .long x :: rest) h r h' := by
  refine Ev.gen 0 0 rfl rfl (fun γ κ mc ms Q n k kf om a b K => ?_) K
  intro H locs ls hR hl hS
  obtain ⟨hx, hb, hml, hown, hts, hGK, hsz, hlk, hrt, hT, hrm, hnm⟩ := kf
  obtain ⟨p, l, e, R, s, m, args, below, meth, c⟩ := κ
  obtain ⟨hd, hj⟩ := hT _ (sn_tg_mem hi)
  have hnx := sn_jok_nx hj
  have hn := sn_jok_len hj (by simp [sn_len])
  subst hn; subst hnx
  dsimp only at *
  exact va_mmin_long hx hb (by rw [hml]; exact hl.1.symm) hown (hts _ lk) (hts _ tw_695) (hts _ tw_13) (hts _ tw_696) (by omega) (by rw [sn_cat, sn_cts_eq]; have := Nat.le_of_ble_eq_true hct; omega) (Nat.le_trans a hrm.2.2.1) (Nat.le_trans b hrm.2.2.2) hd (K H locs ls hR hl hS)
end EV
end
section
theorem s_l : ∀ n, n < 32 → ((nI n &&& 31).toBitVec.smod 32).toNat = n := by decide +kernel
theorem s_u : ∀ n, n < 32 → (((nI n).toUInt32 &&& Int32.toUInt32 31).toBitVec % 32).toNat = n := by decide +kernel

theorem wb_tb (n : Nat) : (lN n).toBitVec = BitVec.ofNat 64 n := rfl
theorem wb_inj {a b : Int64} (h : a.toBitVec = b.toBitVec) : a = b := Int64.toBitVec_inj.mp h
theorem wb_tn {n : Nat} (h : n < 2 ^ 64) : (lN n).toBitVec.toNat = n := by rw [wb_tb, BitVec.toNat_ofNat, Nat.mod_eq_of_lt h]
theorem wb_of (x : Int64) : ∃ n, n < 2 ^ 64 ∧ x = lN n := ⟨x.toBitVec.toNat, x.toBitVec.isLt, wb_inj (by rw [wb_tb]; simp)⟩
theorem wb_of32 (x : Int32) : ∃ n, n < 2 ^ 32 ∧ x = nI n := ⟨x.toBitVec.toNat, x.toBitVec.isLt, Int32.toBitVec_inj.mp (by show _ = BitVec.ofNat 32 _; simp)⟩
theorem wb_c : ∀ k, k < 64 → ((nI k).toInt64 &&& 63) = lN k := by decide +kernel
theorem wb_cu : ∀ k, k < 64 → ((nI k).toInt64.toUInt64 &&& Int64.toUInt64 63) = UInt64.ofNat k := by decide +kernel
theorem wb_sm : ∀ k, k < 64 → (BitVec.ofNat 64 k).smod 64 = BitVec.ofNat 64 k := by decide +kernel
theorem wb_pw {a b : Nat} (h : a ≤ b) : 2 ^ b = 2 ^ a * 2 ^ (b - a) := by rw [← Nat.pow_add]; congr 1; omega
theorem wb_lt2 {a b : Nat} (h : a < b) : 2 ^ a < 2 ^ b := Nat.pow_lt_pow_right (by decide) h
theorem wb_mod (n : Nat) : lN n = lN (n % 2 ^ 64) := wb_inj (by rw [wb_tb, wb_tb]; apply BitVec.eq_of_toNat_eq; rw [BitVec.toNat_ofNat, BitVec.toNat_ofNat, Nat.mod_mod])
theorem wb_shr {n k : Nat} (hn : n < 2 ^ 64) (hk : k < 64) : ((lN n).toUInt64 >>> ((nI k).toInt64.toUInt64 &&& Int64.toUInt64 63)).toInt64 = lN (n / 2 ^ k) := by
  rw [wb_cu k hk]
  apply wb_inj
  apply BitVec.eq_of_toNat_eq
  show ((lN n).toUInt64 >>> UInt64.ofNat k).toNat = (BitVec.ofNat 64 _).toNat
  have h1 : (UInt64.ofNat k).toNat = k := by
    show (BitVec.ofNat 64 k).toNat = k
    rw [BitVec.toNat_ofNat, Nat.mod_eq_of_lt (by omega)]
  have h2 : (lN n).toUInt64.toNat = n := wb_tn hn
  rw [UInt64.toNat_shiftRight, h1, h2, Nat.mod_eq_of_lt hk, Nat.shiftRight_eq_div_pow, BitVec.toNat_ofNat, Nat.mod_eq_of_lt (Nat.lt_of_le_of_lt (Nat.div_le_self _ _) hn)]
theorem wb_shl (n : Nat) {k : Nat} (hk : k < 64) : lN n <<< ((nI k).toInt64 &&& 63) = lN (n * 2 ^ k) := by
  rw [wb_c k hk]
  apply wb_inj
  rw [Int64.toBitVec_shiftLeft, wb_tb, wb_tb, wb_tb, wb_sm k hk]
  apply BitVec.eq_of_toNat_eq
  rw [BitVec.shiftLeft_eq', BitVec.toNat_shiftLeft, BitVec.toNat_ofNat, BitVec.toNat_ofNat, BitVec.toNat_ofNat, Nat.mod_eq_of_lt (show k < 2 ^ 64 by omega), Nat.shiftLeft_eq, Nat.mul_mod, Nat.mod_mod, ← Nat.mul_mod]
theorem wb_and {a b : Nat} (ha : a < 2 ^ 64) (hb : b < 2 ^ 64) : lN a &&& lN b = lN (a &&& b) := by
  apply wb_inj
  rw [Int64.toBitVec_and, wb_tb, wb_tb, wb_tb]
  apply BitVec.eq_of_toNat_eq
  rw [BitVec.toNat_and, BitVec.toNat_ofNat, BitVec.toNat_ofNat, BitVec.toNat_ofNat, Nat.mod_eq_of_lt ha, Nat.mod_eq_of_lt hb, Nat.mod_eq_of_lt (Nat.and_lt_two_pow _ hb)]
theorem wb_or {a b : Nat} (ha : a < 2 ^ 64) (hb : b < 2 ^ 64) : lN a ||| lN b = lN (a ||| b) := by
  apply wb_inj
  rw [Int64.toBitVec_or, wb_tb, wb_tb, wb_tb]
  apply BitVec.eq_of_toNat_eq
  rw [BitVec.toNat_or, BitVec.toNat_ofNat, BitVec.toNat_ofNat, BitVec.toNat_ofNat, Nat.mod_eq_of_lt ha, Nat.mod_eq_of_lt hb, Nat.mod_eq_of_lt (Nat.or_lt_two_pow ha hb)]
theorem wb_mask {n k : Nat} (hn : n < 2 ^ 64) (hk : k < 64) : lN n &&& lN (2 ^ k - 1) = lN (n % 2 ^ k) := by
  rw [wb_and hn (by have := wb_lt2 hk; omega), Nat.and_two_pow_sub_one_eq_mod]
theorem wb_a1 {n : Nat} (hn : n < 2 ^ 64) : lN n &&& 1 = lN (n % 2) := wb_mask (k := 1) hn (by decide)
theorem wb_bit {n k : Nat} (hn : n < 2 ^ 64) (hk : k < 64) : ((lN n).toUInt64 >>> ((nI k).toInt64.toUInt64 &&& Int64.toUInt64 63)).toInt64 &&& 1 = lN (n / 2 ^ k % 2) := by
  rw [wb_shr hn hk, wb_a1 (Nat.lt_of_le_of_lt (Nat.div_le_self _ _) hn)]
theorem wb_xor {q k : Nat} (hk : k < 63) (h : 2 ^ k ≤ q) (h2 : q < 2 ^ (k + 1)) : lN q ^^^ lN (2 ^ k) = lN (q - 2 ^ k) := by
  obtain ⟨r, rfl⟩ : ∃ r, q = 2 ^ k + r := ⟨q - 2 ^ k, by omega⟩
  have hr : r < 2 ^ k := by rw [Nat.pow_succ] at h2; omega
  have hx : (2 ^ k + r) ^^^ 2 ^ k = r := by
    apply Nat.eq_of_testBit_eq
    intro i
    rw [Nat.testBit_xor, Nat.testBit_two_pow]
    rcases Nat.lt_trichotomy i k with h | h | h
    · rw [Nat.testBit_two_pow_add_gt h]
      simp [show ¬ k = i by omega]
    · subst h
      rw [Nat.testBit_two_pow_add_eq]
      simp
    · have a1 : 2 ^ (k + 1) ≤ 2 ^ i := Nat.pow_le_pow_right (by decide) h
      rw [Nat.testBit_lt_two_pow (show 2 ^ k + r < 2 ^ i by omega), Nat.testBit_lt_two_pow (show r < 2 ^ i by omega)]
      simp [show ¬ k = i by omega]
  have b1 := wb_lt2 (show k + 1 < 64 by omega)
  have b2 := wb_lt2 (show k < 64 by omega)
  apply wb_inj
  rw [Int64.toBitVec_xor, wb_tb, wb_tb, wb_tb]
  apply BitVec.eq_of_toNat_eq
  rw [BitVec.toNat_xor, BitVec.toNat_ofNat, BitVec.toNat_ofNat, BitVec.toNat_ofNat, Nat.mod_eq_of_lt (by omega : 2 ^ k + r < 2 ^ 64), Nat.mod_eq_of_lt b2, hx, Nat.add_sub_cancel_left, Nat.mod_eq_of_lt (by omega)]

theorem fb_andL (a b : Nat) : lN a &&& lN b = lN (a &&& b) := by
  apply Int64.toBitVec_inj.1
  show BitVec.ofNat 64 a &&& BitVec.ofNat 64 b = BitVec.ofNat 64 (a &&& b)
  apply BitVec.eq_of_getLsbD_eq
  intro i hi
  simp [hi]
theorem fb_orL (a b : Nat) : lN a ||| lN b = lN (a ||| b) := by
  apply Int64.toBitVec_inj.1
  show BitVec.ofNat 64 a ||| BitVec.ofNat 64 b = BitVec.ofNat 64 (a ||| b)
  apply BitVec.eq_of_getLsbD_eq
  intro i hi
  simp [hi]
theorem fb_xorL (a b : Nat) : lN a ^^^ lN b = lN (a ^^^ b) := by
  apply Int64.toBitVec_inj.1
  show BitVec.ofNat 64 a ^^^ BitVec.ofNat 64 b = BitVec.ofNat 64 (a ^^^ b)
  apply BitVec.eq_of_getLsbD_eq
  intro i hi
  simp [hi]
theorem fb_xorI (a b : Nat) : nI a ^^^ nI b = nI (a ^^^ b) := by
  apply Int32.toBitVec_inj.1
  show BitVec.ofNat 32 a ^^^ BitVec.ofNat 32 b = BitVec.ofNat 32 (a ^^^ b)
  apply BitVec.eq_of_getLsbD_eq
  intro i hi
  simp [hi]
theorem fb_maskL (n k : Nat) : lN n &&& lN (2 ^ k - 1) = lN (n % 2 ^ k) := by rw [fb_andL, Nat.and_two_pow_sub_one_eq_mod]
theorem fb_or_sumL {a k : Nat} (b : Nat) (h : a < 2 ^ k) : lN (2 ^ k * b) ||| lN a = lN (2 ^ k * b + a) := by rw [fb_orL, Nat.two_pow_add_eq_or_of_lt h]
theorem fb_lN_inj {a b : Nat} (ha : a < 2 ^ 63) (hb : b < 2 ^ 63) : lN a = lN b ↔ a = b := by
  constructor
  · intro h
    have h1 : (BitVec.ofNat 64 a).toNat = (BitVec.ofNat 64 b).toNat := congrArg (fun x : Int64 => x.toBitVec.toNat) h
    rw [BitVec.toNat_ofNat, BitVec.toNat_ofNat, Nat.mod_eq_of_lt (by omega), Nat.mod_eq_of_lt (by omega)] at h1
    exact h1
  · rintro rfl; rfl

theorem fa_lt (a b : Int32) : a < b ↔ a.toInt < b.toInt := Int32.lt_iff_toInt_lt
theorem fa_le (a b : Int32) : a ≤ b ↔ a.toInt ≤ b.toInt := Int32.le_iff_toInt_le
theorem fa_eq (a b : Int32) : a = b ↔ a.toInt = b.toInt := Int32.toInt_inj.symm
theorem fa_lt64 (a b : Int64) : a < b ↔ a.toInt < b.toInt := Int64.lt_iff_toInt_lt
theorem fa_le64 (a b : Int64) : a ≤ b ↔ a.toInt ≤ b.toInt := Int64.le_iff_toInt_le
theorem fa_eq64 (a b : Int64) : a = b ↔ a.toInt = b.toInt := Int64.toInt_inj.symm
/-- a comparison of two ints taken as longs -/
theorem fa_wide_lt (a b : Int32) : a.toInt64 < b.toInt64 ↔ a < b := by rw [fa_lt64, fa_lt, Int32.toInt_toInt64, Int32.toInt_toInt64]
theorem fa_wide_le (a b : Int32) : a.toInt64 ≤ b.toInt64 ↔ a ≤ b := by rw [fa_le64, fa_le, Int32.toInt_toInt64, Int32.toInt_toInt64]
theorem fa_wide_eq (a b : Int32) : a.toInt64 = b.toInt64 ↔ a = b := by rw [fa_eq64, fa_eq, Int32.toInt_toInt64, Int32.toInt_toInt64]
/-- one strict comparison gives all the others -/

def b2i (b : Bool) : Int32 := if b then 1 else 0
theorem b2i_rc (b : Bool) : b2i b = 0 ∨ b2i b = 1 := by cases b; exact Or.inl rfl; exact Or.inr rfl
theorem b2i_t : nI 1 = b2i true := rfl
theorem b2i_f : nI 0 = b2i false := rfl
section EV
variable {Ω : sn_O} {d : Nat} {E : sn_E} {pc : Nat} {lv rest st : List Value} {h h' : sn_H} {r : Option Value} {len nx tg len2 nx2 tg2 : Nat}
theorem Ev.rm {x y : Int32} {a b : Nat} (hi : sn_tg E.2.1 pc = some (.irem, len, nx, tg)) (ex : x = nI a) (ey : y = nI b) (ha : a < 2 ^ 31) (hb : 0 < b) (hb2 : b < 2 ^ 31) (K : Ev Ω d E nx lv (.int (nI (a % b)) :: rest) h r h') : Ev Ω d E pc lv (.int y :: .int x :: rest) h r h' := by
  subst ex; subst ey
  refine Ev.p hi rfl (nI_ne0 hb hb2) ?_
  rw [pk_rem ha hb hb2]
  exact K
theorem Ev.dv {x y : Int32} {a b : Nat} (hi : sn_tg E.2.1 pc = some (.idiv, len, nx, tg)) (ex : x = nI a) (ey : y = nI b) (ha : a < 2 ^ 31) (hb : 0 < b) (hb2 : b < 2 ^ 31) (K : Ev Ω d E nx lv (.int (nI (a / b)) :: rest) h r h') : Ev Ω d E pc lv (.int y :: .int x :: rest) h r h' := by
  subst ex; subst ey
  refine Ev.p hi rfl (nI_ne0 hb hb2) ?_
  rw [pk_div ha hb hb2]
  exact K
/-- a boolean is tested -/
theorem Ev.zb {c : Bool} {x : Int32} {o : Int} (hi : sn_tg E.2.1 pc = some (.ifCond .eq o, len, nx, tg)) (ex : x = b2i c) (K1 : c = false → Ev Ω d E tg lv rest h r h') (K2 : c = true → Ev Ω d E nx lv rest h r h') : Ev Ω d E pc lv (.int x :: rest) h r h' := by
  subst ex
  cases c with
  | false => exact Ev.bt hi rfl rfl (K1 rfl)
  | true => exact Ev.bf hi rfl (by decide) (K2 rfl)
theorem Ev.zn {c : Bool} {x : Int32} {o : Int} (hi : sn_tg E.2.1 pc = some (.ifCond .ne o, len, nx, tg)) (ex : x = b2i c) (K1 : c = true → Ev Ω d E tg lv rest h r h') (K2 : c = false → Ev Ω d E nx lv rest h r h') : Ev Ω d E pc lv (.int x :: rest) h r h' := by
  subst ex
  cases c with
  | false => exact Ev.bt hi rfl rfl (K2 rfl)
  | true => exact Ev.bf hi rfl (by decide) (K1 rfl)
theorem Ev.ieq {x y : Int32} {a b : Nat} {o : Int} (hi : sn_tg E.2.1 pc = some (.if_icmp .eq o, len, nx, tg)) (ex : x = nI a) (ey : y = nI b) (ha : a < 2 ^ 31) (hb : b < 2 ^ 31) (K1 : a = b → Ev Ω d E tg lv rest h r h') (K2 : ¬ a = b → Ev Ω d E nx lv rest h r h') : Ev Ω d E pc lv (.int y :: .int x :: rest) h r h' := by
  subst ex; subst ey
  exact Ev.br hi rfl (fun hc => K1 ((nI_eq ha hb).mp hc)) (fun hc => K2 (fun q => hc ((nI_eq ha hb).mpr q)))
theorem Ev.ine {x y : Int32} {a b : Nat} {o : Int} (hi : sn_tg E.2.1 pc = some (.if_icmp .ne o, len, nx, tg)) (ex : x = nI a) (ey : y = nI b) (ha : a < 2 ^ 31) (hb : b < 2 ^ 31) (K1 : ¬ a = b → Ev Ω d E tg lv rest h r h') (K2 : a = b → Ev Ω d E nx lv rest h r h') : Ev Ω d E pc lv (.int y :: .int x :: rest) h r h' := by
  subst ex; subst ey
  exact Ev.br (c := nI a = nI b) hi rfl (fun hc => K2 ((nI_eq ha hb).mp hc)) (fun hc => K1 (fun q => hc ((nI_eq ha hb).mpr q)))
theorem Ev.ilt {x y : Int32} {a b : Nat} {o : Int} (hi : sn_tg E.2.1 pc = some (.if_icmp .lt o, len, nx, tg)) (ex : x = nI a) (ey : y = nI b) (ha : a < 2 ^ 31) (hb : b < 2 ^ 31) (K1 : a < b → Ev Ω d E tg lv rest h r h') (K2 : b ≤ a → Ev Ω d E nx lv rest h r h') : Ev Ω d E pc lv (.int y :: .int x :: rest) h r h' := by
  subst ex; subst ey
  exact Ev.br hi rfl (fun hc => K1 ((nI_ltI ha hb).mp hc)) (fun hc => K2 (Nat.not_lt.mp (fun q => hc ((nI_ltI ha hb).mpr q))))
theorem Ev.ige {x y : Int32} {a b : Nat} {o : Int} (hi : sn_tg E.2.1 pc = some (.if_icmp .ge o, len, nx, tg)) (ex : x = nI a) (ey : y = nI b) (ha : a < 2 ^ 31) (hb : b < 2 ^ 31) (K1 : b ≤ a → Ev Ω d E tg lv rest h r h') (K2 : a < b → Ev Ω d E nx lv rest h r h') : Ev Ω d E pc lv (.int y :: .int x :: rest) h r h' := by
  subst ex; subst ey
  exact Ev.br hi rfl (fun hc => K1 ((nI_leI hb ha).mp hc)) (fun hc => K2 (Nat.not_le.mp (fun q => hc ((nI_leI hb ha).mpr q))))
theorem Ev.igt {x y : Int32} {a b : Nat} {o : Int} (hi : sn_tg E.2.1 pc = some (.if_icmp .gt o, len, nx, tg)) (ex : x = nI a) (ey : y = nI b) (ha : a < 2 ^ 31) (hb : b < 2 ^ 31) (K1 : b < a → Ev Ω d E tg lv rest h r h') (K2 : a ≤ b → Ev Ω d E nx lv rest h r h') : Ev Ω d E pc lv (.int y :: .int x :: rest) h r h' := by
  subst ex; subst ey
  exact Ev.br hi rfl (fun hc => K1 ((nI_ltI hb ha).mp hc)) (fun hc => K2 (Nat.not_lt.mp (fun q => hc ((nI_ltI hb ha).mpr q))))
theorem Ev.ile {x y : Int32} {a b : Nat} {o : Int} (hi : sn_tg E.2.1 pc = some (.if_icmp .le o, len, nx, tg)) (ex : x = nI a) (ey : y = nI b) (ha : a < 2 ^ 31) (hb : b < 2 ^ 31) (K1 : a ≤ b → Ev Ω d E tg lv rest h r h') (K2 : b < a → Ev Ω d E nx lv rest h r h') : Ev Ω d E pc lv (.int y :: .int x :: rest) h r h' := by
  subst ex; subst ey
  exact Ev.br hi rfl (fun hc => K1 ((nI_leI ha hb).mp hc)) (fun hc => K2 (Nat.not_le.mp (fun q => hc ((nI_leI ha hb).mpr q))))
theorem Ev.req {x y : Int64} {o : Int} (hi : sn_tg E.2.1 pc = some (.lcmp, len, nx, tg)) (hi2 : sn_tg E.2.1 nx = some (.ifCond .eq o, len2, nx2, tg2)) (K1 : x = y → Ev Ω d E tg2 lv rest h r h') (K2 : ¬ x = y → Ev Ω d E nx2 lv rest h r h') : Ev Ω d E pc lv (.long y :: .long x :: rest) h r h' := by
  refine Ev.p hi rfl trivial ?_
  exact Ev.br hi2 rfl (fun hc => K1 ((lg_cmp_eq x y).mp hc)) (fun hc => K2 (fun q => hc ((lg_cmp_eq x y).mpr q)))
theorem Ev.leq {x y : Int64} {a b : Nat} {o : Int} (hi : sn_tg E.2.1 pc = some (.lcmp, len, nx, tg)) (hi2 : sn_tg E.2.1 nx = some (.ifCond .eq o, len2, nx2, tg2)) (ex : x = lN a) (ey : y = lN b) (ha : a < 2 ^ 63) (hb : b < 2 ^ 63) (K1 : a = b → Ev Ω d E tg2 lv rest h r h') (K2 : ¬ a = b → Ev Ω d E nx2 lv rest h r h') : Ev Ω d E pc lv (.long y :: .long x :: rest) h r h' := by
  subst ex; subst ey
  exact Ev.req hi hi2 (fun hc => K1 ((pk_lEQ ha hb).mp hc)) (fun hc => K2 (fun q => hc ((pk_lEQ ha hb).mpr q)))
theorem Ev.rne {x y : Int64} {o : Int} (hi : sn_tg E.2.1 pc = some (.lcmp, len, nx, tg)) (hi2 : sn_tg E.2.1 nx = some (.ifCond .ne o, len2, nx2, tg2)) (K1 : ¬ x = y → Ev Ω d E tg2 lv rest h r h') (K2 : x = y → Ev Ω d E nx2 lv rest h r h') : Ev Ω d E pc lv (.long y :: .long x :: rest) h r h' := by
  refine Ev.p hi rfl trivial ?_
  exact Ev.br (c := lg_cmp x y = 0) hi2 rfl (fun hc => K2 ((lg_cmp_eq x y).mp hc)) (fun hc => K1 (fun q => hc ((lg_cmp_eq x y).mpr q)))
theorem Ev.lne {x y : Int64} {a b : Nat} {o : Int} (hi : sn_tg E.2.1 pc = some (.lcmp, len, nx, tg)) (hi2 : sn_tg E.2.1 nx = some (.ifCond .ne o, len2, nx2, tg2)) (ex : x = lN a) (ey : y = lN b) (ha : a < 2 ^ 63) (hb : b < 2 ^ 63) (K1 : ¬ a = b → Ev Ω d E tg2 lv rest h r h') (K2 : a = b → Ev Ω d E nx2 lv rest h r h') : Ev Ω d E pc lv (.long y :: .long x :: rest) h r h' := by
  subst ex; subst ey
  exact Ev.rne hi hi2 (fun hc => K1 (fun q => hc ((pk_lEQ ha hb).mpr q))) (fun hc => K2 ((pk_lEQ ha hb).mp hc))
theorem Ev.rlt {x y : Int64} {o : Int} (hi : sn_tg E.2.1 pc = some (.lcmp, len, nx, tg)) (hi2 : sn_tg E.2.1 nx = some (.ifCond .lt o, len2, nx2, tg2)) (K1 : x < y → Ev Ω d E tg2 lv rest h r h') (K2 : ¬ x < y → Ev Ω d E nx2 lv rest h r h') : Ev Ω d E pc lv (.long y :: .long x :: rest) h r h' := by
  refine Ev.p hi rfl trivial ?_
  exact Ev.br hi2 rfl (fun hc => K1 ((lg_cmp_lt x y).mp hc)) (fun hc => K2 (fun q => hc ((lg_cmp_lt x y).mpr q)))
theorem Ev.llt {x y : Int64} {a b : Nat} {o : Int} (hi : sn_tg E.2.1 pc = some (.lcmp, len, nx, tg)) (hi2 : sn_tg E.2.1 nx = some (.ifCond .lt o, len2, nx2, tg2)) (ex : x = lN a) (ey : y = lN b) (ha : a < 2 ^ 63) (hb : b < 2 ^ 63) (K1 : a < b → Ev Ω d E tg2 lv rest h r h') (K2 : b ≤ a → Ev Ω d E nx2 lv rest h r h') : Ev Ω d E pc lv (.long y :: .long x :: rest) h r h' := by
  subst ex; subst ey
  exact Ev.rlt hi hi2 (fun hc => K1 ((pk_lLT ha hb).mp hc)) (fun hc => K2 (Nat.not_lt.mp (fun q => hc ((pk_lLT ha hb).mpr q))))
theorem Ev.rge {x y : Int64} {o : Int} (hi : sn_tg E.2.1 pc = some (.lcmp, len, nx, tg)) (hi2 : sn_tg E.2.1 nx = some (.ifCond .ge o, len2, nx2, tg2)) (K1 : y ≤ x → Ev Ω d E tg2 lv rest h r h') (K2 : ¬ y ≤ x → Ev Ω d E nx2 lv rest h r h') : Ev Ω d E pc lv (.long y :: .long x :: rest) h r h' := by
  refine Ev.p hi rfl trivial ?_
  exact Ev.br hi2 rfl (fun hc => K1 ((lg_cmp_ge x y).mp hc)) (fun hc => K2 (fun q => hc ((lg_cmp_ge x y).mpr q)))
theorem Ev.lge {x y : Int64} {a b : Nat} {o : Int} (hi : sn_tg E.2.1 pc = some (.lcmp, len, nx, tg)) (hi2 : sn_tg E.2.1 nx = some (.ifCond .ge o, len2, nx2, tg2)) (ex : x = lN a) (ey : y = lN b) (ha : a < 2 ^ 63) (hb : b < 2 ^ 63) (K1 : b ≤ a → Ev Ω d E tg2 lv rest h r h') (K2 : a < b → Ev Ω d E nx2 lv rest h r h') : Ev Ω d E pc lv (.long y :: .long x :: rest) h r h' := by
  subst ex; subst ey
  exact Ev.rge hi hi2 (fun hc => K1 ((pk_lLE hb ha).mp hc)) (fun hc => K2 (Nat.not_le.mp (fun q => hc ((pk_lLE hb ha).mpr q))))
theorem Ev.rgt {x y : Int64} {o : Int} (hi : sn_tg E.2.1 pc = some (.lcmp, len, nx, tg)) (hi2 : sn_tg E.2.1 nx = some (.ifCond .gt o, len2, nx2, tg2)) (K1 : y < x → Ev Ω d E tg2 lv rest h r h') (K2 : ¬ y < x → Ev Ω d E nx2 lv rest h r h') : Ev Ω d E pc lv (.long y :: .long x :: rest) h r h' := by
  refine Ev.p hi rfl trivial ?_
  exact Ev.br hi2 rfl (fun hc => K1 ((lg_cmp_gt x y).mp hc)) (fun hc => K2 (fun q => hc ((lg_cmp_gt x y).mpr q)))
theorem Ev.lgt {x y : Int64} {a b : Nat} {o : Int} (hi : sn_tg E.2.1 pc = some (.lcmp, len, nx, tg)) (hi2 : sn_tg E.2.1 nx = some (.ifCond .gt o, len2, nx2, tg2)) (ex : x = lN a) (ey : y = lN b) (ha : a < 2 ^ 63) (hb : b < 2 ^ 63) (K1 : b < a → Ev Ω d E tg2 lv rest h r h') (K2 : a ≤ b → Ev Ω d E nx2 lv rest h r h') : Ev Ω d E pc lv (.long y :: .long x :: rest) h r h' := by
  subst ex; subst ey
  exact Ev.rgt hi hi2 (fun hc => K1 ((pk_lLT hb ha).mp hc)) (fun hc => K2 (Nat.not_lt.mp (fun q => hc ((pk_lLT hb ha).mpr q))))
theorem Ev.rle {x y : Int64} {o : Int} (hi : sn_tg E.2.1 pc = some (.lcmp, len, nx, tg)) (hi2 : sn_tg E.2.1 nx = some (.ifCond .le o, len2, nx2, tg2)) (K1 : x ≤ y → Ev Ω d E tg2 lv rest h r h') (K2 : ¬ x ≤ y → Ev Ω d E nx2 lv rest h r h') : Ev Ω d E pc lv (.long y :: .long x :: rest) h r h' := by
  refine Ev.p hi rfl trivial ?_
  exact Ev.br hi2 rfl (fun hc => K1 ((lg_cmp_le x y).mp hc)) (fun hc => K2 (fun q => hc ((lg_cmp_le x y).mpr q)))
theorem Ev.lle {x y : Int64} {a b : Nat} {o : Int} (hi : sn_tg E.2.1 pc = some (.lcmp, len, nx, tg)) (hi2 : sn_tg E.2.1 nx = some (.ifCond .le o, len2, nx2, tg2)) (ex : x = lN a) (ey : y = lN b) (ha : a < 2 ^ 63) (hb : b < 2 ^ 63) (K1 : a ≤ b → Ev Ω d E tg2 lv rest h r h') (K2 : b < a → Ev Ω d E nx2 lv rest h r h') : Ev Ω d E pc lv (.long y :: .long x :: rest) h r h' := by
  subst ex; subst ey
  exact Ev.rle hi hi2 (fun hc => K1 ((pk_lLE ha hb).mp hc)) (fun hc => K2 (Nat.not_le.mp (fun q => hc ((pk_lLE ha hb).mpr q))))
theorem Ev.brn {p1 p2 : Nat} {lv' st' : List Value} {i : Instr} {c : Prop} [Decidable c] (hi : sn_tg E.2.1 pc = some (i, len, nx, tg)) (h1 : sn_ps E.1 E.2.2.2.2.1 i nx tg pc lv st = some (True, (if c then p2 else p1), lv', st'))
    (K1 : ¬ c → Ev Ω d E p1 lv' st' h r h') (K2 : c → Ev Ω d E p2 lv' st' h r h') : Ev Ω d E pc lv st h r h' := Ev.br hi h1 K2 K1
theorem Ev.zle {x : Int32} {a : Nat} {o : Int} (hi : sn_tg E.2.1 pc = some (.ifCond .le o, len, nx, tg)) (ex : x = nI a) (ha : a < 2 ^ 31) (K1 : a = 0 → Ev Ω d E tg lv rest h r h') (K2 : 0 < a → Ev Ω d E nx lv rest h r h') : Ev Ω d E pc lv (.int x :: rest) h r h' := by
  subst ex
  refine Ev.br hi rfl (fun hc => K1 ?_) (fun hc => K2 ?_)
  · by_cases e : a = 0
    · exact e
    · exact absurd hc (nI_nle (by omega) ha)
  · by_cases e : a = 0
    · subst e; exact absurd (by decide) hc
    · omega
theorem Ev.zgt {x : Int32} {a : Nat} {o : Int} (hi : sn_tg E.2.1 pc = some (.ifCond .gt o, len, nx, tg)) (ex : x = nI a) (ha : a < 2 ^ 31) (K1 : 0 < a → Ev Ω d E tg lv rest h r h') (K2 : a = 0 → Ev Ω d E nx lv rest h r h') : Ev Ω d E pc lv (.int x :: rest) h r h' := by
  subst ex
  refine Ev.br hi rfl (fun hc => K1 ?_) (fun hc => K2 ?_)
  · by_cases e : a = 0
    · subst e; exact absurd hc (by decide)
    · omega
  · by_cases e : a = 0
    · exact e
    · exact absurd (show (0 : Int32) < nI a by rw [← nI_0]; exact nI_lt (by omega) ha) hc
theorem Ev.zeq {x : Int32} {a : Nat} {o : Int} (hi : sn_tg E.2.1 pc = some (.ifCond .eq o, len, nx, tg)) (ex : x = nI a) (ha : a < 2 ^ 31) (K1 : a = 0 → Ev Ω d E tg lv rest h r h') (K2 : 0 < a → Ev Ω d E nx lv rest h r h') : Ev Ω d E pc lv (.int x :: rest) h r h' := by
  subst ex
  refine Ev.br (c := nI a = 0) hi rfl (fun hc => K1 ?_) (fun hc => K2 ?_)
  · rw [← nI_0] at hc; exact (nI_eq ha (by omega)).mp hc
  · by_cases e : a = 0
    · subst e; exact absurd rfl hc
    · omega
theorem Ev.zne {x : Int32} {a : Nat} {o : Int} (hi : sn_tg E.2.1 pc = some (.ifCond .ne o, len, nx, tg)) (ex : x = nI a) (ha : a < 2 ^ 31) (K1 : 0 < a → Ev Ω d E tg lv rest h r h') (K2 : a = 0 → Ev Ω d E nx lv rest h r h') : Ev Ω d E pc lv (.int x :: rest) h r h' := by
  subst ex
  refine Ev.br (c := nI a = 0) hi rfl (fun hc => K2 ?_) (fun hc => K1 ?_)
  · rw [← nI_0] at hc; exact (nI_eq ha (by omega)).mp hc
  · by_cases e : a = 0
    · subst e; exact absurd rfl hc
    · omega
end EV
theorem lN_0 : (0 : Int64) = lN 0 := rfl
theorem lN_one : (1 : Int64) = lN 1 := rfl
theorem lN_m1 : (-1 : Int64) = lN (2 ^ 64 - 1) := by decide +kernel
/-- one bit -/
theorem sh1 {p : Nat} (hp : p < 63) : lN 1 <<< ((nI p).toInt64 &&& 63) = lN (2 ^ p) := by
  rw [wb_shl 1 (by omega), Nat.one_mul]
theorem shr_N {s k : Nat} (hs : s < 2 ^ 63) (hk : k < 63) : lN s >>> ((nI k).toInt64 &&& 63) = lN (s / 2 ^ k) := by
  rw [wb_c k (by omega)]
  apply wb_inj
  rw [Int64.toBitVec_shiftRight, wb_tb, wb_tb, wb_tb, wb_sm k (by omega)]
  apply BitVec.eq_of_toNat_eq
  have h1 : (BitVec.ofNat 64 s).msb = false := by
    rw [BitVec.msb_eq_false_iff_two_mul_lt, BitVec.toNat_ofNat, Nat.mod_eq_of_lt (by omega)]
    omega
  have h2 : s / 2 ^ k ≤ s := Nat.div_le_self _ _
  rw [BitVec.sshiftRight_eq', BitVec.sshiftRight_eq_of_msb_false h1, BitVec.toNat_ushiftRight, BitVec.toNat_ofNat, BitVec.toNat_ofNat, BitVec.toNat_ofNat, Nat.mod_eq_of_lt (show s < 2 ^ 64 by omega), Nat.mod_eq_of_lt (show k < 2 ^ 64 by omega), Nat.mod_eq_of_lt (show s / 2 ^ k < 2 ^ 64 by omega), Nat.shiftRight_eq_div_pow]
theorem has_N {s k : Nat} (hs : s < 2 ^ 63) (hk : k < 63) : (lN s >>> ((nI k).toInt64 &&& 63)) &&& lN 1 = lN ((s.testBit k).toNat) := by
  have h2 : s / 2 ^ k ≤ s := Nat.div_le_self _ _
  rw [shr_N hs hk, ← lN_one, wb_a1 (by omega), Nat.testBit_eq_decide_div_mod_eq]
  congr 1
  rcases Nat.mod_two_eq_zero_or_one (s / 2 ^ k) with e | e <;> simp [e]
theorem b2i_dt {p : Prop} [Decidable p] (h : p) : nI 1 = b2i (decide p) := by rw [decide_eq_true h]; rfl
theorem b2i_df {p : Prop} [Decidable p] (h : ¬ p) : nI 0 = b2i (decide p) := by rw [decide_eq_false h]; rfl
theorem b2i_bt {b : Bool} (h : b = true) : nI 1 = b2i b := by rw [h]; rfl
theorem b2i_bf {b : Bool} (h : b = false) : nI 0 = b2i b := by rw [h]; rfl
theorem hasI {s k : Nat} (hs : s < 2 ^ 31) (hk : k < 31) : (nI s >>> (nI k &&& 31)) &&& nI 1 = b2i (s.testBit k) := by
  rw [pk_shrN hs _ k (s_l k (by omega))]
  rw [pk_andN (show s / 2 ^ k < 2 ^ 32 from Nat.lt_of_le_of_lt (Nat.div_le_self _ _) (by omega)) (m := nI 1) 1 (by decide +kernel), Nat.testBit_eq_decide_div_mod_eq]
  rcases Nat.mod_two_eq_zero_or_one (s / 2 ^ k) with e | e <;> simp [e] <;> rfl
theorem b2i_n (b : Bool) : b2i b = nI b.toNat := by cases b <;> rfl
theorem b2i_eq (a b : Bool) : b2i a = b2i b ↔ a = b := by cases a <;> cases b <;> decide
end
section
/-! THE WORLD OF THE DOCUMENT, AS NUMBERS -/
/-- or, and counts over the first n -/
def orf (f : Nat → Nat) : Nat → Nat
  | 0 => 0
  | n + 1 => orf f n ||| f n
def ctf (f : Nat → Bool) : Nat → Nat
  | 0 => 0
  | n + 1 => ctf f n + (if f n then 1 else 0)
theorem ctf_le (f : Nat → Bool) : ∀ n, ctf f n ≤ n
  | 0 => Nat.le_refl _
  | n + 1 => by have := ctf_le f n; simp only [ctf]; split <;> omega
theorem orf_lt {f : Nat → Nat} {k : Nat} (hf : ∀ i, f i < 2 ^ k) : ∀ n, orf f n < 2 ^ k
  | 0 => Nat.two_pow_pos k
  | n + 1 => Nat.or_lt_two_pow (orf_lt hf n) (hf n)
theorem orf_lt' {f : Nat → Nat} {k : Nat} : ∀ n, (∀ i, i < n → f i < 2 ^ k) → orf f n < 2 ^ k
  | 0, _ => Nat.two_pow_pos k
  | n + 1, hf => Nat.or_lt_two_pow (orf_lt' n (fun i hi => hf i (by omega))) (hf n (by omega))
theorem orf_cong {f g : Nat → Nat} : ∀ {n : Nat}, (∀ i, i < n → f i = g i) → orf f n = orf g n
  | 0, _ => rfl
  | n + 1, h => by rw [orf, orf, orf_cong (fun i hi => h i (by omega)), h n (by omega)]
theorem ctf_cong {f g : Nat → Bool} : ∀ {n : Nat}, (∀ i, i < n → f i = g i) → ctf f n = ctf g n
  | 0, _ => rfl
  | n + 1, h => by rw [ctf, ctf, ctf_cong (fun i hi => h i (by omega)), h n (by omega)]
theorem orf_tb (f : Nat → Nat) (k : Nat) : ∀ n, (orf f n).testBit k = true ↔ ∃ i, i < n ∧ (f i).testBit k = true
  | 0 => by simp [orf]
  | n + 1 => by
    rw [orf, Nat.testBit_or, Bool.or_eq_true, orf_tb f k n]
    constructor
    · rintro (⟨i, h1, h2⟩ | h)
      · exact ⟨i, by omega, h2⟩
      · exact ⟨n, by omega, h⟩
    · rintro ⟨i, h1, h2⟩
      by_cases e : i = n
      · subst e; exact Or.inr h2
      · exact Or.inl ⟨i, by omega, h2⟩
/-- a without b -/
def andn (a b : Nat) : Nat := a ^^^ (a &&& b)
theorem andn_tb (a b i : Nat) : (andn a b).testBit i = (a.testBit i && !b.testBit i) := by
  unfold andn
  rw [Nat.testBit_xor, Nat.testBit_and]
  cases a.testBit i <;> cases b.testBit i <;> rfl
theorem andn_lt {a b k : Nat} (h : a < 2 ^ k) : andn a b < 2 ^ k := Nat.xor_lt_two_pow h (Nat.lt_of_le_of_lt Nat.and_le_left h)
theorem lN_andn (a b : Nat) : lN a &&& (lN b ^^^ (-1)) = lN (andn a b) := by
  rw [lN_m1, fb_xorL, fb_andL]
  apply wb_inj
  show BitVec.ofNat 64 _ = BitVec.ofNat 64 _
  apply BitVec.eq_of_getLsbD_eq
  intro i hi
  simp only [BitVec.getLsbD_ofNat, hi, decide_true, Bool.true_and, Nat.testBit_and, Nat.testBit_xor, andn_tb, Nat.testBit_two_pow_sub_one]
  cases a.testBit i <;> cases b.testBit i <;> rfl
/-- how many bits -/
def pcnt (n : Nat) : Nat := if h : n = 0 then 0 else n % 2 + pcnt (n / 2)
termination_by n
decreasing_by omega
theorem pcnt_0 : pcnt 0 = 0 := by unfold pcnt; simp
theorem pcnt_eq (n : Nat) : pcnt n = n % 2 + pcnt (n / 2) := by
  by_cases h : n = 0
  · subst h; simp [pcnt_0]
  · rw [pcnt]; simp [h]
theorem pcnt_dbl (n : Nat) : pcnt (2 * n) = pcnt n := by
  rw [pcnt_eq]
  rw [show 2 * n % 2 = 0 by omega, show 2 * n / 2 = n by omega, Nat.zero_add]
theorem pcnt_odd (n : Nat) : pcnt (2 * n + 1) = pcnt n + 1 := by
  rw [pcnt_eq]
  rw [show (2 * n + 1) % 2 = 1 by omega, show (2 * n + 1) / 2 = n by omega, Nat.add_comm]
theorem pcnt_pos {n : Nat} (h : n ≠ 0) : 0 < pcnt n := by
  induction n using Nat.strongRecOn with
  | _ n ih =>
    rcases Nat.mod_two_eq_zero_or_one n with e | e
    · obtain ⟨m, rfl⟩ : ∃ m, n = 2 * m := ⟨n / 2, by omega⟩
      rw [pcnt_dbl]
      exact ih m (by omega) (by omega)
    · obtain ⟨m, rfl⟩ : ∃ m, n = 2 * m + 1 := ⟨n / 2, by omega⟩
      rw [pcnt_odd]; omega
theorem and_dbl (a b x y : Nat) (hx : x < 2) (hy : y < 2) : (2 * a + x) &&& (2 * b + y) = 2 * (a &&& b) + x * y := by
  have hx : x = 0 ∨ x = 1 := by omega
  have hy : y = 0 ∨ y = 1 := by omega
  apply Nat.eq_of_testBit_eq
  intro i
  rw [Nat.testBit_and]
  cases i with
  | zero =>
    simp only [Nat.testBit_zero]
    rcases hx with rfl | rfl <;> rcases hy with rfl | rfl <;> simp <;> omega
  | succ j =>
    simp only [Nat.testBit_succ]
    rw [show (2 * a + x) / 2 = a by omega, show (2 * b + y) / 2 = b by omega, ← Nat.testBit_and]
    congr 1
    rcases hx with rfl | rfl <;> rcases hy with rfl | rfl <;> omega
theorem pcnt_drop {n : Nat} (h : n ≠ 0) : pcnt (n &&& (n - 1)) + 1 = pcnt n := by
  induction n using Nat.strongRecOn with
  | _ n ih =>
    rcases Nat.mod_two_eq_zero_or_one n with e | e
    · obtain ⟨m, rfl⟩ : ∃ m, n = 2 * m := ⟨n / 2, by omega⟩
      have hm : m ≠ 0 := by omega
      have h1 := and_dbl m (m - 1) 0 1 (by omega) (by omega)
      rw [show 2 * m - 1 = 2 * (m - 1) + 1 by omega, show 2 * m = 2 * m + 0 by omega, h1]
      rw [show 2 * (m &&& (m - 1)) + 0 * 1 = 2 * (m &&& (m - 1)) by omega, show 2 * m + 0 = 2 * m by omega, pcnt_dbl, pcnt_dbl]
      exact ih m (by omega) hm
    · obtain ⟨m, rfl⟩ : ∃ m, n = 2 * m + 1 := ⟨n / 2, by omega⟩
      have h1 := and_dbl m m 1 0 (by omega) (by omega)
      rw [show 2 * m + 1 - 1 = 2 * m + 0 by omega, h1]
      rw [show 2 * (m &&& m) + 1 * 0 = 2 * (m &&& m) by omega, Nat.and_self, pcnt_dbl, pcnt_odd]
theorem and_pred_lt {n : Nat} (h : n ≠ 0) : n &&& (n - 1) < n := Nat.lt_of_le_of_lt Nat.and_le_right (by omega)
theorem pcnt_le {n k : Nat} (h : n < 2 ^ k) : pcnt n ≤ k := by
  induction k generalizing n with
  | zero => have : n = 0 := by omega
            subst this; rw [pcnt_0]; omega
  | succ k ih =>
    rw [pcnt_eq]
    have := ih (n := n / 2) (by rw [Nat.pow_succ] at h; omega)
    omega
def val (a b x : Nat) : Nat := (a * x + b) % 37
theorem val_lt (a b x : Nat) : val a b x < 37 := Nat.mod_lt _ (by omega)
/-- places of a set by a law -/
def plBy (a b m s : Nat) : Nat := orf (fun x => if s.testBit x then 2 ^ (val a b x % m) else 0) 32
/-- how many keys not of the set have places of it -/
def flBy (a b m s : Nat) : Nat := ctf (fun x => !s.testBit x && (plBy a b m s).testBit (val a b x % m)) 32
theorem pl_lt {m : Nat} (v : Nat) (hm : 0 < m) (hm2 : m ≤ 32) : 2 ^ (v % m) < 2 ^ 32 := wb_lt2 (by have := Nat.mod_lt v hm; omega)
theorem plBy_lt {a b m s : Nat} (hm : 0 < m) (hm2 : m ≤ 32) : plBy a b m s < 2 ^ 32 := orf_lt (fun i => by split; exact pl_lt _ hm hm2; omega) 32
theorem flBy_le (a b m s : Nat) : flBy a b m s ≤ 32 := ctf_le _ _
end
section
/-! THE REFERENCE'S CELLS: A its rows of ints (A 0: laws, books, takenMany), B its rows of longs (B 0: h) -/
abbrev sn_X5 : Type := va_E × va_E × va_E × va_E × va_E
abbrev sn_A2 : Type := Nat → Nat → Int32
abbrev sn_B2 : Type := Nat → Nat → Int64
def mfs (A : sn_A2) (B : sn_B2) : List Value := [.int (A 0 0), .ref 6, .ref 7, .int (A 0 1), .ref 8, .ref 9, .ref 10, .ref 11, .ref 12, .ref 13, .ref 14, .ref 15, .int (A 0 2), .ref 16, .ref 17, .ref 18, .ref 19, .ref 20, .ref 21, .ref 22, .ref 23, .ref 24, .ref 25, .ref 26, .long (B 0 0)]
def hp (x : sn_X5) (A : sn_A2) (B : sn_B2) (t : sn_H) : sn_H := x.1 :: x.2.1 :: x.2.2.1 :: x.2.2.2.1 :: x.2.2.2.2 :: .inr (1, mfs A B) :: .inl (0, 8, .inl (A 6)) :: .inl (0, 8, .inl (A 7)) :: .inl (0, 8, .inl (A 8)) :: .inl (0, 8, .inl (A 9)) :: .inl (0, 8, .inl (A 10)) :: .inl (0, 256, .inl (A 11)) :: .inl (0, 256, .inl (A 12)) :: .inl (0, 8, .inl (A 13)) :: .inl (1, 48, .inr (.inl (B 14))) :: .inl (0, 32, .inl (A 15)) :: .inl (0, 32, .inl (A 16)) :: .inl (0, 32, .inl (A 17)) :: .inl (1, 7, .inr (.inl (B 18))) :: .inl (1, 32, .inr (.inl (B 19))) :: .inl (2, 4096, .inl (A 20)) :: .inl (1, 4096, .inr (.inl (B 21))) :: .inl (0, 32, .inl (A 22)) :: .inl (0, 6, .inl (A 23)) :: .inl (0, 6, .inl (A 24)) :: .inl (0, 32, .inl (A 25)) :: .inl (0, 32, .inl (A 26)) :: t
def uA (A : sn_A2) (a : Nat) (f : Nat → Int32) : sn_A2 := fun b => bif Nat.beq b a then f else A b
def uB (B : sn_B2) (a : Nat) (f : Nat → Int64) : sn_B2 := fun b => bif Nat.beq b a then f else B b
theorem uA_s (A : sn_A2) (a : Nat) (f : Nat → Int32) : uA A a f a = f := by simp [uA]
theorem uB_s (B : sn_B2) (a : Nat) (f : Nat → Int64) : uB B a f a = f := by simp [uB]
theorem uA_n (A : sn_A2) {a b : Nat} (f : Nat → Int32) (h : Nat.beq b a = false) : uA A a f b = A b := by unfold uA; rw [h]; rfl
theorem uB_n (B : sn_B2) {a b : Nat} (f : Nat → Int64) (h : Nat.beq b a = false) : uB B a f b = B b := by unfold uB; rw [h]; rfl
theorem uA_u (A : sn_A2) (a : Nat) (f g : Nat → Int32) : uA (uA A a f) a g = uA A a g := by
  funext b; unfold uA; cases Nat.beq b a <;> rfl
theorem uB_u (B : sn_B2) (a : Nat) (f g : Nat → Int64) : uB (uB B a f) a g = uB B a g := by
  funext b; unfold uB; cases Nat.beq b a <;> rfl
theorem uA_id (A : sn_A2) (a : Nat) : uA A a (A a) = A := by
  funext b; unfold uA
  cases h : Nat.beq b a with
  | true => rw [Nat.eq_of_beq_eq_true h]; rfl
  | false => rfl
theorem uB_id (B : sn_B2) (a : Nat) : uB B a (B a) = B := by
  funext b; unfold uB
  cases h : Nat.beq b a with
  | true => rw [Nat.eq_of_beq_eq_true h]; rfl
  | false => rfl
section HP
variable {x : sn_X5} {A : sn_A2} {B : sn_B2} {t : sn_H}
theorem hp_5 : (hp x A B t)[5]? = some (.inr (1, mfs A B)) := rfl
theorem hp_6 : (hp x A B t)[6]? = some (.inl (0, 8, .inl (A 6))) := rfl
theorem hps_6 (f : Nat → Int32) : (hp x A B t).set 6 (.inl (0, 8, .inl (f))) = hp x (uA A 6 f) B t := rfl
theorem hp_7 : (hp x A B t)[7]? = some (.inl (0, 8, .inl (A 7))) := rfl
theorem hps_7 (f : Nat → Int32) : (hp x A B t).set 7 (.inl (0, 8, .inl (f))) = hp x (uA A 7 f) B t := rfl
theorem hp_8 : (hp x A B t)[8]? = some (.inl (0, 8, .inl (A 8))) := rfl
theorem hps_8 (f : Nat → Int32) : (hp x A B t).set 8 (.inl (0, 8, .inl (f))) = hp x (uA A 8 f) B t := rfl
theorem hp_9 : (hp x A B t)[9]? = some (.inl (0, 8, .inl (A 9))) := rfl
theorem hps_9 (f : Nat → Int32) : (hp x A B t).set 9 (.inl (0, 8, .inl (f))) = hp x (uA A 9 f) B t := rfl
theorem hp_10 : (hp x A B t)[10]? = some (.inl (0, 8, .inl (A 10))) := rfl
theorem hps_10 (f : Nat → Int32) : (hp x A B t).set 10 (.inl (0, 8, .inl (f))) = hp x (uA A 10 f) B t := rfl
theorem hp_11 : (hp x A B t)[11]? = some (.inl (0, 256, .inl (A 11))) := rfl
theorem hps_11 (f : Nat → Int32) : (hp x A B t).set 11 (.inl (0, 256, .inl (f))) = hp x (uA A 11 f) B t := rfl
theorem hp_12 : (hp x A B t)[12]? = some (.inl (0, 256, .inl (A 12))) := rfl
theorem hps_12 (f : Nat → Int32) : (hp x A B t).set 12 (.inl (0, 256, .inl (f))) = hp x (uA A 12 f) B t := rfl
theorem hp_13 : (hp x A B t)[13]? = some (.inl (0, 8, .inl (A 13))) := rfl
theorem hps_13 (f : Nat → Int32) : (hp x A B t).set 13 (.inl (0, 8, .inl (f))) = hp x (uA A 13 f) B t := rfl
theorem hp_14 : (hp x A B t)[14]? = some (.inl (1, 48, .inr (.inl (B 14)))) := rfl
theorem hps_14 (f : Nat → Int64) : (hp x A B t).set 14 (.inl (1, 48, .inr (.inl (f)))) = hp x A (uB B 14 f) t := rfl
theorem hp_15 : (hp x A B t)[15]? = some (.inl (0, 32, .inl (A 15))) := rfl
theorem hps_15 (f : Nat → Int32) : (hp x A B t).set 15 (.inl (0, 32, .inl (f))) = hp x (uA A 15 f) B t := rfl
theorem hp_16 : (hp x A B t)[16]? = some (.inl (0, 32, .inl (A 16))) := rfl
theorem hps_16 (f : Nat → Int32) : (hp x A B t).set 16 (.inl (0, 32, .inl (f))) = hp x (uA A 16 f) B t := rfl
theorem hp_17 : (hp x A B t)[17]? = some (.inl (0, 32, .inl (A 17))) := rfl
theorem hps_17 (f : Nat → Int32) : (hp x A B t).set 17 (.inl (0, 32, .inl (f))) = hp x (uA A 17 f) B t := rfl
theorem hp_18 : (hp x A B t)[18]? = some (.inl (1, 7, .inr (.inl (B 18)))) := rfl
theorem hps_18 (f : Nat → Int64) : (hp x A B t).set 18 (.inl (1, 7, .inr (.inl (f)))) = hp x A (uB B 18 f) t := rfl
theorem hp_19 : (hp x A B t)[19]? = some (.inl (1, 32, .inr (.inl (B 19)))) := rfl
theorem hps_19 (f : Nat → Int64) : (hp x A B t).set 19 (.inl (1, 32, .inr (.inl (f)))) = hp x A (uB B 19 f) t := rfl
theorem hp_20 : (hp x A B t)[20]? = some (.inl (2, 4096, .inl (A 20))) := rfl
theorem hps_20 (f : Nat → Int32) : (hp x A B t).set 20 (.inl (2, 4096, .inl (f))) = hp x (uA A 20 f) B t := rfl
theorem hp_21 : (hp x A B t)[21]? = some (.inl (1, 4096, .inr (.inl (B 21)))) := rfl
theorem hps_21 (f : Nat → Int64) : (hp x A B t).set 21 (.inl (1, 4096, .inr (.inl (f)))) = hp x A (uB B 21 f) t := rfl
theorem hp_22 : (hp x A B t)[22]? = some (.inl (0, 32, .inl (A 22))) := rfl
theorem hps_22 (f : Nat → Int32) : (hp x A B t).set 22 (.inl (0, 32, .inl (f))) = hp x (uA A 22 f) B t := rfl
theorem hp_23 : (hp x A B t)[23]? = some (.inl (0, 6, .inl (A 23))) := rfl
theorem hps_23 (f : Nat → Int32) : (hp x A B t).set 23 (.inl (0, 6, .inl (f))) = hp x (uA A 23 f) B t := rfl
theorem hp_24 : (hp x A B t)[24]? = some (.inl (0, 6, .inl (A 24))) := rfl
theorem hps_24 (f : Nat → Int32) : (hp x A B t).set 24 (.inl (0, 6, .inl (f))) = hp x (uA A 24 f) B t := rfl
theorem hp_25 : (hp x A B t)[25]? = some (.inl (0, 32, .inl (A 25))) := rfl
theorem hps_25 (f : Nat → Int32) : (hp x A B t).set 25 (.inl (0, 32, .inl (f))) = hp x (uA A 25 f) B t := rfl
theorem hp_26 : (hp x A B t)[26]? = some (.inl (0, 32, .inl (A 26))) := rfl
theorem hps_26 (f : Nat → Int32) : (hp x A B t).set 26 (.inl (0, 32, .inl (f))) = hp x (uA A 26 f) B t := rfl
theorem hps_laws (v : Int32) : (hp x A B t).set 5 (.inr (1, (mfs A B).set 0 (.int v))) = hp x (uA A 0 (upd (A 0) 0 v)) B t := rfl
theorem hps_books (v : Int32) : (hp x A B t).set 5 (.inr (1, (mfs A B).set 3 (.int v))) = hp x (uA A 0 (upd (A 0) 1 v)) B t := rfl
theorem hps_many (v : Int32) : (hp x A B t).set 5 (.inr (1, (mfs A B).set 12 (.int v))) = hp x (uA A 0 (upd (A 0) 2 v)) B t := rfl
theorem hps_h (v : Int64) : (hp x A B t).set 5 (.inr (1, (mfs A B).set 24 (.long v))) = hp x A (uB B 0 (vp_updL (B 0) 0 v)) t := rfl
theorem hp_len : (hp x A B t).length = t.length + 27 := rfl
end HP
end
section
/-! THE REFERENCE: its static rows -/
theorem lin {a b i : Nat} (ha : a ≤ 36) (hb : b ≤ 36) (hi : i < 32) : a * i + b < 2 ^ 31 := by
  have := Nat.mul_le_mul ha (Nat.le_of_lt hi)
  omega
theorem or_step {f : Nat → Nat} {i v : Nat} (h : v = f i) : lN (orf f i) ||| lN v = lN (orf f (i + 1)) := by rw [fb_orL, h]; rfl
theorem ct_step {f : Nat → Bool} {i v : Nat} (h : v = if f i then 1 else 0) : nI (ctf f i) + nI v = nI (ctf f (i + 1)) := by rw [nI_add, h]; rfl
theorem lN_lt32 {s : Nat} (h : s < 2 ^ 32) : s < 2 ^ 63 := by omega
theorem e_M_has (d : Nat) (h : sn_H) {v : Int64} {x : Int32} {s k : Nat} (hv : v = lN s) (hx : x = nI k) (hs : s < 2 ^ 63) (hk : k < 63) : Sp d me_M_has [.long v, .int x] h (some (.int (b2i (s.testBit k)))) h := by
  subst hv; subst hx
  refine Sp.of ok_M_has (b2i_rc _) rfl ?_
  refine Ev.go 6 rfl ?_
  refine Ev.lne rfl rfl (has_N hs hk) rfl (by cases s.testBit k <;> decide) (by omega) (fun c6 => ?_) (fun c6 => ?_)
  · refine Ev.go 1 rfl ?_
    exact Ev.reti rfl (by cases hb : s.testBit k <;> simp [hb, b2i_t, b2i_f] at c6 ⊢)
  refine Ev.go 2 rfl ?_
  exact Ev.reti rfl (by cases hb : s.testBit k <;> simp [hb, b2i_t, b2i_f] at c6 ⊢)
theorem e_M_within (d : Nat) (h : sn_H) (v lo hi : Int64) : Sp d me_M_within [.long v, .long lo, .long hi] h (some (.int (b2i (decide (lo ≤ v ∧ v ≤ hi))))) h := by
  refine Sp.of ok_M_within (b2i_rc _) rfl ?_
  refine Ev.go 2 rfl ?_
  refine Ev.rlt rfl rfl (fun c2 => ?_) (fun c2 => ?_)
  · refine Ev.go 1 rfl ?_
    exact Ev.reti rfl (by first | exact b2i_dt (by simp only [Int64.le_iff_toInt_le, Int64.lt_iff_toInt_lt] at *; omega) | exact b2i_df (by simp only [Int64.le_iff_toInt_le, Int64.lt_iff_toInt_lt] at *; omega))
  refine Ev.go 2 rfl ?_
  refine Ev.rgt rfl rfl (fun c9 => ?_) (fun c9 => ?_)
  · refine Ev.go 1 rfl ?_
    exact Ev.reti rfl (by first | exact b2i_dt (by simp only [Int64.le_iff_toInt_le, Int64.lt_iff_toInt_lt] at *; omega) | exact b2i_df (by simp only [Int64.le_iff_toInt_le, Int64.lt_iff_toInt_lt] at *; omega))
  refine Ev.go 2 rfl ?_
  exact Ev.reti rfl (by first | exact b2i_dt (by simp only [Int64.le_iff_toInt_le, Int64.lt_iff_toInt_lt] at *; omega) | exact b2i_df (by simp only [Int64.le_iff_toInt_le, Int64.lt_iff_toInt_lt] at *; omega))
theorem e_M_ones (d : Nat) (h : sn_H) {v : Int64} {s : Nat} (hv : v = lN s) (hs : s < 2 ^ 32) : Sp d me_M_ones [.long v] h (some (.int (nI (pcnt s)))) h := by
  subst hv
  refine Sp.of ok_M_ones trivial rfl ?_
  refine Ev.go 4 rfl ?_
  have L : ∀ (n : Nat) (c : Nat) (m : Nat) (mv : Int32) (cv : Int64), c ≤ n → c < 2 ^ 32 → m + pcnt c = pcnt s → mv = nI m → cv = lN c → Ev o0 d me_M_ones 4 [.long (lN s), .retAddr 0, .int mv, .long cv, .retAddr 0] [] h (some (.int (nI (pcnt s)))) h := by
    intro n
    induction n using Nat.strongRecOn with
    | _ n ih =>
      intro c m mv cv h1 h2 h3 h4 h5
      subst h4
      subst h5
      refine Ev.go 2 rfl ?_
      refine Ev.leq rfl rfl rfl rfl (by omega) (by omega) (fun c6 => ?_) (fun c6 => ?_)
      · refine Ev.go 1 rfl ?_
        exact Ev.reti rfl (by subst c6; rw [← h3, pcnt_0]; rfl)
      refine Ev.go 8 rfl ?_
      exact ih (c &&& (c - 1)) (by have := and_pred_lt c6; omega) _ (m + 1) _ _ (Nat.le_refl _) (by have := and_pred_lt c6; omega) (by have := pcnt_drop c6; omega) (by rw [nI_add]) (by rw [lN_sub (by omega), fb_andL])
  exact L s s 0 _ _ (Nat.le_refl _) hs (by omega) rfl rfl
theorem e_M_placesBy (d : Nat) (h : sn_H) {av bv mv : Int32} {sv : Int64} {a b m s : Nat} (e1 : av = nI a) (e2 : bv = nI b) (e3 : mv = nI m) (e4 : sv = lN s) (ha : a ≤ 36) (hb : b ≤ 36) (hm : 2 ≤ m) (hm2 : m ≤ 32) (hs : s < 2 ^ 32) : Sp (d + 1) me_M_placesBy [.int av, .int bv, .int mv, .long sv] h (some (.long (lN (plBy a b m s)))) h := by
  subst e1; subst e2; subst e3; subst e4
  refine Sp.of ok_M_placesBy trivial rfl ?_
  refine Ev.go 4 rfl ?_
  have L : ∀ (n : Nat) (i : Nat) (bv : Int64) (xv : Int32), i + n = 32 → bv = lN (orf (fun x => if s.testBit x then 2 ^ (val a b x % m) else 0) i) → xv = nI i → Ev o0 (d + 1) me_M_placesBy 6 [.int (nI a), .int (nI b), .int (nI m), .long (lN s), .retAddr 0, .long bv, .retAddr 0, .int xv] [] h (some (.long (lN (plBy a b m s)))) h := by
    intro n
    induction n using Nat.strongRecOn with
    | _ n ih =>
      intro i bv xv h1 h2 h3
      subst h2
      subst h3
      refine Ev.go 2 rfl ?_
      refine Ev.ige rfl rfl rfl (by omega) (by omega) (fun c10 => ?_) (fun c10 => ?_)
      · refine Ev.go 1 rfl ?_
        exact Ev.retl rfl (by rw [show i = 32 by omega]; rfl)
      refine Ev.go 3 rfl ?_
      refine Ev.cs (E' := me_M_has) rfl mk_M_has ls_1_100 rfl rfl (e_M_has d h rfl rfl (by omega) (by omega)) ?_
      refine Ev.zb rfl rfl (fun c21 => ?_) (fun c21 => ?_)
      · refine Ev.go 5 rfl ?_
        exact ih (n - 1) (by omega) (i + 1) _ _ (by omega) (or_step (by simp [c21])) (by rw [nI_add])
      refine Ev.go 7 rfl ?_
      refine Ev.rm rfl (by rw [pk_mul, nI_add]) rfl (lin ha hb (by omega)) (by omega) (by omega) ?_
      refine Ev.go 1 rfl ?_
      refine Ev.rm rfl rfl rfl (by omega) (by omega) (by omega) ?_
      refine Ev.go 2 rfl ?_
      refine Ev.go 4 rfl ?_
      exact ih (n - 1) (by omega) (i + 1) _ _ (by omega) (by rw [sh1 (by have := Nat.mod_lt ((a * i + b) % 37) (show 0 < m by omega); omega)]; exact or_step (by simp [c21, val])) (by rw [nI_add])
  exact L 32 0 _ _ rfl rfl rfl
theorem e_M_falseBy (d : Nat) (h : sn_H) {av bv mv : Int32} {sv : Int64} {a b m s : Nat} (e1 : av = nI a) (e2 : bv = nI b) (e3 : mv = nI m) (e4 : sv = lN s) (ha : a ≤ 36) (hb : b ≤ 36) (hm : 2 ≤ m) (hm2 : m ≤ 32) (hs : s < 2 ^ 32) : Sp (d + 2) me_M_falseBy [.int av, .int bv, .int mv, .long sv] h (some (.int (nI (flBy a b m s)))) h := by
  subst e1; subst e2; subst e3; subst e4
  refine Sp.of ok_M_falseBy trivial rfl ?_
  have hp := plBy_lt (a := a) (b := b) (s := s) (show 0 < m by omega) hm2
  refine Ev.go 4 rfl ?_
  refine Ev.cs (E' := me_M_placesBy) rfl mk_M_placesBy ls_1_104 rfl rfl (e_M_placesBy d h rfl rfl rfl rfl ha hb hm hm2 hs) ?_
  refine Ev.go 5 rfl ?_
  skip
  have L : ∀ (n : Nat) (i : Nat) (cv : Int32) (xv : Int32), i + n = 32 → cv = nI (ctf (fun x => !s.testBit x && (plBy a b m s).testBit (val a b x % m)) i) → xv = nI i → Ev o0 (d + 2) me_M_falseBy 15 [.int (nI a), .int (nI b), .int (nI m), .long (lN s), .retAddr 0, .long (lN (plBy a b m s)), .retAddr 0, .int cv, .int xv] [] h (some (.int (nI (flBy a b m s)))) h := by
    intro n
    induction n using Nat.strongRecOn with
    | _ n ih =>
      intro i cv xv h1 h2 h3
      subst h2
      subst h3
      refine Ev.go 2 rfl ?_
      refine Ev.ige rfl rfl rfl (by omega) (by omega) (fun c19 => ?_) (fun c19 => ?_)
      · refine Ev.go 1 rfl ?_
        exact Ev.reti rfl (by rw [show i = 32 by omega]; rfl)
      refine Ev.go 3 rfl ?_
      refine Ev.cs (E' := me_M_has) rfl mk_M_has ls_1_100 rfl rfl (e_M_has (d + 1) h rfl rfl (by omega) (by omega)) ?_
      refine Ev.zn rfl rfl (fun c30 => ?_) (fun c30 => ?_)
      · refine Ev.go 5 rfl ?_
        exact ih (n - 1) (by omega) (i + 1) _ _ (by omega) (ct_step (by simp [c30, val])) (by rw [nI_add])
      refine Ev.go 7 rfl ?_
      refine Ev.rm rfl (by rw [pk_mul, nI_add]) rfl (lin ha hb (by omega)) (by omega) (by omega) ?_
      refine Ev.go 1 rfl ?_
      refine Ev.rm rfl rfl rfl (by omega) (by omega) (by omega) ?_
      refine Ev.cs (E' := me_M_has) rfl mk_M_has ls_1_100 rfl rfl (e_M_has (d + 1) h rfl rfl (by omega) (by have := Nat.mod_lt ((a * i + b) % 37) (show 0 < m by omega); omega)) ?_
      refine Ev.zb rfl rfl (fun c49 => ?_) (fun c49 => ?_)
      · refine Ev.go 5 rfl ?_
        exact ih (n - 1) (by omega) (i + 1) _ _ (by omega) (ct_step (by simp [c30, c49, val])) (by rw [nI_add])
      refine Ev.go 2 rfl ?_
      refine Ev.go 4 rfl ?_
      exact ih (n - 1) (by omega) (i + 1) _ _ (by omega) (ct_step (by simp [c30, c49, val])) (by rw [nI_add])
  exact L 32 0 _ _ rfl rfl rfl
theorem e_M_markOf (d : Nat) (h : sn_H) {v : Int32} {n : Nat} (hv : v = nI n) (hn : n < 37) : Sp d me_M_markOf [.int v] h (some (.int (nI (n % 7 + 1)))) h := by
  subst hv
  refine Sp.of ok_M_markOf trivial rfl ?_
  refine Ev.go 2 rfl ?_
  refine Ev.rm rfl rfl rfl (by omega) (by omega) (by omega) ?_
  refine Ev.go 2 rfl ?_
  exact Ev.reti rfl (by rw [nI_add])
theorem e_M_chosen (d : Nat) (h : sn_H) {x y z : Int32} {a b : Nat} {l : Bool} (e1 : x = nI a) (e2 : y = nI b) (e3 : z = b2i l) (ha : a < 2 ^ 31) (hb : b < 2 ^ 31) : Sp d me_M_chosen [.int x, .int y, .int z] h (some (.int (nI (if l then min a b else max a b)))) h := by
  subst e1; subst e2; subst e3
  refine Sp.of ok_M_chosen trivial rfl ?_
  refine Ev.go 2 rfl ?_
  refine Ev.ige rfl rfl rfl (by omega) (by omega) (fun c2 => ?_) (fun c2 => ?_)
  · refine Ev.go 2 rfl ?_
    refine Ev.brn rfl rfl (fun c11 => ?_) (fun c11 => ?_)
    · refine Ev.go 1 rfl ?_
      exact Ev.reti rfl (by cases l <;> first | (exact absurd rfl c11) | (exact absurd c11 (by decide)) | (congr 1; simp; omega))
    refine Ev.go 2 rfl ?_
    exact Ev.reti rfl (by cases l <;> first | (exact absurd rfl c11) | (exact absurd c11 (by decide)) | (congr 1; simp; omega))
  refine Ev.go 2 rfl ?_
  refine Ev.go 1 rfl ?_
  refine Ev.brn rfl rfl (fun c11 => ?_) (fun c11 => ?_)
  · refine Ev.go 1 rfl ?_
    exact Ev.reti rfl (by cases l <;> first | (exact absurd rfl c11) | (exact absurd c11 (by decide)) | (congr 1; simp; omega))
  refine Ev.go 2 rfl ?_
  exact Ev.reti rfl (by cases l <;> first | (exact absurd rfl c11) | (exact absurd c11 (by decide)) | (congr 1; simp; omega))
theorem e_M_isKey (d : Nat) (h : sn_H) (x : Int32) : Sp (d + 1) me_M_isKey [.int x] h (some (.int (b2i (decide (0 ≤ x.toInt ∧ x.toInt < 32))))) h := by
  refine Sp.of ok_M_isKey (b2i_rc _) rfl ?_
  refine Ev.go 4 rfl ?_
  refine Ev.cs (E' := me_M_within) rfl mk_M_within ls_1_77 rfl rfl (e_M_within d h _ _ _) ?_
  exact Ev.reti rfl (by congr 1; apply decide_eq_decide.mpr; simp only [Int64.le_iff_toInt_le]; rw [show (31 : Int64).toInt = 31 from rfl, show (lN 0).toInt = 0 from rfl, Int32.toInt_toInt64]; omega)
theorem e_M_isSet (d : Nat) (h : sn_H) (x : Int64) : Sp (d + 1) me_M_isSet [.long x] h (some (.int (b2i (decide (0 ≤ x.toInt ∧ x.toInt < 4294967296))))) h := by
  refine Sp.of ok_M_isSet (b2i_rc _) rfl ?_
  refine Ev.go 3 rfl ?_
  refine Ev.cs (E' := me_M_within) rfl mk_M_within ls_1_77 rfl rfl (e_M_within d h _ _ _) ?_
  exact Ev.reti rfl (by congr 1; apply decide_eq_decide.mpr; simp only [Int64.le_iff_toInt_le]; rw [show (4294967295 : Int64).toInt = 4294967295 from rfl, show (lN 0).toInt = 0 from rfl]; omega)
end
section
/-! THE WORLD: laws and books as numbers -/
theorem pcnt_ct {n : Nat} : ∀ {k : Nat}, n < 2 ^ k → pcnt n = ctf (fun i => n.testBit i) k := by
  have aux : ∀ (k n : Nat), n < 2 ^ k → ∀ m, ctf (fun i => n.testBit i) (m + 1) = n % 2 + ctf (fun i => (n / 2).testBit i) m := by
    intro k n _ m
    induction m with
    | zero =>
      simp only [ctf, Nat.testBit_zero]
      rcases Nat.mod_two_eq_zero_or_one n with e | e <;> simp [e]
    | succ m ih =>
      rw [ctf, ih, ctf, Nat.testBit_succ]
      omega
  intro k
  induction k generalizing n with
  | zero =>
    intro h
    have : n = 0 := by omega
    subst this
    rw [pcnt_0]; rfl
  | succ k ih =>
    intro h
    rw [pcnt_eq, aux (k + 1) n h k, ih (n := n / 2) (by rw [Nat.pow_succ] at h; omega)]
/-- the number of the j-th law of bits -/
def nthF (b : Nat) : Nat → Nat → Nat → Nat
  | 0, l, _ => l
  | n + 1, l, s => if b.testBit l = false ∨ 0 < s then nthF b n (l + 1) (s - (b.testBit l).toNat) else l
def nth (b j : Nat) : Nat := nthF b 8 0 j
theorem nth_ok0 : ∀ b, b < 256 → ∀ j, j < 3 → j < ctf (fun i => b.testBit i) 8 → nth b j < 8 ∧ b.testBit (nth b j) = true ∧ ctf (fun i => b.testBit i) (nth b j) = j := by decide +kernel
theorem nth_ok {b j : Nat} (hb : b < 256) (hj : j < pcnt b) (hp : pcnt b ≤ 3) : nth b j < 8 ∧ b.testBit (nth b j) = true ∧ ctf (fun i => b.testBit i) (nth b j) = j :=
  nth_ok0 b hb j (by omega) (by rw [← pcnt_ct (k := 8) hb]; exact hj)
/-- a book: kind, places, laws as bits, numbers, how often a key is really there, how many rows, rows -/
abbrev sn_Bk : Type := Nat × Nat × Nat × (Nat → Nat) × (Nat → Nat) × Nat × (Nat → Nat)
def bk (b : sn_Bk) : Nat := b.1
def bm (b : sn_Bk) : Nat := b.2.1
def bl (b : sn_Bk) : Nat := b.2.2.1
def bn (b : sn_Bk) : Nat → Nat := b.2.2.2.1
def bt (b : sn_Bk) : Nat → Nat := b.2.2.2.2.1
def bc (b : sn_Bk) : Nat := b.2.2.2.2.2.1
def br (b : sn_Bk) : Nat → Nat := b.2.2.2.2.2.2
/-- laws: how many, A, B -/
abbrev sn_Lw : Type := Nat × (Nat → Nat) × (Nat → Nat)
abbrev sn_S : Type := sn_Lw × Nat × (Nat → sn_Bk)
def WL (w : sn_Lw) : Prop := w.1 ≤ 8 ∧ ∀ l, l < w.1 → 1 ≤ w.2.1 l ∧ w.2.1 l ≤ 36 ∧ w.2.2 l ≤ 36
def WB (n : Nat) (b : sn_Bk) : Prop := bk b ≤ 5 ∧ (2 ≤ bm b ∧ bm b ≤ 32) ∧ (bk b = 4 → 3 ≤ bm b) ∧ bl b < 2 ^ n ∧ (1 ≤ pcnt (bl b) ∧ pcnt (bl b) ≤ 3) ∧ (bk b = 3 → pcnt (bl b) = 2) ∧ (bk b = 4 → pcnt (bl b) = 3) ∧ (∀ i, bn b i ≤ 7) ∧ (∀ i, bm b ≤ i → bn b i = 0) ∧ (∀ x, bt b x ≤ 99) ∧ bc b ≤ 6 ∧ (∀ i, br b i < 2 ^ 32)
/-- the value of key x by the j-th law of a book -/
def vl (w : sn_Lw) (b : sn_Bk) (j x : Nat) : Nat := val (w.2.1 (nth (bl b) j)) (w.2.2 (nth (bl b) j)) x
def prt (b : sn_Bk) : Nat := max 1 (bm b / pcnt (bl b))
def plc (w : sn_Lw) (b : sn_Bk) (j x : Nat) : Nat := if bk b = 2 ∨ bk b = 4 then (j * prt b + vl w b j x % prt b) % bm b else vl w b j x % bm b
def frs (w : sn_Lw) (b : sn_Bk) (x : Nat) : Nat := vl w b 0 x % bm b
def mrk (w : sn_Lw) (b : sn_Bk) (j x : Nat) : Nat := vl w b j x % 7 + 1
def oth (m p f : Nat) : Nat := (5 * f + m - p) % m
def pls (w : sn_Lw) (b : sn_Bk) (x : Nat) : Nat := if bk b = 3 then 2 ^ frs w b x ||| 2 ^ oth (bm b) (frs w b x) (mrk w b 1 x) else orf (fun j => 2 ^ plc w b j x) (pcnt (bl b))
def fil (b : sn_Bk) : Nat := orf (fun i => if 0 < bn b i then 2 ^ i else 0) (bm b)
def rin (b : sn_Bk) : Nat := orf (fun x => if 0 < bt b x then 2 ^ x else 0) 32
def nab (b : sn_Bk) : Nat := ctf (fun i => decide (0 < bn b i)) (bm b)
def tog (w : sn_Lw) (b : sn_Bk) (x : Nat) : Nat := bn b (plc w b 0 x) ^^^ bn b (plc w b 1 x) ^^^ bn b (plc w b 2 x)
def lpl (w : sn_Lw) (b : sn_Bk) (r x : Nat) : Nat := vl w b (r % pcnt (bl b)) x % bm b
/-- the first row, from i on, that has the key's place not -/
def lyr (w : sn_Lw) (b : sn_Bk) (x : Nat) : Nat → Nat → Nat
  | 0, i => i
  | n + 1, i => if (br b i).testBit (lpl w b i x) then lyr w b x n (i + 1) else i
def isin (w : sn_Lw) (b : sn_Bk) (x : Nat) : Bool :=
  if bk b = 3 then decide (bn b (frs w b x) = mrk w b 1 x) || decide (bn b (oth (bm b) (frs w b x) (mrk w b 1 x)) = mrk w b 1 x)
  else if bk b = 4 then decide (tog w b x = mrk w b 0 x)
  else if bk b = 5 then decide (lyr w b x (bc b) 0 % 2 = 1)
  else decide (andn (pls w b x) (fil b) = 0)
def ain (w : sn_Lw) (b : sn_Bk) : Nat := orf (fun x => if isin w b x then 2 ^ x else 0) 32
section W
variable {w : sn_Lw} {b : sn_Bk} {n : Nat}
theorem WB.bl256 (h : WB n b) (hn : n ≤ 8) : bl b < 256 := Nat.lt_of_lt_of_le h.2.2.2.1 (Nat.pow_le_pow_right (by omega) hn)
theorem WB.nt (hw : WL w) (h : WB w.1 b) {j : Nat} (hj : j < pcnt (bl b)) : nth (bl b) j < w.1 ∧ w.2.1 (nth (bl b) j) ≤ 36 ∧ w.2.2 (nth (bl b) j) ≤ 36 := by
  obtain ⟨h1, h2, h3⟩ := nth_ok (h.bl256 hw.1) hj h.2.2.2.2.1.2
  have h4 : nth (bl b) j < w.1 := by
    by_cases q : nth (bl b) j < w.1
    · exact q
    · have : bl b < 2 ^ nth (bl b) j := Nat.lt_of_lt_of_le h.2.2.2.1 (Nat.pow_le_pow_right (by omega) (by omega))
      rw [Nat.testBit_lt_two_pow this] at h2
      cases h2
  exact ⟨h4, (hw.2 _ h4).2⟩
theorem vl_lt (j x : Nat) : vl w b j x < 37 := val_lt _ _ _
theorem mrk_le (j x : Nat) : 1 ≤ mrk w b j x ∧ mrk w b j x ≤ 7 := by unfold mrk; omega
theorem plc_lt (h : WB n b) (j x : Nat) : plc w b j x < bm b := by
  have := h.2.1
  unfold plc; split <;> exact Nat.mod_lt _ (by omega)
theorem frs_lt (h : WB n b) (x : Nat) : frs w b x < bm b := Nat.mod_lt _ (by have := h.2.1; omega)
theorem lpl_lt (h : WB n b) (r x : Nat) : lpl w b r x < bm b := Nat.mod_lt _ (by have := h.2.1; omega)
theorem oth_lt {m : Nat} (p f : Nat) (h : 0 < m) : oth m p f < m := Nat.mod_lt _ h
theorem prt_pos : 1 ≤ prt b := Nat.le_max_left _ _
theorem prt_le (h : WB n b) : prt b ≤ 32 := by
  have h1 : bm b / pcnt (bl b) ≤ bm b := Nat.div_le_self _ _
  have := h.2.1
  unfold prt; omega
theorem p2_lt {p m : Nat} (h : p < m) (hm : m ≤ 32) : 2 ^ p < 2 ^ 32 := wb_lt2 (by omega)
theorem pls_lt (h : WB n b) (x : Nat) : pls w b x < 2 ^ 32 := by
  have hm := h.2.1
  unfold pls
  split
  · exact Nat.or_lt_two_pow (p2_lt (frs_lt h x) hm.2) (p2_lt (oth_lt _ _ (by omega)) hm.2)
  · exact orf_lt (fun j => p2_lt (plc_lt h j x) hm.2) _
theorem fil_lt (h : WB n b) : fil b < 2 ^ 32 := by
  have hm := h.2.1
  exact orf_lt' _ (fun i hi => by split; exact p2_lt hi hm.2; omega)
theorem rin_lt (b : sn_Bk) : rin b < 2 ^ 32 := orf_lt' _ (fun i hi => by split; exact p2_lt hi (Nat.le_refl _); omega)
theorem ain_lt (w : sn_Lw) (b : sn_Bk) : ain w b < 2 ^ 32 := orf_lt' _ (fun i hi => by split; exact p2_lt hi (Nat.le_refl _); omega)
theorem nab_le (b : sn_Bk) : nab b ≤ bm b := ctf_le _ _
end W
/-- the reference holds these laws, this book at k -/
def ML (A : sn_A2) (w : sn_Lw) : Prop := A 0 0 = nI w.1 ∧ ∀ l, l < w.1 → A 6 l = nI (w.2.1 l) ∧ A 7 l = nI (w.2.2 l)
def MB (A : sn_A2) (B : sn_B2) (k : Nat) (b : sn_Bk) : Prop := A 8 k = nI (bk b) ∧ A 9 k = nI (bm b) ∧ A 10 k = nI (bl b) ∧ (∀ i, i < 32 → A 11 (32 * k + i) = nI (bn b i)) ∧ (∀ x, x < 32 → A 12 (32 * k + x) = nI (bt b x)) ∧ A 13 k = nI (bc b) ∧ ∀ i, i < bc b → B 14 (6 * k + i) = lN (br b i)
end
section
/-! THE REFERENCE: its rows of books -/
def MK (A : sn_A2) (B : sn_B2) (w : sn_Lw) (k : Nat) (b : sn_Bk) : Prop := WL w ∧ ML A w ∧ WB w.1 b ∧ MB A B k b ∧ k < 8
theorem e_M_valueOf (d : Nat) (x : sn_X5) {A : sn_A2} {B : sn_B2} (t : sn_H) {w : sn_Lw} (hw : WL w) (hL : ML A w) {lv xv : Int32} {l y : Nat} (e1 : lv = nI l) (e2 : xv = nI y) (hl : l < w.1) (hy : y < 32) : Sp d me_M_valueOf [.ref 5, .int lv, .int xv] (hp x A B t) (some (.int (nI (val (w.2.1 l) (w.2.2 l) y)))) (hp x A B t) := by
  subst e1; subst e2
  have h8 := hw.1
  have h9 := hw.2 l hl
  refine Sp.of ok_M_valueOf trivial rfl ?_
  refine Ev.go 1 rfl ?_
  refine Ev.gf rfl lf_1_7_1 hp_5 rfl ?_
  refine Ev.go 1 rfl ?_
  refine Ev.iln rfl hp_6 rfl (by omega) (by omega) ?_
  rw [(hL.2 l hl).1]
  refine Ev.go 3 rfl ?_
  refine Ev.gf rfl lf_1_13_1 hp_5 rfl ?_
  refine Ev.go 1 rfl ?_
  refine Ev.iln rfl hp_7 rfl (by omega) (by omega) ?_
  rw [(hL.2 l hl).2]
  refine Ev.go 2 rfl ?_
  refine Ev.rm rfl (by rw [pk_mul, nI_add]) rfl (lin h9.2.1 h9.2.2 hy) (by omega) (by omega) ?_
  exact Ev.reti rfl (rfl)
theorem e_M_lawAt (d : Nat) (x : sn_X5) {A : sn_A2} {B : sn_B2} (t : sn_H) {w : sn_Lw} {k : Nat} {b : sn_Bk} (q : MK A B w k b) {kv jv : Int32} {j : Nat} (e1 : kv = nI k) (e2 : jv = nI j) (hj : j < pcnt (bl b)) : Sp d me_M_lawAt [.ref 5, .int kv, .int jv] (hp x A B t) (some (.int (nI (nth (bl b) j)))) (hp x A B t) := by
  obtain ⟨hw, hL, hb, hB, hk⟩ := q
  obtain ⟨r8, r9, r10, r11, r12, r13, r14⟩ := id hB
  have hm := hb.2.1
  have hpc := hb.2.2.2.2.1
  have hbl := hb.bl256 hw.1
  subst e1
  subst e2
  refine Sp.of ok_M_lawAt trivial rfl ?_
  refine Ev.go 1 rfl ?_
  refine Ev.gf rfl lf_1_22_1 hp_5 rfl ?_
  refine Ev.go 1 rfl ?_
  refine Ev.iln rfl hp_10 rfl (by omega) (by omega) ?_
  rw [r10]
  refine Ev.go 5 rfl ?_
  skip
  have hct := pcnt_ct (n := bl b) (k := 8) hbl
  have L : ∀ (n : Nat) (l : Nat) (s : Nat) (lv : Int32) (sv : Int32), (l + n = 8) → (s + ctf (fun i => (bl b).testBit i) l = j) → (nthF (bl b) n l s = nth (bl b) j) → (lv = nI l) → (sv = nI s) → Ev o0 d me_M_lawAt 13 [.ref 5, .int (nI k), .int (nI j), .int (nI (bl b)), .int lv, .int sv] [] (hp x A B t) (some (.int (nI (nth (bl b) j)))) (hp x A B t) := by
    intro n
    induction n using Nat.strongRecOn with
    | _ n ih =>
      intro l s lv sv h1 h2 h3 h4 h5
      subst h4
      subst h5
      have hn : n ≠ 0 := by
        intro e
        subst e
        have e8 : l = 8 := by omega
        subst e8
        omega
      obtain ⟨n, rfl⟩ : ∃ z, n = z + 1 := ⟨n - 1, by omega⟩
      have hl : l < 8 := by omega
      have hs : s ≤ 8 := by have := pcnt_le (k := 8) hbl; omega
      have hx := hasI (s := bl b) (k := l) (by omega) (by omega)
      refine Ev.go 5 rfl ?_
      refine Ev.zb rfl hx (fun c19 => ?_) (fun c19 => ?_)
      · refine Ev.go 10 rfl ?_
        exact ih n (by omega) (l + 1) (s - ((bl b).testBit l).toNat) _ _ (by omega) (by simp only [ctf]; simp [c19]; omega) (by rw [← h3]; simp [nthF, c19]) (by rw [nI_add]) (by rw [hx, b2i_n, pk_sub (by simp [c19])])
      refine Ev.go 1 rfl ?_
      refine Ev.zle rfl rfl (by omega) (fun c24 => ?_) (fun c24 => ?_)
      · refine Ev.go 1 rfl ?_
        exact Ev.reti rfl (by rw [← h3]; simp [nthF, c19, c24])
      refine Ev.go 10 rfl ?_
      exact ih n (by omega) (l + 1) (s - ((bl b).testBit l).toNat) _ _ (by omega) (by simp only [ctf]; simp [c19]; omega) (by rw [← h3]; simp [nthF, c19, c24]) (by rw [nI_add]) (by rw [hx, b2i_n, pk_sub (by simp [c19]; omega)])
  exact L 8 0 j _ _ rfl (by simp [ctf]) rfl rfl rfl
theorem oth_dec : ∀ f, f < 8 → ∀ m, m < 33 → ∀ p, p < m → (if 0 ≤ (nI 5 * nI f - nI p) - (nI 5 * nI f - nI p) / nI m * nI m then (nI 5 * nI f - nI p) - (nI 5 * nI f - nI p) / nI m * nI m else (nI 5 * nI f - nI p) - (nI 5 * nI f - nI p) / nI m * nI m + nI m) = nI (oth m p f) := by decide +kernel
theorem e_M_firstPlace (d : Nat) (x : sn_X5) {A : sn_A2} {B : sn_B2} (t : sn_H) {w : sn_Lw} {k : Nat} {b : sn_Bk} (q : MK A B w k b) {kv xv : Int32} {y : Nat} (e1 : kv = nI k) (e2 : xv = nI y) (hy : y < 32) : Sp (d + 1) me_M_firstPlace [.ref 5, .int kv, .int xv] (hp x A B t) (some (.int (nI (frs w b y)))) (hp x A B t) := by
  obtain ⟨hw, hL, hb, hB, hk⟩ := q
  obtain ⟨r8, r9, r10, r11, r12, r13, r14⟩ := id hB
  have hm := hb.2.1
  have hpc := hb.2.2.2.2.1
  have hbl := hb.bl256 hw.1
  subst e1
  subst e2
  refine Sp.of ok_M_firstPlace trivial rfl ?_
  refine Ev.go 4 rfl ?_
  refine Ev.cv (E' := me_M_lawAt) rfl mk_M_lawAt lv_1_147_1 rfl hp_5 rfl (e_M_lawAt d x t ⟨hw, hL, hb, hB, hk⟩ rfl rfl (by omega)) ?_
  refine Ev.go 1 rfl ?_
  refine Ev.cv (E' := me_M_valueOf) rfl mk_M_valueOf lv_1_96_1 rfl hp_5 rfl (e_M_valueOf d x t hw hL rfl rfl (hb.nt hw (by omega)).1 hy) ?_
  refine Ev.go 1 rfl ?_
  refine Ev.gf rfl lf_1_19_1 hp_5 rfl ?_
  refine Ev.go 1 rfl ?_
  refine Ev.iln rfl hp_9 rfl (by omega) (by omega) ?_
  rw [r9]
  refine Ev.rm rfl rfl rfl (by have := val_lt (w.2.1 (nth (bl b) 0)) (w.2.2 (nth (bl b) 0)) y; omega) (by omega) (by omega) ?_
  exact Ev.reti rfl (rfl)
theorem e_M_pushedMark (d : Nat) (x : sn_X5) {A : sn_A2} {B : sn_B2} (t : sn_H) {w : sn_Lw} {k : Nat} {b : sn_Bk} (q : MK A B w k b) {kv xv : Int32} {y : Nat} (e1 : kv = nI k) (e2 : xv = nI y) (hy : y < 32) (hp2 : 1 < pcnt (bl b)) : Sp (d + 1) me_M_pushedMark [.ref 5, .int kv, .int xv] (hp x A B t) (some (.int (nI (mrk w b 1 y)))) (hp x A B t) := by
  obtain ⟨hw, hL, hb, hB, hk⟩ := q
  obtain ⟨r8, r9, r10, r11, r12, r13, r14⟩ := id hB
  have hm := hb.2.1
  have hpc := hb.2.2.2.2.1
  have hbl := hb.bl256 hw.1
  subst e1
  subst e2
  refine Sp.of ok_M_pushedMark trivial rfl ?_
  refine Ev.go 4 rfl ?_
  refine Ev.cv (E' := me_M_lawAt) rfl mk_M_lawAt lv_1_147_1 rfl hp_5 rfl (e_M_lawAt d x t ⟨hw, hL, hb, hB, hk⟩ rfl rfl (by omega)) ?_
  refine Ev.go 1 rfl ?_
  refine Ev.cv (E' := me_M_valueOf) rfl mk_M_valueOf lv_1_96_1 rfl hp_5 rfl (e_M_valueOf d x t hw hL rfl rfl (hb.nt hw (by omega)).1 hy) ?_
  refine Ev.cs (E' := me_M_markOf) rfl mk_M_markOf ls_1_150 rfl rfl (e_M_markOf d _ rfl (val_lt _ _ _)) ?_
  exact Ev.reti rfl (rfl)
theorem e_M_otherPlace (d : Nat) (x : sn_X5) {A : sn_A2} {B : sn_B2} (t : sn_H) {w : sn_Lw} {k : Nat} {b : sn_Bk} (q : MK A B w k b) {kv pv fv : Int32} {p f : Nat} (e1 : kv = nI k) (e2 : pv = nI p) (e3 : fv = nI f) (hp2 : p < bm b) (hf : f < 8) : Sp d me_M_otherPlace [.ref 5, .int kv, .int pv, .int fv] (hp x A B t) (some (.int (nI (oth (bm b) p f)))) (hp x A B t) := by
  obtain ⟨hw, hL, hb, hB, hk⟩ := q
  obtain ⟨r8, r9, r10, r11, r12, r13, r14⟩ := id hB
  have hm := hb.2.1
  have hpc := hb.2.2.2.2.1
  have hbl := hb.bl256 hw.1
  subst e1
  subst e2
  subst e3
  have hd := oth_dec f hf (bm b) (by omega) p hp2
  refine Sp.of ok_M_otherPlace trivial rfl ?_
  refine Ev.go 6 rfl ?_
  refine Ev.gf rfl lf_1_19_1 hp_5 rfl ?_
  refine Ev.go 1 rfl ?_
  refine Ev.iln rfl hp_9 rfl (by omega) (by omega) ?_
  rw [r9]
  refine Ev.p rfl rfl (nI_ne0 (by omega) (by omega)) ?_
  refine Ev.go 2 rfl ?_
  refine Ev.br rfl rfl (fun c16 => ?_) (fun c16 => ?_)
  · refine Ev.go 1 rfl ?_
    exact Ev.reti rfl (by rw [← hd, if_pos c16])
  refine Ev.go 2 rfl ?_
  refine Ev.gf rfl lf_1_19_1 hp_5 rfl ?_
  refine Ev.go 1 rfl ?_
  refine Ev.iln rfl hp_9 rfl (by omega) (by omega) ?_
  rw [r9]
  refine Ev.go 2 rfl ?_
  exact Ev.reti rfl (by rw [← hd, if_neg c16])
theorem e_M_placeBy (d : Nat) (x : sn_X5) {A : sn_A2} {B : sn_B2} (t : sn_H) {w : sn_Lw} {k : Nat} {b : sn_Bk} (q : MK A B w k b) {kv jv xv : Int32} {j y : Nat} (e1 : kv = nI k) (e2 : jv = nI j) (e3 : xv = nI y) (hj : j < pcnt (bl b)) (hy : y < 32) : Sp (d + 1) me_M_placeBy [.ref 5, .int kv, .int jv, .int xv] (hp x A B t) (some (.int (nI (plc w b j y)))) (hp x A B t) := by
  obtain ⟨hw, hL, hb, hB, hk⟩ := q
  obtain ⟨r8, r9, r10, r11, r12, r13, r14⟩ := id hB
  have hm := hb.2.1
  have hpc := hb.2.2.2.2.1
  have hbl := hb.bl256 hw.1
  subst e1
  subst e2
  subst e3
  have hv := val_lt (w.2.1 (nth (bl b) j)) (w.2.2 (nth (bl b) j)) y
  have hq : bm b / pcnt (bl b) ≤ bm b := Nat.div_le_self _ _
  refine Sp.of ok_M_placeBy trivial rfl ?_
  have J : (bk b = 2 ∨ bk b = 4) → ∀ mv : Int32, mv = nI (prt b) → Ev o0 (d + 1) me_M_placeBy 74 [.ref 5, .int (nI k), .int (nI j), .int (nI y), .int (nI (val (w.2.1 (nth (bl b) j)) (w.2.2 (nth (bl b) j)) y)), .int (nI (bm b / pcnt (bl b)))] [.int mv] (hp x A B t) (some (.int (nI (plc w b j y)))) (hp x A B t) := by
    intro hkd mv emv
    subst emv
    have h1 := prt_pos (b := b)
    have h2 := prt_le hb
    have h3 : j * prt b ≤ 3 * 32 := Nat.mul_le_mul (by omega) h2
    have h4 := Nat.mod_lt (val (w.2.1 (nth (bl b) j)) (w.2.2 (nth (bl b) j)) y) (show 0 < prt b by omega)
    refine Ev.go 6 rfl ?_
    refine Ev.rm rfl rfl rfl (by omega) (by omega) (by omega) ?_
    refine Ev.go 2 rfl ?_
    refine Ev.gf rfl lf_1_19_1 hp_5 rfl ?_
    refine Ev.go 1 rfl ?_
    refine Ev.iln rfl hp_9 rfl (by omega) (by omega) ?_
    rw [r9]
    refine Ev.rm rfl (by rw [pk_mul, nI_add]) rfl (by omega) (by omega) (by omega) ?_
    exact Ev.reti rfl (by unfold plc; rw [if_pos hkd]; rfl)
  refine Ev.go 4 rfl ?_
  refine Ev.cv (E' := me_M_lawAt) rfl mk_M_lawAt lv_1_147_1 rfl hp_5 rfl (e_M_lawAt d x t ⟨hw, hL, hb, hB, hk⟩ rfl rfl hj) ?_
  refine Ev.go 1 rfl ?_
  refine Ev.cv (E' := me_M_valueOf) rfl mk_M_valueOf lv_1_96_1 rfl hp_5 rfl (e_M_valueOf d x t hw hL rfl rfl (hb.nt hw hj).1 hy) ?_
  refine Ev.go 2 rfl ?_
  refine Ev.gf rfl lf_1_16_1 hp_5 rfl ?_
  refine Ev.go 1 rfl ?_
  refine Ev.iln rfl hp_8 rfl (by omega) (by omega) ?_
  rw [r8]
  refine Ev.go 1 rfl ?_
  refine Ev.ieq rfl rfl rfl (by have := hb.1; omega) (by omega) (fun c20 => ?_) (fun c20 => ?_)
  · refine Ev.go 1 rfl ?_
    refine Ev.gf rfl lf_1_19_1 hp_5 rfl ?_
    refine Ev.go 1 rfl ?_
    refine Ev.iln rfl hp_9 rfl (by omega) (by omega) ?_
    rw [r9]
    refine Ev.go 1 rfl ?_
    refine Ev.gf rfl lf_1_22_1 hp_5 rfl ?_
    refine Ev.go 1 rfl ?_
    refine Ev.iln rfl hp_10 rfl (by omega) (by omega) ?_
    rw [r10]
    refine Ev.go 1 rfl ?_
    refine Ev.cs (E' := me_M_ones) rfl mk_M_ones ls_1_127 rfl rfl (e_M_ones d _ (nI_l (by omega)) (by omega)) ?_
    refine Ev.dv rfl rfl rfl (by omega) (by omega) (by omega) ?_
    refine Ev.go 3 rfl ?_
    refine Ev.ige rfl rfl rfl (by omega) (by omega) (fun c65 => ?_) (fun c65 => ?_)
    · refine Ev.go 1 rfl ?_
      exact J (Or.inl c20) _ (by congr 1; unfold prt; omega)
    refine Ev.go 2 rfl ?_
    exact J (Or.inl c20) _ (by congr 1; unfold prt; omega)
  refine Ev.go 1 rfl ?_
  refine Ev.gf rfl lf_1_16_1 hp_5 rfl ?_
  refine Ev.go 1 rfl ?_
  refine Ev.iln rfl hp_8 rfl (by omega) (by omega) ?_
  rw [r8]
  refine Ev.go 1 rfl ?_
  refine Ev.ieq rfl rfl rfl (by have := hb.1; omega) (by omega) (fun c30 => ?_) (fun c30 => ?_)
  · refine Ev.go 1 rfl ?_
    refine Ev.gf rfl lf_1_19_1 hp_5 rfl ?_
    refine Ev.go 1 rfl ?_
    refine Ev.iln rfl hp_9 rfl (by omega) (by omega) ?_
    rw [r9]
    refine Ev.go 1 rfl ?_
    refine Ev.gf rfl lf_1_22_1 hp_5 rfl ?_
    refine Ev.go 1 rfl ?_
    refine Ev.iln rfl hp_10 rfl (by omega) (by omega) ?_
    rw [r10]
    refine Ev.go 1 rfl ?_
    refine Ev.cs (E' := me_M_ones) rfl mk_M_ones ls_1_127 rfl rfl (e_M_ones d _ (nI_l (by omega)) (by omega)) ?_
    refine Ev.dv rfl rfl rfl (by omega) (by omega) (by omega) ?_
    refine Ev.go 3 rfl ?_
    refine Ev.ige rfl rfl rfl (by omega) (by omega) (fun c65 => ?_) (fun c65 => ?_)
    · refine Ev.go 1 rfl ?_
      exact J (Or.inr c30) _ (by congr 1; unfold prt; omega)
    refine Ev.go 2 rfl ?_
    exact J (Or.inr c30) _ (by congr 1; unfold prt; omega)
  refine Ev.go 2 rfl ?_
  refine Ev.gf rfl lf_1_19_1 hp_5 rfl ?_
  refine Ev.go 1 rfl ?_
  refine Ev.iln rfl hp_9 rfl (by omega) (by omega) ?_
  rw [r9]
  refine Ev.rm rfl rfl rfl (by omega) (by omega) (by omega) ?_
  exact Ev.reti rfl (by unfold plc; rw [if_neg (by omega)]; rfl)
theorem e_M_placesOf (d : Nat) (x : sn_X5) {A : sn_A2} {B : sn_B2} (t : sn_H) {w : sn_Lw} {k : Nat} {b : sn_Bk} (q : MK A B w k b) {kv xv : Int32} {y : Nat} (e1 : kv = nI k) (e2 : xv = nI y) (hy : y < 32) : Sp (d + 2) me_M_placesOf [.ref 5, .int kv, .int xv] (hp x A B t) (some (.long (lN (pls w b y)))) (hp x A B t) := by
  obtain ⟨hw, hL, hb, hB, hk⟩ := q
  obtain ⟨r8, r9, r10, r11, r12, r13, r14⟩ := id hB
  have hm := hb.2.1
  have hpc := hb.2.2.2.2.1
  have hbl := hb.bl256 hw.1
  subst e1
  subst e2
  have h3 := hb.2.2.2.2.2.1
  have hf := frs_lt (w := w) hb y
  refine Sp.of ok_M_placesOf trivial rfl ?_
  have L : ¬ bk b = 3 → ∀ (n : Nat) (j : Nat) (bv : Int64) (jv : Int32), (j + n = pcnt (bl b)) → (bv = lN (orf (fun j => 2 ^ plc w b j y) j)) → (jv = nI j) → Ev o0 (d + 2) me_M_placesOf 41 [.ref 5, .int (nI k), .int (nI y), .long bv, .retAddr 0, .int jv] [] (hp x A B t) (some (.long (lN (pls w b y)))) (hp x A B t) := by
    intro hkd n
    induction n using Nat.strongRecOn with
    | _ n ih =>
      intro j bv jv h1 h2 e3
      subst h2
      subst e3
      refine Ev.go 2 rfl ?_
      refine Ev.gf rfl lf_1_22_1 hp_5 rfl ?_
      refine Ev.go 1 rfl ?_
      refine Ev.iln rfl hp_10 rfl (by omega) (by omega) ?_
      rw [r10]
      refine Ev.go 1 rfl ?_
      refine Ev.cs (E' := me_M_ones) rfl mk_M_ones ls_1_127 rfl rfl (e_M_ones (d + 1) _ (nI_l (by omega)) (by omega)) ?_
      refine Ev.ige rfl rfl rfl (by omega) (by omega) (fun c53 => ?_) (fun c53 => ?_)
      · refine Ev.go 1 rfl ?_
        exact Ev.retl rfl (by rw [show j = pcnt (bl b) by omega]; unfold pls; rw [if_neg hkd])
      refine Ev.go 6 rfl ?_
      refine Ev.cv (E' := me_M_placeBy) rfl mk_M_placeBy lv_1_163_1 rfl hp_5 rfl (e_M_placeBy d x t ⟨hw, hL, hb, hB, hk⟩ rfl rfl rfl (by omega) hy) ?_
      refine Ev.go 5 rfl ?_
      exact ih (n - 1) (by omega) (j + 1) _ _ (by omega) (by rw [sh1 (by have := plc_lt (w := w) hb j y; omega)]; exact or_step rfl) (by rw [nI_add])
  refine Ev.go 1 rfl ?_
  refine Ev.gf rfl lf_1_16_1 hp_5 rfl ?_
  refine Ev.go 1 rfl ?_
  refine Ev.iln rfl hp_8 rfl (by omega) (by omega) ?_
  rw [r8]
  refine Ev.go 1 rfl ?_
  refine Ev.ine rfl rfl rfl (by have := hb.1; omega) (by omega) (fun c7 => ?_) (fun c7 => ?_)
  · refine Ev.go 4 rfl ?_
    exact L c7 (pcnt (bl b)) 0 _ _ (by omega) rfl rfl
  refine Ev.go 3 rfl ?_
  refine Ev.cv (E' := me_M_firstPlace) rfl mk_M_firstPlace lv_1_153_1 rfl hp_5 rfl (e_M_firstPlace d x t ⟨hw, hL, hb, hB, hk⟩ rfl rfl hy) ?_
  refine Ev.go 11 rfl ?_
  refine Ev.cv (E' := me_M_pushedMark) rfl mk_M_pushedMark lv_1_156_1 rfl hp_5 rfl (e_M_pushedMark d x t ⟨hw, hL, hb, hB, hk⟩ rfl rfl hy (by have := h3 c7; omega)) ?_
  refine Ev.cv (E' := me_M_otherPlace) rfl mk_M_otherPlace lv_1_159_1 rfl hp_5 rfl (e_M_otherPlace (d + 1) x t ⟨hw, hL, hb, hB, hk⟩ rfl rfl rfl hf (by have := mrk_le (w := w) (b := b) 1 y; omega)) ?_
  refine Ev.go 2 rfl ?_
  exact Ev.retl rfl (by rw [sh1 (by omega), sh1 (by have := oth_lt (frs w b y) (mrk w b 1 y) (show 0 < bm b by omega); omega), fb_orL]; unfold pls; rw [if_pos c7])
theorem e_M_filled (d : Nat) (x : sn_X5) {A : sn_A2} {B : sn_B2} (t : sn_H) {w : sn_Lw} {k : Nat} {b : sn_Bk} (q : MK A B w k b) {kv : Int32} (e1 : kv = nI k) : Sp d me_M_filled [.ref 5, .int kv] (hp x A B t) (some (.long (lN (fil b)))) (hp x A B t) := by
  obtain ⟨hw, hL, hb, hB, hk⟩ := q
  obtain ⟨r8, r9, r10, r11, r12, r13, r14⟩ := id hB
  have hm := hb.2.1
  have hpc := hb.2.2.2.2.1
  have hbl := hb.bl256 hw.1
  subst e1
  refine Sp.of ok_M_filled trivial rfl ?_
  refine Ev.go 4 rfl ?_
  skip
  have L : ∀ (n : Nat) (i : Nat) (bv : Int64) (iv : Int32), (i + n = bm b) → (bv = lN (orf (fun i => if 0 < bn b i then 2 ^ i else 0) i)) → (iv = nI i) → Ev o0 d me_M_filled 5 [.ref 5, .int (nI k), .long bv, .retAddr 0, .int iv] [] (hp x A B t) (some (.long (lN (fil b)))) (hp x A B t) := by
    intro n
    induction n using Nat.strongRecOn with
    | _ n ih =>
      intro i bv iv h1 h2 e3
      subst h2
      subst e3
      refine Ev.go 2 rfl ?_
      refine Ev.gf rfl lf_1_19_1 hp_5 rfl ?_
      refine Ev.go 1 rfl ?_
      refine Ev.iln rfl hp_9 rfl (by omega) (by omega) ?_
      rw [r9]
      refine Ev.ige rfl rfl rfl (by omega) (by omega) (fun c13 => ?_) (fun c13 => ?_)
      · refine Ev.go 1 rfl ?_
        exact Ev.retl rfl (by rw [show i = bm b by omega]; rfl)
      refine Ev.go 2 rfl ?_
      refine Ev.gf rfl lf_1_25_1 hp_5 rfl ?_
      refine Ev.go 5 rfl ?_
      refine Ev.iln rfl hp_11 (by rw [pk_mul, nI_add]) (by omega) (by omega) ?_
      rw [r11 i (by omega)]
      refine Ev.zle rfl rfl (by have := hb.2.2.2.2.2.2.2.1 i; omega) (fun c29 => ?_) (fun c29 => ?_)
      · refine Ev.go 5 rfl ?_
        exact ih (n - 1) (by omega) (i + 1) _ _ (by omega) (or_step (by simp [c29])) (by rw [nI_add])
      refine Ev.go 4 rfl ?_
      refine Ev.go 4 rfl ?_
      exact ih (n - 1) (by omega) (i + 1) _ _ (by omega) (by rw [sh1 (by omega)]; exact or_step (by simp [c29])) (by rw [nI_add])
  exact L (bm b) 0 _ _ (by omega) rfl rfl
theorem e_M_numbersAbove (d : Nat) (x : sn_X5) {A : sn_A2} {B : sn_B2} (t : sn_H) {w : sn_Lw} {k : Nat} {b : sn_Bk} (q : MK A B w k b) {kv : Int32} (e1 : kv = nI k) : Sp d me_M_numbersAbove [.ref 5, .int kv] (hp x A B t) (some (.int (nI (nab b)))) (hp x A B t) := by
  obtain ⟨hw, hL, hb, hB, hk⟩ := q
  obtain ⟨r8, r9, r10, r11, r12, r13, r14⟩ := id hB
  have hm := hb.2.1
  have hpc := hb.2.2.2.2.1
  have hbl := hb.bl256 hw.1
  subst e1
  refine Sp.of ok_M_numbersAbove trivial rfl ?_
  refine Ev.go 4 rfl ?_
  skip
  have L : ∀ (n : Nat) (i : Nat) (cv : Int32) (iv : Int32), (i + n = bm b) → (cv = nI (ctf (fun i => decide (0 < bn b i)) i)) → (iv = nI i) → Ev o0 d me_M_numbersAbove 4 [.ref 5, .int (nI k), .int cv, .int iv] [] (hp x A B t) (some (.int (nI (nab b)))) (hp x A B t) := by
    intro n
    induction n using Nat.strongRecOn with
    | _ n ih =>
      intro i cv iv h1 h2 e3
      subst h2
      subst e3
      refine Ev.go 2 rfl ?_
      refine Ev.gf rfl lf_1_19_1 hp_5 rfl ?_
      refine Ev.go 1 rfl ?_
      refine Ev.iln rfl hp_9 rfl (by omega) (by omega) ?_
      rw [r9]
      refine Ev.ige rfl rfl rfl (by omega) (by omega) (fun c11 => ?_) (fun c11 => ?_)
      · refine Ev.go 1 rfl ?_
        exact Ev.reti rfl (by rw [show i = bm b by omega]; rfl)
      refine Ev.go 2 rfl ?_
      refine Ev.gf rfl lf_1_25_1 hp_5 rfl ?_
      refine Ev.go 5 rfl ?_
      refine Ev.iln rfl hp_11 (by rw [pk_mul, nI_add]) (by omega) (by omega) ?_
      rw [r11 i (by omega)]
      refine Ev.zle rfl rfl (by have := hb.2.2.2.2.2.2.2.1 i; omega) (fun c26 => ?_) (fun c26 => ?_)
      · refine Ev.go 5 rfl ?_
        exact ih (n - 1) (by omega) (i + 1) _ _ (by omega) (ct_step (by simp [c26])) (by rw [nI_add])
      refine Ev.go 2 rfl ?_
      refine Ev.go 4 rfl ?_
      exact ih (n - 1) (by omega) (i + 1) _ _ (by omega) (ct_step (by simp [c26])) (by rw [nI_add])
  exact L (bm b) 0 _ _ (by omega) rfl rfl
theorem e_M_reallyIn (d : Nat) (x : sn_X5) {A : sn_A2} {B : sn_B2} (t : sn_H) {w : sn_Lw} {k : Nat} {b : sn_Bk} (q : MK A B w k b) {kv : Int32} (e1 : kv = nI k) : Sp d me_M_reallyIn [.ref 5, .int kv] (hp x A B t) (some (.long (lN (rin b)))) (hp x A B t) := by
  obtain ⟨hw, hL, hb, hB, hk⟩ := q
  obtain ⟨r8, r9, r10, r11, r12, r13, r14⟩ := id hB
  have hm := hb.2.1
  have hpc := hb.2.2.2.2.1
  have hbl := hb.bl256 hw.1
  subst e1
  refine Sp.of ok_M_reallyIn trivial rfl ?_
  refine Ev.go 4 rfl ?_
  skip
  have L : ∀ (n : Nat) (i : Nat) (bv : Int64) (iv : Int32), (i + n = 32) → (bv = lN (orf (fun x => if 0 < bt b x then 2 ^ x else 0) i)) → (iv = nI i) → Ev o0 d me_M_reallyIn 5 [.ref 5, .int (nI k), .long bv, .retAddr 0, .int iv] [] (hp x A B t) (some (.long (lN (rin b)))) (hp x A B t) := by
    intro n
    induction n using Nat.strongRecOn with
    | _ n ih =>
      intro i bv iv h1 h2 e3
      subst h2
      subst e3
      refine Ev.go 2 rfl ?_
      refine Ev.ige rfl rfl rfl (by omega) (by omega) (fun c9 => ?_) (fun c9 => ?_)
      · refine Ev.go 1 rfl ?_
        exact Ev.retl rfl (by rw [show i = 32 by omega]; rfl)
      refine Ev.go 2 rfl ?_
      refine Ev.gf rfl lf_1_28_1 hp_5 rfl ?_
      refine Ev.go 5 rfl ?_
      refine Ev.iln rfl hp_12 (by rw [pk_mul, nI_add]) (by omega) (by omega) ?_
      rw [r12 i (by omega)]
      refine Ev.zle rfl rfl (by have := hb.2.2.2.2.2.2.2.2.2.1 i; omega) (fun c25 => ?_) (fun c25 => ?_)
      · refine Ev.go 5 rfl ?_
        exact ih (n - 1) (by omega) (i + 1) _ _ (by omega) (or_step (by simp [c25])) (by rw [nI_add])
      refine Ev.go 4 rfl ?_
      refine Ev.go 4 rfl ?_
      exact ih (n - 1) (by omega) (i + 1) _ _ (by omega) (by rw [sh1 (by omega)]; exact or_step (by simp [c25])) (by rw [nI_add])
  exact L 32 0 _ _ (by omega) rfl rfl
theorem e_M_layerPlace (d : Nat) (x : sn_X5) {A : sn_A2} {B : sn_B2} (t : sn_H) {w : sn_Lw} {k : Nat} {b : sn_Bk} (q : MK A B w k b) {kv rv xv : Int32} {r y : Nat} (e1 : kv = nI k) (e2 : rv = nI r) (e3 : xv = nI y) (hr : r < 100) (hy : y < 32) : Sp (d + 1) me_M_layerPlace [.ref 5, .int kv, .int rv, .int xv] (hp x A B t) (some (.int (nI (lpl w b r y)))) (hp x A B t) := by
  obtain ⟨hw, hL, hb, hB, hk⟩ := q
  obtain ⟨r8, r9, r10, r11, r12, r13, r14⟩ := id hB
  have hm := hb.2.1
  have hpc := hb.2.2.2.2.1
  have hbl := hb.bl256 hw.1
  subst e1
  subst e2
  subst e3
  have hz := Nat.mod_lt r (show 0 < pcnt (bl b) by omega)
  refine Sp.of ok_M_layerPlace trivial rfl ?_
  refine Ev.go 5 rfl ?_
  refine Ev.gf rfl lf_1_22_1 hp_5 rfl ?_
  refine Ev.go 1 rfl ?_
  refine Ev.iln rfl hp_10 rfl (by omega) (by omega) ?_
  rw [r10]
  refine Ev.go 1 rfl ?_
  refine Ev.cs (E' := me_M_ones) rfl mk_M_ones ls_1_127 rfl rfl (e_M_ones d _ (nI_l (by omega)) (by omega)) ?_
  refine Ev.rm rfl rfl rfl (by omega) (by omega) (by omega) ?_
  refine Ev.cv (E' := me_M_lawAt) rfl mk_M_lawAt lv_1_147_1 rfl hp_5 rfl (e_M_lawAt d x t ⟨hw, hL, hb, hB, hk⟩ rfl rfl hz) ?_
  refine Ev.go 1 rfl ?_
  refine Ev.cv (E' := me_M_valueOf) rfl mk_M_valueOf lv_1_96_1 rfl hp_5 rfl (e_M_valueOf d x t hw hL rfl rfl (hb.nt hw hz).1 hy) ?_
  refine Ev.go 1 rfl ?_
  refine Ev.gf rfl lf_1_19_1 hp_5 rfl ?_
  refine Ev.go 1 rfl ?_
  refine Ev.iln rfl hp_9 rfl (by omega) (by omega) ?_
  rw [r9]
  refine Ev.rm rfl rfl rfl (by have := val_lt (w.2.1 (nth (bl b) (r % pcnt (bl b)))) (w.2.2 (nth (bl b) (r % pcnt (bl b)))) y; omega) (by omega) (by omega) ?_
  exact Ev.reti rfl (rfl)
def tgf (w : sn_Lw) (b : sn_Bk) (y : Nat) : Nat → Nat
  | 0 => 0
  | j + 1 => tgf w b y j ^^^ bn b (plc w b j y)
theorem tgf_lt {w : sn_Lw} {b : sn_Bk} {n : Nat} (hb : WB n b) (y : Nat) : ∀ j, tgf w b y j < 2 ^ 3
  | 0 => by show 0 < 2 ^ 3; omega
  | j + 1 => Nat.xor_lt_two_pow (tgf_lt hb y j) (by have := hb.2.2.2.2.2.2.2.1 (plc w b j y); omega)
theorem tgf_3 (w : sn_Lw) (b : sn_Bk) (y : Nat) : tgf w b y 3 = tog w b y := by simp [tgf, tog]
theorem e_M_together (d : Nat) (x : sn_X5) {A : sn_A2} {B : sn_B2} (t : sn_H) {w : sn_Lw} {k : Nat} {b : sn_Bk} (q : MK A B w k b) {kv xv : Int32} {y : Nat} (e1 : kv = nI k) (e2 : xv = nI y) (hy : y < 32) (h4 : bk b = 4) : Sp (d + 2) me_M_together [.ref 5, .int kv, .int xv] (hp x A B t) (some (.int (nI (tog w b y)))) (hp x A B t) := by
  obtain ⟨hw, hL, hb, hB, hk⟩ := q
  obtain ⟨r8, r9, r10, r11, r12, r13, r14⟩ := id hB
  have hm := hb.2.1
  have hpc := hb.2.2.2.2.1
  have hbl := hb.bl256 hw.1
  subst e1
  subst e2
  have hp3 := hb.2.2.2.2.2.2.1 h4
  refine Sp.of ok_M_together trivial rfl ?_
  refine Ev.go 4 rfl ?_
  skip
  have L : ∀ (n : Nat) (j : Nat) (av : Int32) (jv : Int32), (j + n = 3) → (av = nI (tgf w b y j)) → (jv = nI j) → Ev o0 (d + 2) me_M_together 5 [.ref 5, .int (nI k), .int (nI y), .int av, .int jv] [] (hp x A B t) (some (.int (nI (tog w b y)))) (hp x A B t) := by
    intro n
    induction n using Nat.strongRecOn with
    | _ n ih =>
      intro j av jv h1 h2 e3
      subst h2
      subst e3
      have hpl := plc_lt (w := w) hb j y
      refine Ev.go 2 rfl ?_
      refine Ev.ige rfl rfl rfl (by omega) (by omega) (fun c8 => ?_) (fun c8 => ?_)
      · refine Ev.go 1 rfl ?_
        exact Ev.reti rfl (by rw [show j = 3 by omega, tgf_3])
      refine Ev.go 2 rfl ?_
      refine Ev.gf rfl lf_1_25_1 hp_5 rfl ?_
      refine Ev.go 7 rfl ?_
      refine Ev.cv (E' := me_M_placeBy) rfl mk_M_placeBy lv_1_163_1 rfl hp_5 rfl (e_M_placeBy d x t ⟨hw, hL, hb, hB, hk⟩ rfl rfl rfl (by omega) hy) ?_
      refine Ev.go 1 rfl ?_
      refine Ev.iln rfl hp_11 (by rw [pk_mul, nI_add]) (by omega) (by omega) ?_
      rw [r11 (plc w b j y) (by omega)]
      refine Ev.go 4 rfl ?_
      exact ih (n - 1) (by omega) (j + 1) _ _ (by omega) (by rw [fb_xorI]; rfl) (by rw [nI_add])
  exact L 3 0 _ _ (by omega) rfl rfl
end
section
/-! THE REFERENCE: who is in -/
theorem e_M_isIn (d : Nat) (x : sn_X5) {A : sn_A2} {B : sn_B2} (t : sn_H) {w : sn_Lw} {k : Nat} {b : sn_Bk} (q : MK A B w k b) {kv xv : Int32} {y : Nat} (e1 : kv = nI k) (e2 : xv = nI y) (hy : y < 32) : Sp (d + 3) me_M_isIn [.ref 5, .int kv, .int xv] (hp x A B t) (some (.int (b2i (isin w b y)))) (hp x A B t) := by
  obtain ⟨hw, hL, hb, hB, hk⟩ := q
  obtain ⟨r8, r9, r10, r11, r12, r13, r14⟩ := id hB
  have hm := hb.2.1
  have hpc := hb.2.2.2.2.1
  have hbl := hb.bl256 hw.1
  subst e1
  subst e2
  have h3 := hb.2.2.2.2.2.1
  have h4 := hb.2.2.2.2.2.2.1
  have h7 := hb.2.2.2.2.2.2.2.1
  have hbk := hb.1
  have hf := frs_lt (w := w) hb y
  have hmk := mrk_le (w := w) (b := b) 1 y
  have hmk0 := mrk_le (w := w) (b := b) 0 y
  have ho := oth_lt (frs w b y) (mrk w b 1 y) (show 0 < bm b by omega)
  refine Sp.of ok_M_isIn (b2i_rc _) rfl ?_
  have L : bk b = 5 → ∀ (n : Nat) (i : Nat) (iv : Int32), i + n = bc b → lyr w b y n i = lyr w b y (bc b) 0 → iv = nI i → Ev o0 (d + 3) me_M_isIn 121 [.ref 5, .int (nI k), .int (nI y), .int iv, .retAddr 0] [] (hp x A B t) (some (.int (b2i (isin w b y)))) (hp x A B t) := by
    intro hkd n
    induction n using Nat.strongRecOn with
    | _ n ih =>
      intro i iv h1 hn e3
      subst e3
      have h6 := hb.2.2.2.2.2.2.2.2.2.2.1
      have hlp := lpl_lt (w := w) hb i y
      refine Ev.go 2 rfl ?_
      refine Ev.gf rfl lf_1_31_1 hp_5 rfl ?_
      refine Ev.go 1 rfl ?_
      refine Ev.iln rfl hp_13 rfl (by omega) (by omega) ?_
      rw [r13]
      refine Ev.ige rfl rfl rfl (by omega) (by omega) (fun c128 => ?_) (fun c128 => ?_)
      · refine Ev.go 2 rfl ?_
        refine Ev.rm rfl rfl rfl (by omega) (by omega) (by omega) ?_
        refine Ev.go 1 rfl ?_
        refine Ev.ine rfl rfl rfl (by omega) (by omega) (fun c165 => ?_) (fun c165 => ?_)
        · refine Ev.go 1 rfl ?_
          exact Ev.reti rfl (by
                  have e0 : n = 0 := by omega
                  subst e0
                  have e1 : i = lyr w b y (bc b) 0 := hn
                  unfold isin
                  rw [if_neg (by omega), if_neg (by omega), if_pos hkd, ← e1]
                  first | exact b2i_dt (by omega) | exact b2i_df (by omega))
        refine Ev.go 2 rfl ?_
        exact Ev.reti rfl (by
                have e0 : n = 0 := by omega
                subst e0
                have e1 : i = lyr w b y (bc b) 0 := hn
                unfold isin
                rw [if_neg (by omega), if_neg (by omega), if_pos hkd, ← e1]
                first | exact b2i_dt (by omega) | exact b2i_df (by omega))
      refine Ev.go 1 rfl ?_
      refine Ev.gf rfl lf_1_34_1 hp_5 rfl ?_
      refine Ev.go 5 rfl ?_
      refine Ev.lln rfl hp_14 (by rw [pk_mul, nI_add]) (by omega) (by omega) ?_
      rw [r14 i (by omega)]
      refine Ev.go 4 rfl ?_
      refine Ev.cv (E' := me_M_layerPlace) rfl mk_M_layerPlace lv_1_173_1 rfl hp_5 rfl (e_M_layerPlace (d + 1) x t ⟨hw, hL, hb, hB, hk⟩ rfl rfl rfl (by omega) hy) ?_
      refine Ev.cs (E' := me_M_has) rfl mk_M_has ls_1_100 rfl rfl (e_M_has (d + 2) _ rfl rfl (by have := hb.2.2.2.2.2.2.2.2.2.2.2 i; omega) (by omega)) ?_
      refine Ev.zb rfl rfl (fun c152 => ?_) (fun c152 => ?_)
      · refine Ev.go 2 rfl ?_
        refine Ev.rm rfl rfl rfl (by omega) (by omega) (by omega) ?_
        refine Ev.go 1 rfl ?_
        refine Ev.ine rfl rfl rfl (by omega) (by omega) (fun c165 => ?_) (fun c165 => ?_)
        · refine Ev.go 1 rfl ?_
          exact Ev.reti rfl (by
                  obtain ⟨n, rfl⟩ : ∃ z, n = z + 1 := ⟨n - 1, by omega⟩
                  have e1 : i = lyr w b y (bc b) 0 := by rw [← hn]; simp [lyr, c152]
                  unfold isin
                  rw [if_neg (by omega), if_neg (by omega), if_pos hkd, ← e1]
                  first | exact b2i_dt (by omega) | exact b2i_df (by omega))
        refine Ev.go 2 rfl ?_
        exact Ev.reti rfl (by
                obtain ⟨n, rfl⟩ : ∃ z, n = z + 1 := ⟨n - 1, by omega⟩
                have e1 : i = lyr w b y (bc b) 0 := by rw [← hn]; simp [lyr, c152]
                unfold isin
                rw [if_neg (by omega), if_neg (by omega), if_pos hkd, ← e1]
                first | exact b2i_dt (by omega) | exact b2i_df (by omega))
      refine Ev.go 2 rfl ?_
      obtain ⟨n, rfl⟩ : ∃ z, n = z + 1 := ⟨n - 1, by omega⟩
      exact ih n (by omega) (i + 1) _ (by omega) (by rw [← hn]; simp [lyr, c152]) (by rw [nI_add])
  refine Ev.go 1 rfl ?_
  refine Ev.gf rfl lf_1_16_1 hp_5 rfl ?_
  refine Ev.go 1 rfl ?_
  refine Ev.iln rfl hp_8 rfl (by omega) (by omega) ?_
  rw [r8]
  refine Ev.go 1 rfl ?_
  refine Ev.ine rfl rfl rfl (by omega) (by omega) (fun c7 => ?_) (fun c7 => ?_)
  · refine Ev.go 1 rfl ?_
    refine Ev.gf rfl lf_1_16_1 hp_5 rfl ?_
    refine Ev.go 1 rfl ?_
    refine Ev.iln rfl hp_8 rfl (by omega) (by omega) ?_
    rw [r8]
    refine Ev.go 1 rfl ?_
    refine Ev.ine rfl rfl rfl (by omega) (by omega) (fun c77 => ?_) (fun c77 => ?_)
    · refine Ev.go 1 rfl ?_
      refine Ev.gf rfl lf_1_16_1 hp_5 rfl ?_
      refine Ev.go 1 rfl ?_
      refine Ev.iln rfl hp_8 rfl (by omega) (by omega) ?_
      rw [r8]
      refine Ev.go 1 rfl ?_
      refine Ev.ine rfl rfl rfl (by omega) (by omega) (fun c116 => ?_) (fun c116 => ?_)
      · refine Ev.go 3 rfl ?_
        refine Ev.cv (E' := me_M_placesOf) rfl mk_M_placesOf lv_1_166_1 rfl hp_5 rfl (e_M_placesOf d x t ⟨hw, hL, hb, hB, hk⟩ rfl rfl hy) ?_
        refine Ev.go 2 rfl ?_
        refine Ev.cv (E' := me_M_filled) rfl mk_M_filled lv_1_176_1 rfl hp_5 rfl (e_M_filled (d + 2) x t ⟨hw, hL, hb, hB, hk⟩ rfl) ?_
        refine Ev.go 4 rfl ?_
        refine Ev.lne rfl rfl (lN_andn _ _) rfl (by have := andn_lt (b := fil b) (pls_lt (w := w) hb y); omega) (by omega) (fun c191 => ?_) (fun c191 => ?_)
        · refine Ev.go 1 rfl ?_
          exact Ev.reti rfl (by
              unfold isin
              rw [if_neg c7, if_neg c77, if_neg c116]; first | exact b2i_dt c191 | exact b2i_df c191)
        refine Ev.go 2 rfl ?_
        exact Ev.reti rfl (by
            unfold isin
            rw [if_neg c7, if_neg c77, if_neg c116]; first | exact b2i_dt c191 | exact b2i_df c191)
      refine Ev.go 2 rfl ?_
      exact L c116 (bc b) 0 _ (by omega) rfl rfl
    refine Ev.go 3 rfl ?_
    refine Ev.cv (E' := me_M_together) rfl mk_M_together lv_1_170_1 rfl hp_5 rfl (e_M_together d x t ⟨hw, hL, hb, hB, hk⟩ rfl rfl hy c77) ?_
    refine Ev.go 4 rfl ?_
    refine Ev.cv (E' := me_M_lawAt) rfl mk_M_lawAt lv_1_147_1 rfl hp_5 rfl (e_M_lawAt (d + 2) x t ⟨hw, hL, hb, hB, hk⟩ rfl rfl (by omega)) ?_
    refine Ev.go 1 rfl ?_
    refine Ev.cv (E' := me_M_valueOf) rfl mk_M_valueOf lv_1_96_1 rfl hp_5 rfl (e_M_valueOf (d + 2) x t hw hL rfl rfl (hb.nt hw (by omega)).1 hy) ?_
    refine Ev.cs (E' := me_M_markOf) rfl mk_M_markOf ls_1_150 rfl rfl (e_M_markOf (d + 2) _ rfl (val_lt _ _ _)) ?_
    refine Ev.ine rfl rfl rfl (by have := tgf_lt (w := w) hb y 3; rw [tgf_3] at this; omega) (by have := vl_lt (w := w) (b := b) 0 y; unfold vl at this; omega) (fun c100 => ?_) (fun c100 => ?_)
    · refine Ev.go 1 rfl ?_
      exact Ev.reti rfl (by
          unfold isin
          rw [if_neg c7, if_pos c77]; first | exact b2i_dt c100 | exact b2i_df c100)
    refine Ev.go 2 rfl ?_
    exact Ev.reti rfl (by
        unfold isin
        rw [if_neg c7, if_pos c77]; first | exact b2i_dt c100 | exact b2i_df c100)
  refine Ev.go 3 rfl ?_
  refine Ev.cv (E' := me_M_firstPlace) rfl mk_M_firstPlace lv_1_153_1 rfl hp_5 rfl (e_M_firstPlace (d + 1) x t ⟨hw, hL, hb, hB, hk⟩ rfl rfl hy) ?_
  refine Ev.go 4 rfl ?_
  refine Ev.cv (E' := me_M_pushedMark) rfl mk_M_pushedMark lv_1_156_1 rfl hp_5 rfl (e_M_pushedMark (d + 1) x t ⟨hw, hL, hb, hB, hk⟩ rfl rfl hy (by have := h3 c7; omega)) ?_
  refine Ev.go 2 rfl ?_
  refine Ev.gf rfl lf_1_25_1 hp_5 rfl ?_
  refine Ev.go 5 rfl ?_
  refine Ev.iln rfl hp_11 (by rw [pk_mul, nI_add]) (by omega) (by omega) ?_
  rw [r11 (frs w b y) (by omega)]
  refine Ev.go 1 rfl ?_
  refine Ev.ieq rfl rfl rfl (by have := h7 (frs w b y); omega) (by omega) (fun c38 => ?_) (fun c38 => ?_)
  · refine Ev.go 2 rfl ?_
    exact Ev.reti rfl (by
        unfold isin
        rw [if_pos c7]; rw [decide_eq_true c38]; rfl)
  refine Ev.go 1 rfl ?_
  refine Ev.gf rfl lf_1_25_1 hp_5 rfl ?_
  refine Ev.go 7 rfl ?_
  refine Ev.cv (E' := me_M_otherPlace) rfl mk_M_otherPlace lv_1_159_1 rfl hp_5 rfl (e_M_otherPlace (d + 2) x t ⟨hw, hL, hb, hB, hk⟩ rfl rfl rfl hf (by omega)) ?_
  refine Ev.go 1 rfl ?_
  refine Ev.iln rfl hp_11 (by rw [pk_mul, nI_add]) (by omega) (by omega) ?_
  rw [r11 (oth (bm b) (frs w b y) (mrk w b 1 y)) (by omega)]
  refine Ev.go 1 rfl ?_
  refine Ev.ine rfl rfl rfl (by have := h7 (oth (bm b) (frs w b y) (mrk w b 1 y)); omega) (by omega) (fun c61 => ?_) (fun c61 => ?_)
  · refine Ev.go 1 rfl ?_
    exact Ev.reti rfl (by
        unfold isin
        rw [if_pos c7]; rw [decide_eq_false c38, Bool.false_or]; first | exact b2i_dt (by omega) | exact b2i_df (by omega))
  refine Ev.go 2 rfl ?_
  exact Ev.reti rfl (by
      unfold isin
      rw [if_pos c7]; rw [decide_eq_false c38, Bool.false_or]; first | exact b2i_dt (by omega) | exact b2i_df (by omega))
theorem e_M_allIn (d : Nat) (x : sn_X5) {A : sn_A2} {B : sn_B2} (t : sn_H) {w : sn_Lw} {k : Nat} {b : sn_Bk} (q : MK A B w k b) {kv : Int32} (e1 : kv = nI k) : Sp (d + 4) me_M_allIn [.ref 5, .int kv] (hp x A B t) (some (.long (lN (ain w b)))) (hp x A B t) := by
  obtain ⟨hw, hL, hb, hB, hk⟩ := q
  obtain ⟨r8, r9, r10, r11, r12, r13, r14⟩ := id hB
  have hm := hb.2.1
  have hpc := hb.2.2.2.2.1
  have hbl := hb.bl256 hw.1
  subst e1
  refine Sp.of ok_M_allIn trivial rfl ?_
  refine Ev.go 4 rfl ?_
  skip
  have L : ∀ (n : Nat) (i : Nat) (bv : Int64) (iv : Int32), i + n = 32 → bv = lN (orf (fun x => if isin w b x then 2 ^ x else 0) i) → iv = nI i → Ev o0 (d + 4) me_M_allIn 5 [.ref 5, .int (nI k), .long bv, .retAddr 0, .int iv] [] (hp x A B t) (some (.long (lN (ain w b)))) (hp x A B t) := by
    intro n
    induction n using Nat.strongRecOn with
    | _ n ih =>
      intro i bv iv h1 h2 e3
      subst h2
      subst e3
      refine Ev.go 2 rfl ?_
      refine Ev.ige rfl rfl rfl (by omega) (by omega) (fun c9 => ?_) (fun c9 => ?_)
      · refine Ev.go 1 rfl ?_
        exact Ev.retl rfl (by rw [show i = 32 by omega]; rfl)
      refine Ev.go 4 rfl ?_
      refine Ev.cv (E' := me_M_isIn) rfl mk_M_isIn lv_1_181_1 rfl hp_5 rfl (e_M_isIn d x t ⟨hw, hL, hb, hB, hk⟩ rfl rfl (by omega)) ?_
      refine Ev.zb rfl rfl (fun c20 => ?_) (fun c20 => ?_)
      · refine Ev.go 5 rfl ?_
        exact ih (n - 1) (by omega) (i + 1) _ _ (by omega) (or_step (by simp [c20])) (by rw [nI_add])
      refine Ev.go 4 rfl ?_
      refine Ev.go 4 rfl ?_
      exact ih (n - 1) (by omega) (i + 1) _ _ (by omega) (by rw [sh1 (by omega)]; exact or_step (by simp [c20])) (by rw [nI_add])
  exact L 32 0 _ _ (by omega) rfl rfl
/-- what keys() tells -/
def kof (w : sn_Lw) (b : sn_Bk) (c : Nat) : Nat := if c = 0 then ain w b else if c = 1 then andn (ain w b) (rin b) else if c = 2 then andn (rin b) (ain w b) else rin b
theorem kof_lt (w : sn_Lw) (b : sn_Bk) (c : Nat) : kof w b c < 2 ^ 32 := by
  unfold kof
  split
  · exact ain_lt w b
  split
  · exact andn_lt (ain_lt w b)
  split
  · exact andn_lt (rin_lt b)
  · exact rin_lt b
/-- what about() tells -/
def abt (b : sn_Bk) (c : Nat) : Nat := if c = 0 then bk b else if c = 1 then bm b else if c = 2 then bl b else if c = 3 then nab b else if c = 4 then pcnt (rin b) else bc b
theorem e_M_keysOf (d : Nat) (x : sn_X5) {A : sn_A2} {B : sn_B2} (t : sn_H) {w : sn_Lw} {k : Nat} {b : sn_Bk} (q : MK A B w k b) {kv cv : Int32} {c : Nat} (e1 : kv = nI k) (e2 : cv = nI c) (hc : c < 4) : Sp (d + 5) me_M_keysOf [.ref 5, .int kv, .int cv] (hp x A B t) (some (.long (lN (kof w b c)))) (hp x A B t) := by
  obtain ⟨hw, hL, hb, hB, hk⟩ := q
  obtain ⟨r8, r9, r10, r11, r12, r13, r14⟩ := id hB
  have hm := hb.2.1
  have hpc := hb.2.2.2.2.1
  have hbl := hb.bl256 hw.1
  subst e1
  subst e2
  refine Sp.of ok_M_keysOf trivial rfl ?_
  refine Ev.go 2 rfl ?_
  refine Ev.cv (E' := me_M_allIn) rfl mk_M_allIn lv_1_207_1 rfl hp_5 rfl (e_M_allIn d x t ⟨hw, hL, hb, hB, hk⟩ rfl) ?_
  refine Ev.go 3 rfl ?_
  refine Ev.cv (E' := me_M_reallyIn) rfl mk_M_reallyIn lv_1_138_1 rfl hp_5 rfl (e_M_reallyIn (d + 4) x t ⟨hw, hL, hb, hB, hk⟩ rfl) ?_
  refine Ev.go 2 rfl ?_
  refine Ev.zne rfl rfl (by omega) (fun c14 => ?_) (fun c14 => ?_)
  · refine Ev.go 2 rfl ?_
    refine Ev.ine rfl rfl rfl (by omega) (by omega) (fun c23 => ?_) (fun c23 => ?_)
    · refine Ev.go 2 rfl ?_
      refine Ev.ine rfl rfl rfl (by omega) (by omega) (fun c39 => ?_) (fun c39 => ?_)
      · refine Ev.go 1 rfl ?_
        exact Ev.retl rfl (by unfold kof; rw [if_neg (by omega), if_neg c23, if_neg c39])
      refine Ev.go 6 rfl ?_
      exact Ev.retl rfl (by unfold kof; rw [if_neg (by omega), if_neg c23, if_pos c39, lN_andn])
    refine Ev.go 6 rfl ?_
    exact Ev.retl rfl (by unfold kof; rw [if_neg (by omega), if_pos c23, lN_andn])
  refine Ev.go 2 rfl ?_
  exact Ev.retl rfl (by unfold kof; rw [if_pos c14])
theorem e_M_aboutOf (d : Nat) (x : sn_X5) {A : sn_A2} {B : sn_B2} (t : sn_H) {w : sn_Lw} {k : Nat} {b : sn_Bk} (q : MK A B w k b) {kv cv : Int32} {c : Nat} (e1 : kv = nI k) (e2 : cv = nI c) (hc : c < 6) : Sp (d + 1) me_M_aboutOf [.ref 5, .int kv, .int cv] (hp x A B t) (some (.int (nI (abt b c)))) (hp x A B t) := by
  obtain ⟨hw, hL, hb, hB, hk⟩ := q
  obtain ⟨r8, r9, r10, r11, r12, r13, r14⟩ := id hB
  have hm := hb.2.1
  have hpc := hb.2.2.2.2.1
  have hbl := hb.bl256 hw.1
  subst e1
  subst e2
  refine Sp.of ok_M_aboutOf trivial rfl ?_
  refine Ev.go 1 rfl ?_
  have hc6 : c = 0 ∨ c = 1 ∨ c = 2 ∨ c = 3 ∨ c = 4 ∨ c = 5 := by omega
  rcases hc6 with rfl | rfl | rfl | rfl | rfl | rfl
  · refine Ev.p (pc' := 36) rfl rfl trivial ?_
    refine Ev.go 1 rfl ?_
    refine Ev.gf rfl lf_1_16_1 hp_5 rfl ?_
    refine Ev.go 1 rfl ?_
    refine Ev.iln rfl hp_8 rfl (by omega) (by omega) ?_
    rw [r8]
    exact Ev.reti rfl (rfl)
  · refine Ev.p (pc' := 43) rfl rfl trivial ?_
    refine Ev.go 1 rfl ?_
    refine Ev.gf rfl lf_1_19_1 hp_5 rfl ?_
    refine Ev.go 1 rfl ?_
    refine Ev.iln rfl hp_9 rfl (by omega) (by omega) ?_
    rw [r9]
    exact Ev.reti rfl (rfl)
  · refine Ev.p (pc' := 50) rfl rfl trivial ?_
    refine Ev.go 1 rfl ?_
    refine Ev.gf rfl lf_1_22_1 hp_5 rfl ?_
    refine Ev.go 1 rfl ?_
    refine Ev.iln rfl hp_10 rfl (by omega) (by omega) ?_
    rw [r10]
    exact Ev.reti rfl (rfl)
  · refine Ev.p (pc' := 57) rfl rfl trivial ?_
    refine Ev.go 2 rfl ?_
    refine Ev.cv (E' := me_M_numbersAbove) rfl mk_M_numbersAbove lv_1_134_1 rfl hp_5 rfl (e_M_numbersAbove d x t ⟨hw, hL, hb, hB, hk⟩ rfl) ?_
    exact Ev.reti rfl (rfl)
  · refine Ev.p (pc' := 63) rfl rfl trivial ?_
    refine Ev.go 2 rfl ?_
    refine Ev.cv (E' := me_M_reallyIn) rfl mk_M_reallyIn lv_1_138_1 rfl hp_5 rfl (e_M_reallyIn d x t ⟨hw, hL, hb, hB, hk⟩ rfl) ?_
    refine Ev.cs (E' := me_M_ones) rfl mk_M_ones ls_1_127 rfl rfl (e_M_ones d _ rfl (rin_lt b)) ?_
    exact Ev.reti rfl (rfl)
  · refine Ev.p (pc' := 72) rfl rfl trivial ?_
    refine Ev.go 1 rfl ?_
    refine Ev.gf rfl lf_1_31_1 hp_5 rfl ?_
    refine Ev.go 1 rfl ?_
    refine Ev.iln rfl hp_13 rfl (by omega) (by omega) ?_
    rw [r13]
    exact Ev.reti rfl (rfl)
end
section
/-! WHAT THE CALLS ANSWER -/
abbrev rg (x : Int32) (n : Nat) : Prop := 0 ≤ x.toInt ∧ x.toInt < (n : Int)
def tn (x : Int32) : Nat := x.toInt.toNat
theorem rg_ex {x : Int32} {n : Nat} (h : rg x n) : ∃ k, k < n ∧ k < 2 ^ 31 ∧ x = nI k := by
  obtain ⟨k, h1, h2⟩ := nI_of (x := x) (fun q => by have h3 := (fa_lt x 0).mp q; have h0 := h.1; simp at h3; omega)
  refine ⟨k, ?_, h1, h2⟩
  have := h.2
  rw [h2, nI_toInt h1] at this
  omega
theorem rg_nI {k n : Nat} (hk : k < 2 ^ 31) : rg (nI k) n ↔ k < n := by
  unfold rg
  rw [nI_toInt hk]
  omega
theorem tn_nI {k : Nat} (hk : k < 2 ^ 31) : tn (nI k) = k := by unfold tn; rw [nI_toInt hk]; rfl
abbrev sg (s : Int64) : Prop := 0 ≤ s.toInt ∧ s.toInt < 4294967296
def ts (s : Int64) : Nat := s.toInt.toNat
theorem sg_ex {s : Int64} (h : sg s) : ∃ n, n < 2 ^ 32 ∧ s = lN n := by
  obtain ⟨k, h1, h2⟩ := pk_lOf (x := s) (fun q => by have h3 := (fa_lt64 s 0).mp q; have h0 := h.1; simp at h3; omega)
  refine ⟨k, ?_, h2⟩
  have := h.2
  rw [h2, pk_lT h1] at this
  omega
theorem sg_lN {n : Nat} (h : n < 2 ^ 32) : sg (lN n) := by
  unfold sg
  rw [pk_lT (by omega)]
  omega
theorem ts_lN {n : Nat} (h : n < 2 ^ 32) : ts (lN n) = n := by unfold ts; rw [pk_lT (by omega)]; rfl
/-- the laws and books of a state -/
abbrev sw (μ : sn_S) : sn_Lw := μ.1
abbrev snb (μ : sn_S) : Nat := μ.2.1
abbrev sbk (μ : sn_S) : Nat → sn_Bk := μ.2.2
def WS (μ : sn_S) : Prop := WL (sw μ) ∧ snb μ ≤ 8 ∧ ∀ k, k < snb μ → WB (sw μ).1 (sbk μ k)
def MS (A : sn_A2) (B : sn_B2) (μ : sn_S) : Prop := WS μ ∧ ML A (sw μ) ∧ A 0 1 = nI (snb μ) ∧ ∀ k, k < snb μ → MB A B k (sbk μ k)
theorem MS.mk {A : sn_A2} {B : sn_B2} {μ : sn_S} (h : MS A B μ) {k : Nat} (hk : k < snb μ) : MK A B (sw μ) k (sbk μ k) := ⟨h.1.1, h.2.1, h.1.2.2 k hk, h.2.2.2 k hk, by have := h.1.2.1; omega⟩
def an_value (μ : sn_S) (l y : Int32) : Int32 := if rg l (sw μ).1 ∧ rg y 32 then nI (val ((sw μ).2.1 (tn l)) ((sw μ).2.2 (tn l)) (tn y)) else - nI 101
def an_as (μ : sn_S) (k c : Int32) : Int32 := if ¬ rg k (snb μ) then - nI 101 else if ¬ rg c 6 then - nI 102 else if bk (sbk μ (tn k)) = tn c ∨ (tn c = 0 ∧ bk (sbk μ (tn k)) ≠ 3) ∨ (tn c = 2 ∧ bk (sbk μ (tn k)) = 4) then k else - nI 1
def an_about (μ : sn_S) (k c : Int32) : Int32 := if ¬ rg k (snb μ) then - nI 101 else if rg c 6 then nI (abt (sbk μ (tn k)) (tn c)) else - nI 102
def an_at (μ : sn_S) (k i : Int32) : Int32 := if rg k (snb μ) ∧ rg i (bm (sbk μ (tn k))) then nI (bn (sbk μ (tn k)) (tn i)) else - nI 101
def an_row (μ : sn_S) (k i : Int32) : Int64 := if rg k (snb μ) ∧ rg i (bc (sbk μ (tn k))) then lN (br (sbk μ (tn k)) (tn i)) else -101
def an_places (μ : sn_S) (k y : Int32) : Int64 := if rg k (snb μ) ∧ rg y 32 then lN (pls (sw μ) (sbk μ (tn k)) (tn y)) else -101
def an_real (μ : sn_S) (k y : Int32) : Int32 := if rg k (snb μ) ∧ rg y 32 then nI (bt (sbk μ (tn k)) (tn y)) else - nI 101
def an_keys (μ : sn_S) (k c : Int32) : Int64 := if ¬ rg k (snb μ) then -101 else if rg c 4 then lN (kof (sw μ) (sbk μ (tn k)) (tn c)) else -102
/-- the first size by which e keys at most are met -/
def fwF (a b s e : Nat) : Nat → Nat → Option Nat
  | 0, _ => none
  | n + 1, m => if flBy a b m s ≤ e then some m else fwF a b s e n (m + 1)
def onI (o : Option Nat) : Int32 := match o with
  | some m => nI m
  | none => - nI 1
def an_fewest (μ : sn_S) (s : Int64) (l e : Int32) : Int32 := if ¬ rg l (sw μ).1 then - nI 101 else if ¬ (sg s ∧ rg e 32) then - nI 102 else onI (fwF ((sw μ).2.1 (tn l)) ((sw μ).2.2 (tn l)) (ts s) (tn e) 31 2)
/-- over all laws: fewest, A, B; row by row -/
def bsB (s m a : Nat) : Nat → Nat × Nat × Nat → Nat × Nat × Nat
  | 0, z => z
  | n + 1, z => let z := bsB s m a n z; if flBy a n m s < z.1 then (flBy a n m s, a, n) else z
def bsA (s m : Nat) (z0 : Nat) : Nat → Nat × Nat × Nat
  | 0 => (z0, 0, 0)
  | n + 1 => bsB s m (n + 1) 37 (bsA s m z0 n)
def an_best (s : Int64) (m c : Int32) : Int32 := if ¬ (sg s ∧ (2 ≤ m.toInt ∧ m.toInt ≤ 32) ∧ rg c 3) then - nI 102 else if tn c = 0 then nI (bsA (ts s) (tn m) 99 36).1 else if tn c = 1 then nI (bsA (ts s) (tn m) 99 36).2.1 else nI (bsA (ts s) (tn m) 99 36).2.2
/-- over all laws: how many meet -/
def odB (s y m a : Nat) : Nat → Nat := ctf (fun b => (plBy a b m s).testBit (val a b y % m))
def odA (s y m : Nat) : Nat → Nat
  | 0 => 0
  | n + 1 => odA s y m n + odB s y m (n + 1) 37
def an_odds (s : Int64) (y m c : Int32) : Int32 := if ¬ (sg s ∧ (2 ≤ m.toInt ∧ m.toInt ≤ 32) ∧ rg c 2) then - nI 102 else if ¬ (rg y 32 ∧ (ts s).testBit (tn y) = false) then - nI 101 else nI ((if tn c = 0 then odA (ts s) (tn y) (tn m) 36 else 1332) / Nat.gcd (odA (ts s) (tn y) (tn m) 36) 1332)
theorem odA_le (s y m : Nat) : ∀ n, odA s y m n ≤ 37 * n
  | 0 => Nat.le_refl _
  | n + 1 => by have h1 := odA_le s y m n; have h2 := ctf_le (fun b => (plBy (n + 1) b m s).testBit (val (n + 1) b y % m)) 37; simp only [odA, odB]; omega
end
section
/-! THE REFERENCE: its calls that only look -/
theorem e_M_withinI (d : Nat) (h : sn_H) (a : Int32) {lo hi : Int64} {l u : Int} (hl : lo.toInt = l) (hu : hi.toInt = u) : Sp d me_M_within [.long a.toInt64, .long lo, .long hi] h (some (.int (b2i (decide (l ≤ a.toInt ∧ a.toInt ≤ u))))) h := by
  have e := e_M_within d h a.toInt64 lo hi
  simp only [fa_le64, Int32.toInt_toInt64, hl, hu] at e
  exact e
theorem e_M_within0 (d : Nat) (h : sn_H) (a : Int32) {hi : Int64} {n : Nat} (hu : hi.toInt + 1 = n) : Sp d me_M_within [.long a.toInt64, .long (lN 0), .long hi] h (some (.int (b2i (decide (rg a n))))) h := by
  have e := e_M_withinI d h a (lo := lN 0) (hi := hi) (l := 0) rfl rfl
  rw [show decide (0 ≤ a.toInt ∧ a.toInt ≤ hi.toInt) = decide (rg a n) from decide_eq_decide.mpr (by unfold rg; omega)] at e
  exact e
theorem sub1_toInt {n : Nat} (hn : n < 2 ^ 30) : (nI n - nI 1).toInt64.toInt + 1 = (n : Int) := by
  rw [Int32.toInt_toInt64, pk_sub_toInt hn (by omega)]; omega
theorem dec_rg {x : Int32} {n : Nat} : decide (0 ≤ x.toInt ∧ x.toInt ≤ (n : Int) - 1) = decide (rg x n) := by
  apply decide_eq_decide.mpr; unfold rg; omega
theorem dec_rgn {x : Int32} {n : Nat} {u : Int} (h : u + 1 = n) : decide (0 ≤ x.toInt ∧ x.toInt ≤ u) = decide (rg x n) := by
  apply decide_eq_decide.mpr; unfold rg; omega
theorem ofd {p : Prop} [Decidable p] (h : decide p = true) : p := of_decide_eq_true h
theorem ofn {p : Prop} [Decidable p] (h : decide p = false) : ¬ p := of_decide_eq_false h
theorem e_M_isLaw (d : Nat) (x : sn_X5) {A : sn_A2} {B : sn_B2} (t : sn_H) {w : sn_Lw} (hw : WL w) (hL : ML A w) (v : Int32) : Sp (d + 1) me_M_isLaw [.ref 5, .int v] (hp x A B t) (some (.int (b2i (decide (rg v w.1))))) (hp x A B t) := by
  have h8 := hw.1
  refine Sp.of ok_M_isLaw (b2i_rc _) rfl ?_
  refine Ev.go 4 rfl ?_
  refine Ev.gf rfl lf_1_83_1 hp_5 rfl ?_
  refine Ev.go 3 rfl ?_
  refine Ev.cs (E' := me_M_within) rfl mk_M_within ls_1_77 rfl rfl (e_M_within0 d _ v (n := w.1) (by rw [hL.1]; exact sub1_toInt (by omega))) ?_
  exact Ev.reti rfl (rfl)
theorem e_M_isBook (d : Nat) (x : sn_X5) {A : sn_A2} {B : sn_B2} (t : sn_H) {μ : sn_S} (q : MS A B μ) (v : Int32) : Sp (d + 1) me_M_isBook [.ref 5, .int v] (hp x A B t) (some (.int (b2i (decide (rg v (snb μ)))))) (hp x A B t) := by
  have h8 := q.1.2.1
  refine Sp.of ok_M_isBook (b2i_rc _) rfl ?_
  refine Ev.go 4 rfl ?_
  refine Ev.gf rfl lf_1_120_1 hp_5 rfl ?_
  refine Ev.go 3 rfl ?_
  refine Ev.cs (E' := me_M_within) rfl mk_M_within ls_1_77 rfl rfl (e_M_within0 d _ v (n := snb μ) (by rw [q.2.2.1]; exact sub1_toInt (by omega))) ?_
  exact Ev.reti rfl (rfl)
theorem e_M_isKey2 (d : Nat) (h : sn_H) (v : Int32) : Sp (d + 1) me_M_isKey [.int v] h (some (.int (b2i (decide (rg v 32))))) h := e_M_isKey d h v
theorem e_M_isSet2 (d : Nat) (h : sn_H) (v : Int64) : Sp (d + 1) me_M_isSet [.long v] h (some (.int (b2i (decide (sg v))))) h := e_M_isSet d h v
theorem p_M_value (d : Nat) (x : sn_X5) {A : sn_A2} {B : sn_B2} (t : sn_H) {μ : sn_S} (q : MS A B μ) (l y : Int32) : Sp (d + 2) me_M_value [.ref 5, .int l, .int y] (hp x A B t) (some (.int (an_value μ l y))) (hp x A B t) := by
  refine Sp.of ok_M_value trivial rfl ?_
  refine Ev.go 2 rfl ?_
  refine Ev.cv (E' := me_M_isLaw) rfl mk_M_isLaw lv_1_89_1 rfl hp_5 rfl (e_M_isLaw d x t q.1.1 q.2.1 _) ?_
  refine Ev.zb rfl rfl (fun c5 => ?_) (fun c5 => ?_)
  · refine Ev.go 1 rfl ?_
    exact Ev.reti rfl (by unfold an_value; rw [if_neg (fun z => ofn c5 z.1)])
  refine Ev.go 1 rfl ?_
  refine Ev.cs (E' := me_M_isKey) rfl mk_M_isKey ls_1_93 rfl rfl (e_M_isKey2 d _ _) ?_
  refine Ev.zb rfl rfl (fun c12 => ?_) (fun c12 => ?_)
  · refine Ev.go 1 rfl ?_
    exact Ev.reti rfl (by unfold an_value; rw [if_neg (fun z => ofn c12 z.2)])
  obtain ⟨l, hl, hl2, rfl⟩ := rg_ex (ofd c5)
  obtain ⟨y, hy, hy2, rfl⟩ := rg_ex (ofd c12)
  refine Ev.go 3 rfl ?_
  refine Ev.cv (E' := me_M_valueOf) rfl mk_M_valueOf lv_1_96_1 rfl hp_5 rfl (e_M_valueOf (d + 1) x t q.1.1 q.2.1 rfl rfl hl hy) ?_
  refine Ev.go 1 rfl ?_
  exact Ev.reti rfl (by unfold an_value; rw [if_pos ⟨ofd c5, ofd c12⟩, tn_nI hl2, tn_nI hy2])
theorem p_M_about (d : Nat) (x : sn_X5) {A : sn_A2} {B : sn_B2} (t : sn_H) {μ : sn_S} (q : MS A B μ) (kv cv : Int32) : Sp (d + 2) me_M_about [.ref 5, .int kv, .int cv] (hp x A B t) (some (.int (an_about μ kv cv))) (hp x A B t) := by
  refine Sp.of ok_M_about trivial rfl ?_
  refine Ev.go 2 rfl ?_
  refine Ev.cv (E' := me_M_isBook) rfl mk_M_isBook lv_1_131_1 rfl hp_5 rfl (e_M_isBook d x t q _) ?_
  refine Ev.zn rfl rfl (fun c5 => ?_) (fun c5 => ?_)
  · refine Ev.go 4 rfl ?_
    refine Ev.cs (E' := me_M_within) rfl mk_M_within ls_1_77 rfl rfl (e_M_within0 (d + 1) _ _ (n := 6) rfl) ?_
    refine Ev.zb rfl rfl (fun c22 => ?_) (fun c22 => ?_)
    · refine Ev.go 1 rfl ?_
      exact Ev.reti rfl (by unfold an_about; rw [if_neg (fun z => z (ofd c5)), if_neg (ofn c22)])
    obtain ⟨k, hk, hk2, rfl⟩ := rg_ex (ofd c5)
    have m := q.mk hk
    have hk8 := m.2.2.2.2
    obtain ⟨c, hc, hc2, rfl⟩ := rg_ex (ofd c22)
    refine Ev.go 3 rfl ?_
    refine Ev.cv (E' := me_M_aboutOf) rfl mk_M_aboutOf lv_1_142_1 rfl hp_5 rfl (e_M_aboutOf d x t m rfl rfl hc) ?_
    refine Ev.go 1 rfl ?_
    exact Ev.reti rfl (by unfold an_about; rw [if_neg (fun z => z (ofd c5)), if_pos (ofd c22), tn_nI hk2, tn_nI hc2])
  refine Ev.go 2 rfl ?_
  exact Ev.reti rfl (by unfold an_about; rw [if_pos (ofn c5)])
theorem p_M_at (d : Nat) (x : sn_X5) {A : sn_A2} {B : sn_B2} (t : sn_H) {μ : sn_S} (q : MS A B μ) (kv iv : Int32) : Sp (d + 2) me_M_at [.ref 5, .int kv, .int iv] (hp x A B t) (some (.int (an_at μ kv iv))) (hp x A B t) := by
  refine Sp.of ok_M_at trivial rfl ?_
  refine Ev.go 2 rfl ?_
  refine Ev.cv (E' := me_M_isBook) rfl mk_M_isBook lv_1_131_1 rfl hp_5 rfl (e_M_isBook d x t q _) ?_
  refine Ev.zb rfl rfl (fun c5 => ?_) (fun c5 => ?_)
  · refine Ev.go 1 rfl ?_
    exact Ev.reti rfl (by unfold an_at; rw [if_neg (fun z => ofn c5 z.1)])
  obtain ⟨k, hk, hk2, rfl⟩ := rg_ex (ofd c5)
  have m := q.mk hk
  have hk8 := m.2.2.2.2
  have hm := m.2.2.1.2.1
  refine Ev.go 4 rfl ?_
  refine Ev.gf rfl lf_1_19_1 hp_5 rfl ?_
  refine Ev.go 1 rfl ?_
  refine Ev.iln rfl hp_9 rfl (by omega) (by omega) ?_
  rw [m.2.2.2.1.2.1]
  refine Ev.go 3 rfl ?_
  refine Ev.cs (E' := me_M_within) rfl mk_M_within ls_1_77 rfl rfl (e_M_within0 (d + 1) _ _ (n := bm (sbk μ k)) (sub1_toInt (by have := m.2.2.1.2.1; omega))) ?_
  refine Ev.zb rfl rfl (fun c23 => ?_) (fun c23 => ?_)
  · refine Ev.go 1 rfl ?_
    exact Ev.reti rfl (by unfold an_at; rw [tn_nI hk2, if_neg (fun z => ofn c23 z.2)])
  obtain ⟨i, hi, hi2, rfl⟩ := rg_ex (ofd c23)
  refine Ev.go 1 rfl ?_
  refine Ev.gf rfl lf_1_25_1 hp_5 rfl ?_
  refine Ev.go 5 rfl ?_
  refine Ev.iln rfl hp_11 (by rw [pk_mul, nI_add]) (by omega) (by omega) ?_
  rw [m.2.2.2.1.2.2.2.1 i (by omega)]
  refine Ev.go 1 rfl ?_
  exact Ev.reti rfl (by unfold an_at; rw [tn_nI hk2, if_pos ⟨ofd c5, ofd c23⟩, tn_nI hi2])
theorem p_M_row (d : Nat) (x : sn_X5) {A : sn_A2} {B : sn_B2} (t : sn_H) {μ : sn_S} (q : MS A B μ) (kv iv : Int32) : Sp (d + 2) me_M_row [.ref 5, .int kv, .int iv] (hp x A B t) (some (.long (an_row μ kv iv))) (hp x A B t) := by
  refine Sp.of ok_M_row trivial rfl ?_
  refine Ev.go 2 rfl ?_
  refine Ev.cv (E' := me_M_isBook) rfl mk_M_isBook lv_1_131_1 rfl hp_5 rfl (e_M_isBook d x t q _) ?_
  refine Ev.zb rfl rfl (fun c5 => ?_) (fun c5 => ?_)
  · refine Ev.go 1 rfl ?_
    exact Ev.retl rfl (by unfold an_row; rw [if_neg (fun z => ofn c5 z.1)])
  obtain ⟨k, hk, hk2, rfl⟩ := rg_ex (ofd c5)
  have m := q.mk hk
  have hk8 := m.2.2.2.2
  have hm := m.2.2.1.2.2.2.2.2.2.2.2.2.2.1
  refine Ev.go 4 rfl ?_
  refine Ev.gf rfl lf_1_31_1 hp_5 rfl ?_
  refine Ev.go 1 rfl ?_
  refine Ev.iln rfl hp_13 rfl (by omega) (by omega) ?_
  rw [m.2.2.2.1.2.2.2.2.2.1]
  refine Ev.go 3 rfl ?_
  refine Ev.cs (E' := me_M_within) rfl mk_M_within ls_1_77 rfl rfl (e_M_within0 (d + 1) _ _ (n := bc (sbk μ k)) (sub1_toInt (by omega))) ?_
  refine Ev.zb rfl rfl (fun c23 => ?_) (fun c23 => ?_)
  · refine Ev.go 1 rfl ?_
    exact Ev.retl rfl (by unfold an_row; rw [tn_nI hk2, if_neg (fun z => ofn c23 z.2)])
  obtain ⟨i, hi, hi2, rfl⟩ := rg_ex (ofd c23)
  refine Ev.go 1 rfl ?_
  refine Ev.gf rfl lf_1_34_1 hp_5 rfl ?_
  refine Ev.go 5 rfl ?_
  refine Ev.lln rfl hp_14 (by rw [pk_mul, nI_add]) (by omega) (by omega) ?_
  rw [m.2.2.2.1.2.2.2.2.2.2 i hi]
  refine Ev.go 1 rfl ?_
  exact Ev.retl rfl (by unfold an_row; rw [tn_nI hk2, if_pos ⟨ofd c5, ofd c23⟩, tn_nI hi2])
theorem p_M_places (d : Nat) (x : sn_X5) {A : sn_A2} {B : sn_B2} (t : sn_H) {μ : sn_S} (q : MS A B μ) (kv yv : Int32) : Sp (d + 3) me_M_places [.ref 5, .int kv, .int yv] (hp x A B t) (some (.long (an_places μ kv yv))) (hp x A B t) := by
  refine Sp.of ok_M_places trivial rfl ?_
  refine Ev.go 2 rfl ?_
  refine Ev.cv (E' := me_M_isBook) rfl mk_M_isBook lv_1_131_1 rfl hp_5 rfl (e_M_isBook (d + 1) x t q _) ?_
  refine Ev.zb rfl rfl (fun c5 => ?_) (fun c5 => ?_)
  · refine Ev.go 1 rfl ?_
    exact Ev.retl rfl (by unfold an_places; rw [if_neg (fun z => ofn c5 z.1)])
  refine Ev.go 1 rfl ?_
  refine Ev.cs (E' := me_M_isKey) rfl mk_M_isKey ls_1_93 rfl rfl (e_M_isKey2 (d + 1) _ _) ?_
  refine Ev.zb rfl rfl (fun c12 => ?_) (fun c12 => ?_)
  · refine Ev.go 1 rfl ?_
    exact Ev.retl rfl (by unfold an_places; rw [if_neg (fun z => ofn c12 z.2)])
  obtain ⟨k, hk, hk2, rfl⟩ := rg_ex (ofd c5)
  have m := q.mk hk
  have hk8 := m.2.2.2.2
  obtain ⟨y, hy, hy2, rfl⟩ := rg_ex (ofd c12)
  refine Ev.go 3 rfl ?_
  refine Ev.cv (E' := me_M_placesOf) rfl mk_M_placesOf lv_1_166_1 rfl hp_5 rfl (e_M_placesOf d x t m rfl rfl hy) ?_
  refine Ev.go 1 rfl ?_
  exact Ev.retl rfl (by unfold an_places; rw [if_pos ⟨ofd c5, ofd c12⟩, tn_nI hk2, tn_nI hy2])
theorem p_M_real (d : Nat) (x : sn_X5) {A : sn_A2} {B : sn_B2} (t : sn_H) {μ : sn_S} (q : MS A B μ) (kv yv : Int32) : Sp (d + 2) me_M_real [.ref 5, .int kv, .int yv] (hp x A B t) (some (.int (an_real μ kv yv))) (hp x A B t) := by
  refine Sp.of ok_M_real trivial rfl ?_
  refine Ev.go 2 rfl ?_
  refine Ev.cv (E' := me_M_isBook) rfl mk_M_isBook lv_1_131_1 rfl hp_5 rfl (e_M_isBook d x t q _) ?_
  refine Ev.zb rfl rfl (fun c5 => ?_) (fun c5 => ?_)
  · refine Ev.go 1 rfl ?_
    exact Ev.reti rfl (by unfold an_real; rw [if_neg (fun z => ofn c5 z.1)])
  refine Ev.go 1 rfl ?_
  refine Ev.cs (E' := me_M_isKey) rfl mk_M_isKey ls_1_93 rfl rfl (e_M_isKey2 d _ _) ?_
  refine Ev.zb rfl rfl (fun c12 => ?_) (fun c12 => ?_)
  · refine Ev.go 1 rfl ?_
    exact Ev.reti rfl (by unfold an_real; rw [if_neg (fun z => ofn c12 z.2)])
  obtain ⟨k, hk, hk2, rfl⟩ := rg_ex (ofd c5)
  have m := q.mk hk
  have hk8 := m.2.2.2.2
  obtain ⟨y, hy, hy2, rfl⟩ := rg_ex (ofd c12)
  refine Ev.go 1 rfl ?_
  refine Ev.gf rfl lf_1_28_1 hp_5 rfl ?_
  refine Ev.go 5 rfl ?_
  refine Ev.iln rfl hp_12 (by rw [pk_mul, nI_add]) (by omega) (by omega) ?_
  rw [m.2.2.2.1.2.2.2.2.1 y hy]
  refine Ev.go 1 rfl ?_
  exact Ev.reti rfl (by unfold an_real; rw [if_pos ⟨ofd c5, ofd c12⟩, tn_nI hk2, tn_nI hy2])
theorem p_M_keys (d : Nat) (x : sn_X5) {A : sn_A2} {B : sn_B2} (t : sn_H) {μ : sn_S} (q : MS A B μ) (kv cv : Int32) : Sp (d + 6) me_M_keys [.ref 5, .int kv, .int cv] (hp x A B t) (some (.long (an_keys μ kv cv))) (hp x A B t) := by
  refine Sp.of ok_M_keys trivial rfl ?_
  refine Ev.go 2 rfl ?_
  refine Ev.cv (E' := me_M_isBook) rfl mk_M_isBook lv_1_131_1 rfl hp_5 rfl (e_M_isBook (d + 4) x t q _) ?_
  refine Ev.zn rfl rfl (fun c5 => ?_) (fun c5 => ?_)
  · refine Ev.go 4 rfl ?_
    refine Ev.cs (E' := me_M_within) rfl mk_M_within ls_1_77 rfl rfl (e_M_within0 (d + 5) _ _ (n := 4) rfl) ?_
    refine Ev.zb rfl rfl (fun c23 => ?_) (fun c23 => ?_)
    · refine Ev.go 1 rfl ?_
      exact Ev.retl rfl (by unfold an_keys; rw [if_neg (fun z => z (ofd c5)), if_neg (ofn c23)])
    obtain ⟨k, hk, hk2, rfl⟩ := rg_ex (ofd c5)
    have m := q.mk hk
    have hk8 := m.2.2.2.2
    obtain ⟨c, hc, hc2, rfl⟩ := rg_ex (ofd c23)
    refine Ev.go 3 rfl ?_
    refine Ev.cv (E' := me_M_keysOf) rfl mk_M_keysOf lv_1_210_1 rfl hp_5 rfl (e_M_keysOf d x t m rfl rfl hc) ?_
    refine Ev.go 1 rfl ?_
    exact Ev.retl rfl (by unfold an_keys; rw [if_neg (fun z => z (ofd c5)), if_pos (ofd c23), tn_nI hk2, tn_nI hc2])
  refine Ev.go 2 rfl ?_
  exact Ev.retl rfl (by unfold an_keys; rw [if_pos (ofn c5)])
theorem p_M_as (d : Nat) (x : sn_X5) {A : sn_A2} {B : sn_B2} (t : sn_H) {μ : sn_S} (q : MS A B μ) (kv cv : Int32) : Sp (d + 2) me_M_as [.ref 5, .int kv, .int cv] (hp x A B t) (some (.int (an_as μ kv cv))) (hp x A B t) := by
  refine Sp.of ok_M_as trivial rfl ?_
  refine Ev.go 2 rfl ?_
  refine Ev.cv (E' := me_M_isBook) rfl mk_M_isBook lv_1_131_1 rfl hp_5 rfl (e_M_isBook d x t q _) ?_
  refine Ev.zn rfl rfl (fun c5 => ?_) (fun c5 => ?_)
  · refine Ev.go 4 rfl ?_
    refine Ev.cs (E' := me_M_within) rfl mk_M_within ls_1_77 rfl rfl (e_M_within0 (d + 1) _ _ (n := 6) rfl) ?_
    refine Ev.zn rfl rfl (fun c20 => ?_) (fun c20 => ?_)
    · obtain ⟨k, hk, hk2, rfl⟩ := rg_ex (ofd c5)
      have m := q.mk hk
      have hk8 := m.2.2.2.2
      obtain ⟨c, hc, hc2, rfl⟩ := rg_ex (ofd c20)
      have h5 := m.2.2.1.1
      have hu : an_as μ (nI k) (nI c) = if bk (sbk μ k) = c ∨ (c = 0 ∧ bk (sbk μ k) ≠ 3) ∨ (c = 2 ∧ bk (sbk μ k) = 4) then nI k else - nI 1 := by unfold an_as; rw [if_neg (fun z => z (ofd c5)), if_neg (fun z => z (ofd c20)), tn_nI hk2, tn_nI hc2]
      refine Ev.go 1 rfl ?_
      refine Ev.gf rfl lf_1_16_1 hp_5 rfl ?_
      refine Ev.go 1 rfl ?_
      refine Ev.iln rfl hp_8 rfl (by omega) (by omega) ?_
      rw [m.2.2.2.1.1]
      refine Ev.go 2 rfl ?_
      refine Ev.zne rfl rfl (by omega) (fun c34 => ?_) (fun c34 => ?_)
      · refine Ev.go 4 rfl ?_
        refine Ev.ieq rfl rfl rfl (by omega) (by omega) (fun c51 => ?_) (fun c51 => ?_)
        · refine Ev.go 2 rfl ?_
          exact Ev.reti rfl (by rw [hu]; first | exact (if_pos (by omega)).symm | exact (if_neg (by omega)).symm)
        refine Ev.go 1 rfl ?_
        refine Ev.zne rfl rfl (by omega) (fun c56 => ?_) (fun c56 => ?_)
        · refine Ev.go 2 rfl ?_
          exact Ev.reti rfl (by rw [hu]; first | exact (if_pos (by omega)).symm | exact (if_neg (by omega)).symm)
        refine Ev.go 2 rfl ?_
        refine Ev.ine rfl rfl rfl (by omega) (by omega) (fun c61 => ?_) (fun c61 => ?_)
        · refine Ev.go 1 rfl ?_
          exact Ev.reti rfl (by rw [hu]; first | exact (if_pos (by omega)).symm | exact (if_neg (by omega)).symm)
        refine Ev.go 2 rfl ?_
        refine Ev.ine rfl rfl rfl (by omega) (by omega) (fun c66 => ?_) (fun c66 => ?_)
        · refine Ev.go 1 rfl ?_
          exact Ev.reti rfl (by rw [hu]; first | exact (if_pos (by omega)).symm | exact (if_neg (by omega)).symm)
        refine Ev.go 2 rfl ?_
        exact Ev.reti rfl (by rw [hu]; first | exact (if_pos (by omega)).symm | exact (if_neg (by omega)).symm)
      refine Ev.go 2 rfl ?_
      refine Ev.ieq rfl rfl rfl (by omega) (by omega) (fun c39 => ?_) (fun c39 => ?_)
      · refine Ev.go 4 rfl ?_
        refine Ev.ieq rfl rfl rfl (by omega) (by omega) (fun c51 => ?_) (fun c51 => ?_)
        · refine Ev.go 2 rfl ?_
          exact Ev.reti rfl (by rw [hu]; first | exact (if_pos (by omega)).symm | exact (if_neg (by omega)).symm)
        refine Ev.go 1 rfl ?_
        refine Ev.zne rfl rfl (by omega) (fun c56 => ?_) (fun c56 => ?_)
        · refine Ev.go 2 rfl ?_
          exact Ev.reti rfl (by rw [hu]; first | exact (if_pos (by omega)).symm | exact (if_neg (by omega)).symm)
        refine Ev.go 2 rfl ?_
        refine Ev.ine rfl rfl rfl (by omega) (by omega) (fun c61 => ?_) (fun c61 => ?_)
        · refine Ev.go 1 rfl ?_
          exact Ev.reti rfl (by rw [hu]; first | exact (if_pos (by omega)).symm | exact (if_neg (by omega)).symm)
        refine Ev.go 2 rfl ?_
        refine Ev.ine rfl rfl rfl (by omega) (by omega) (fun c66 => ?_) (fun c66 => ?_)
        · refine Ev.go 1 rfl ?_
          exact Ev.reti rfl (by rw [hu]; first | exact (if_pos (by omega)).symm | exact (if_neg (by omega)).symm)
        refine Ev.go 2 rfl ?_
        exact Ev.reti rfl (by rw [hu]; first | exact (if_pos (by omega)).symm | exact (if_neg (by omega)).symm)
      refine Ev.go 2 rfl ?_
      refine Ev.go 3 rfl ?_
      refine Ev.ieq rfl rfl rfl (by omega) (by omega) (fun c51 => ?_) (fun c51 => ?_)
      · refine Ev.go 2 rfl ?_
        exact Ev.reti rfl (by rw [hu]; first | exact (if_pos (by omega)).symm | exact (if_neg (by omega)).symm)
      refine Ev.go 1 rfl ?_
      refine Ev.zne rfl rfl (by omega) (fun c56 => ?_) (fun c56 => ?_)
      · refine Ev.go 2 rfl ?_
        exact Ev.reti rfl (by rw [hu]; first | exact (if_pos (by omega)).symm | exact (if_neg (by omega)).symm)
      refine Ev.go 2 rfl ?_
      refine Ev.ine rfl rfl rfl (by omega) (by omega) (fun c61 => ?_) (fun c61 => ?_)
      · refine Ev.go 1 rfl ?_
        exact Ev.reti rfl (by rw [hu]; first | exact (if_pos (by omega)).symm | exact (if_neg (by omega)).symm)
      refine Ev.go 2 rfl ?_
      refine Ev.ine rfl rfl rfl (by omega) (by omega) (fun c66 => ?_) (fun c66 => ?_)
      · refine Ev.go 1 rfl ?_
        exact Ev.reti rfl (by rw [hu]; first | exact (if_pos (by omega)).symm | exact (if_neg (by omega)).symm)
      refine Ev.go 2 rfl ?_
      exact Ev.reti rfl (by rw [hu]; first | exact (if_pos (by omega)).symm | exact (if_neg (by omega)).symm)
    refine Ev.go 1 rfl ?_
    exact Ev.reti rfl (by unfold an_as; rw [if_neg (fun z => z (ofd c5)), if_pos (ofn c20)])
  refine Ev.go 1 rfl ?_
  exact Ev.reti rfl (by unfold an_as; rw [if_pos (ofn c5)])
theorem p_M_fewest (d : Nat) (x : sn_X5) {A : sn_A2} {B : sn_B2} (t : sn_H) {μ : sn_S} (q : MS A B μ) (s : Int64) (lv ev : Int32) : Sp (d + 3) me_M_fewest [.ref 5, .long s, .int lv, .int ev] (hp x A B t) (some (.int (an_fewest μ s lv ev))) (hp x A B t) := by
  refine Sp.of ok_M_fewest trivial rfl ?_
  refine Ev.go 2 rfl ?_
  refine Ev.cv (E' := me_M_isLaw) rfl mk_M_isLaw lv_1_89_1 rfl hp_5 rfl (e_M_isLaw (d + 1) x t q.1.1 q.2.1 _) ?_
  refine Ev.zn rfl rfl (fun c5 => ?_) (fun c5 => ?_)
  · refine Ev.go 1 rfl ?_
    refine Ev.cs (E' := me_M_isSet) rfl mk_M_isSet ls_1_108 rfl rfl (e_M_isSet2 (d + 1) _ _) ?_
    refine Ev.zb rfl rfl (fun c15 => ?_) (fun c15 => ?_)
    · refine Ev.go 1 rfl ?_
      exact Ev.reti rfl (by unfold an_fewest; rw [if_neg (fun z => z (ofd c5)), if_pos (fun z => ofn c15 z.1)])
    refine Ev.go 4 rfl ?_
    refine Ev.cs (E' := me_M_within) rfl mk_M_within ls_1_77 rfl rfl (e_M_within0 (d + 2) _ _ (n := 32) rfl) ?_
    refine Ev.zn rfl rfl (fun c28 => ?_) (fun c28 => ?_)
    · obtain ⟨l, hl, hl2, rfl⟩ := rg_ex (ofd c5)
      obtain ⟨e, he, he2, rfl⟩ := rg_ex (ofd c28)
      obtain ⟨s, hs, rfl⟩ := sg_ex (ofd c15)
      have h8 := q.1.1.1
      have h9 := q.1.1.2 l hl
      have hu : an_fewest μ (lN s) (nI l) (nI e) = onI (fwF ((sw μ).2.1 l) ((sw μ).2.2 l) s e 31 2) := by unfold an_fewest; rw [if_neg (fun z => z (ofd c5)), if_neg (fun z => z ⟨ofd c15, ofd c28⟩), tn_nI hl2, tn_nI he2, ts_lN hs]
      rw [hu]
      refine Ev.go 2 rfl ?_
      generalize hz : onI (fwF ((sw μ).2.1 l) ((sw μ).2.2 l) s e 31 2) = z
      have L : ∀ (n : Nat) (m : Nat) (mv : Int32), m + n = 33 → 2 ≤ m → onI (fwF ((sw μ).2.1 l) ((sw μ).2.2 l) s e n m) = z → mv = nI m → Ev o0 (d + 3) me_M_fewest 37 [.ref 5, .long (lN s), .retAddr 0, .int (nI l), .int (nI e), .int mv] [] (hp x A B t) (some (.int z)) (hp x A B t) := by
        intro n
        induction n using Nat.strongRecOn with
        | _ n ih =>
          intro m mv h1 h0 hn e3
          subst e3
          refine Ev.go 2 rfl ?_
          refine Ev.igt rfl rfl rfl (by omega) (by omega) (fun c41 => ?_) (fun c41 => ?_)
          · refine Ev.go 1 rfl ?_
            exact Ev.reti rfl (by rw [← hn, show n = 0 by omega]; rfl)
          refine Ev.go 1 rfl ?_
          refine Ev.gf rfl lf_1_7_1 hp_5 rfl ?_
          refine Ev.go 1 rfl ?_
          refine Ev.iln rfl hp_6 rfl (by omega) (by omega) ?_
          rw [(q.2.1.2 l hl).1]
          refine Ev.go 1 rfl ?_
          refine Ev.gf rfl lf_1_13_1 hp_5 rfl ?_
          refine Ev.go 1 rfl ?_
          refine Ev.iln rfl hp_7 rfl (by omega) (by omega) ?_
          rw [(q.2.1.2 l hl).2]
          refine Ev.go 2 rfl ?_
          refine Ev.cs (E' := me_M_falseBy) rfl mk_M_falseBy ls_1_116 rfl rfl (e_M_falseBy d _ rfl rfl rfl rfl h9.2.1 h9.2.2 h0 (by omega) hs) ?_
          refine Ev.go 1 rfl ?_
          refine Ev.igt rfl rfl rfl (by have := flBy_le ((sw μ).2.1 l) ((sw μ).2.2 l) m s; omega) (by omega) (fun c64 => ?_) (fun c64 => ?_)
          · refine Ev.go 2 rfl ?_
            obtain ⟨n, rfl⟩ : ∃ z, n = z + 1 := ⟨n - 1, by omega⟩
            exact ih n (by omega) (m + 1) _ (by omega) (by omega) (by rw [← hn]; simp only [fwF]; rw [if_neg (by omega)]) (by rw [nI_add])
          refine Ev.go 1 rfl ?_
          exact Ev.reti rfl (by rw [← hn, show n = n - 1 + 1 by omega]; simp only [fwF]; rw [if_pos c64]; rfl)
      exact L 31 2 _ (by omega) (by omega) hz rfl
    refine Ev.go 1 rfl ?_
    exact Ev.reti rfl (by unfold an_fewest; rw [if_neg (fun z => z (ofd c5)), if_pos (fun z => ofn c28 z.2)])
  refine Ev.go 1 rfl ?_
  exact Ev.reti rfl (by unfold an_fewest; rw [if_pos (ofn c5)])
end
section
/-! THE REFERENCE: over all laws -/
theorem bsB_le (s m a : Nat) (z : Nat × Nat × Nat) : ∀ n, (bsB s m a n z).1 ≤ z.1
  | 0 => Nat.le_refl _
  | n + 1 => by
    have := bsB_le s m a z n
    simp only [bsB]
    split
    · simp only; omega
    · exact this
theorem bsA_le (s m z0 : Nat) : ∀ n, (bsA s m z0 n).1 ≤ z0
  | 0 => Nat.le_refl _
  | n + 1 => Nat.le_trans (bsB_le s m (n + 1) (bsA s m z0 n) 37) (bsA_le s m z0 n)
theorem bsA_s (s m z0 n : Nat) : bsA s m z0 (n + 1) = bsB s m (n + 1) 37 (bsA s m z0 n) := rfl
theorem bsB_t {s m a n : Nat} {z : Nat × Nat × Nat} (h : flBy a n m s < (bsB s m a n z).1) : bsB s m a (n + 1) z = (flBy a n m s, a, n) := by simp only [bsB]; rw [if_pos h]
theorem bsB_f {s m a n : Nat} {z : Nat × Nat × Nat} (h : (bsB s m a n z).1 ≤ flBy a n m s) : bsB s m a (n + 1) z = bsB s m a n z := by simp only [bsB]; rw [if_neg (by omega)]
theorem p_M_best (d : Nat) (x : sn_X5) (A : sn_A2) (B : sn_B2) (t : sn_H) (s : Int64) (mv cv : Int32) : Sp (d + 3) me_M_best [.ref 5, .long s, .int mv, .int cv] (hp x A B t) (some (.int (an_best s mv cv))) (hp x A B t) := by
  refine Sp.of ok_M_best trivial rfl ?_
  refine Ev.go 1 rfl ?_
  refine Ev.cs (E' := me_M_isSet) rfl mk_M_isSet ls_1_108 rfl rfl (e_M_isSet2 (d + 1) _ _) ?_
  refine Ev.zb rfl rfl (fun c4 => ?_) (fun c4 => ?_)
  · refine Ev.go 1 rfl ?_
    exact Ev.reti rfl (by unfold an_best; rw [if_pos (fun z => ofn c4 z.1)])
  refine Ev.go 4 rfl ?_
  refine Ev.cs (E' := me_M_within) rfl mk_M_within ls_1_77 rfl rfl (e_M_withinI (d + 2) _ _ (l := 2) (u := 32) rfl rfl) ?_
  refine Ev.zb rfl rfl (fun c18 => ?_) (fun c18 => ?_)
  · refine Ev.go 1 rfl ?_
    exact Ev.reti rfl (by unfold an_best; rw [if_pos (fun z => ofn c18 z.2.1)])
  refine Ev.go 4 rfl ?_
  refine Ev.cs (E' := me_M_within) rfl mk_M_within ls_1_77 rfl rfl (e_M_within0 (d + 2) _ _ (n := 3) rfl) ?_
  refine Ev.zn rfl rfl (fun c31 => ?_) (fun c31 => ?_)
  · obtain ⟨s, hs, rfl⟩ := sg_ex (ofd c4)
    obtain ⟨c, hc, hc2, rfl⟩ := rg_ex (ofd c31)
    obtain ⟨m, hm0, hm3, rfl⟩ := rg_ex (x := mv) (n := 33) ⟨by have := ofd c18; omega, by have := ofd c18; omega⟩
    have hm1 := ofd c18
    rw [nI_toInt hm3] at hm1
    have hm : 2 ≤ m := by omega
    have hm2 : m ≤ 32 := by omega
    have hu : an_best (lN s) (nI m) (nI c) = if c = 0 then nI (bsA s m 99 36).1 else if c = 1 then nI (bsA s m 99 36).2.1 else nI (bsA s m 99 36).2.2 := by
      unfold an_best
      rw [if_neg (fun z => z ⟨ofd c4, ofd c18, ofd c31⟩), tn_nI hc2, tn_nI hm3, ts_lN hs]
    rw [hu]
    generalize hz0 : (if c = 0 then nI (bsA s m 99 36).1 else if c = 1 then nI (bsA s m 99 36).2.1 else nI (bsA s m 99 36).2.2) = z
    refine Ev.go 8 rfl ?_
    have L1 : ∀ (n1 : Nat) (i : Nat) (v5 : Int32) (v6 : Int32) (v7 : Int32) (v8 : Int32) (v9 : Value) (v10 : Value), i + n1 = 36 → v5 = nI (bsA s m 99 i).1 → v6 = nI (bsA s m 99 i).2.1 → v7 = nI (bsA s m 99 i).2.2 → v8 = nI (i + 1) → Ev o0 (d + 3) me_M_best 50 [.ref 5, .long (lN s), .retAddr 0, .int (nI m), .int (nI c), .int v5, .int v6, .int v7, .int v8, v9, v10] [] (hp x A B t) (some (.int z)) (hp x A B t) := by
      intro n1
      induction n1 using Nat.strongRecOn with
      | _ n1 ih1 =>
        intro i v5 v6 v7 v8 v9 v10 h1 h5 h6 h7 h8
        subst h5
        subst h6
        subst h7
        subst h8
        have hz := bsA_le s m 99 i
        refine Ev.go 2 rfl ?_
        refine Ev.igt rfl rfl rfl (by omega) (by omega) (fun c54 => ?_) (fun c54 => ?_)
        · refine Ev.go 1 rfl ?_
          refine Ev.zne rfl rfl (by omega) (fun c140 => ?_) (fun c140 => ?_)
          · refine Ev.go 2 rfl ?_
            refine Ev.ine rfl rfl rfl (by omega) (by omega) (fun c151 => ?_) (fun c151 => ?_)
            · refine Ev.go 1 rfl ?_
              exact Ev.reti rfl (by rw [← hz0, show i = 36 by omega]; first | exact (if_pos c140).symm | (rw [if_neg (by omega)]; first | exact (if_pos c151).symm | exact (if_neg c151).symm))
            refine Ev.go 2 rfl ?_
            exact Ev.reti rfl (by rw [← hz0, show i = 36 by omega]; first | exact (if_pos c140).symm | (rw [if_neg (by omega)]; first | exact (if_pos c151).symm | exact (if_neg c151).symm))
          refine Ev.go 2 rfl ?_
          exact Ev.reti rfl (by rw [← hz0, show i = 36 by omega]; first | exact (if_pos c140).symm | (rw [if_neg (by omega)]; first | exact (if_pos c151).symm | exact (if_neg c151).symm))
        refine Ev.go 2 rfl ?_
        have L2 : ∀ (n : Nat) (j : Nat) (v5 : Int32) (v6 : Int32) (v7 : Int32) (v9 : Int32) (v10 : Value), j + n = 37 → v5 = nI (bsB s m (i + 1) j (bsA s m 99 i)).1 → v6 = nI (bsB s m (i + 1) j (bsA s m 99 i)).2.1 → v7 = nI (bsB s m (i + 1) j (bsA s m 99 i)).2.2 → v9 = nI j → Ev o0 (d + 3) me_M_best 60 [.ref 5, .long (lN s), .retAddr 0, .int (nI m), .int (nI c), .int v5, .int v6, .int v7, .int (nI (i + 1)), .int v9, v10] [] (hp x A B t) (some (.int z)) (hp x A B t) := by
          intro n
          induction n using Nat.strongRecOn with
          | _ n ih =>
            intro j v5 v6 v7 v9 v10 g1 g5 g6 g7 g9
            subst g5
            subst g6
            subst g7
            subst g9
            have hz := Nat.le_trans (bsB_le s m (i + 1) (bsA s m 99 i) j) (bsA_le s m 99 i)
            have hf := flBy_le (i + 1) j m s
            refine Ev.go 2 rfl ?_
            refine Ev.igt rfl rfl rfl (by omega) (by omega) (fun c64 => ?_) (fun c64 => ?_)
            · have e37 : j = 37 := by omega
              subst e37
              refine Ev.go 2 rfl ?_
              exact ih1 (n1 - 1) (by omega) (i + 1) _ _ _ _ _ _ (by omega) (by rw [bsA_s]) (by rw [bsA_s]) (by rw [bsA_s]) (by rw [nI_add])
            refine Ev.go 4 rfl ?_
            refine Ev.cs (E' := me_M_falseBy) rfl mk_M_falseBy ls_1_116 rfl rfl (e_M_falseBy d _ rfl rfl rfl rfl (by omega) (by omega) hm hm2 hs) ?_
            refine Ev.go 3 rfl ?_
            refine Ev.ige rfl rfl rfl (by omega) (by omega) (fun c82 => ?_) (fun c82 => ?_)
            · refine Ev.go 4 rfl ?_
              refine Ev.ige rfl rfl rfl (by omega) (by omega) (fun c98 => ?_) (fun c98 => ?_)
              · refine Ev.go 4 rfl ?_
                refine Ev.ige rfl rfl rfl (by omega) (by omega) (fun c114 => ?_) (fun c114 => ?_)
                · refine Ev.go 4 rfl ?_
                  first
                    | (exfalso; omega)
                    | exact ih (n - 1) (by omega) (j + 1) _ _ _ _ _ (by omega) (by rw [bsB_f c82]) (by rw [bsB_f c82]) (by rw [bsB_f c82]) (by rw [nI_add])
                refine Ev.go 2 rfl ?_
                refine Ev.go 3 rfl ?_
                first
                  | (exfalso; omega)
                  | exact ih (n - 1) (by omega) (j + 1) _ _ _ _ _ (by omega) (by rw [bsB_f c82]) (by rw [bsB_f c82]) (by rw [bsB_f c82]) (by rw [nI_add])
              refine Ev.go 2 rfl ?_
              refine Ev.go 3 rfl ?_
              refine Ev.ige rfl rfl rfl (by omega) (by omega) (fun c114 => ?_) (fun c114 => ?_)
              · refine Ev.go 4 rfl ?_
                first
                  | (exfalso; omega)
                  | exact ih (n - 1) (by omega) (j + 1) _ _ _ _ _ (by omega) (by rw [bsB_f c82]) (by rw [bsB_f c82]) (by rw [bsB_f c82]) (by rw [nI_add])
              refine Ev.go 2 rfl ?_
              refine Ev.go 3 rfl ?_
              first
                | (exfalso; omega)
                | exact ih (n - 1) (by omega) (j + 1) _ _ _ _ _ (by omega) (by rw [bsB_f c82]) (by rw [bsB_f c82]) (by rw [bsB_f c82]) (by rw [nI_add])
            refine Ev.go 2 rfl ?_
            refine Ev.go 3 rfl ?_
            refine Ev.ige rfl rfl rfl (by omega) (by omega) (fun c98 => ?_) (fun c98 => ?_)
            · refine Ev.go 4 rfl ?_
              refine Ev.ige rfl rfl rfl (by omega) (by omega) (fun c114 => ?_) (fun c114 => ?_)
              · refine Ev.go 4 rfl ?_
                first
                  | (exfalso; omega)
                  | exact ih (n - 1) (by omega) (j + 1) _ _ _ _ _ (by omega) (by rw [bsB_t c82]) (by rw [bsB_t c82]) (by rw [bsB_t c82]) (by rw [nI_add])
              refine Ev.go 2 rfl ?_
              refine Ev.go 3 rfl ?_
              first
                | (exfalso; omega)
                | exact ih (n - 1) (by omega) (j + 1) _ _ _ _ _ (by omega) (by rw [bsB_t c82]) (by rw [bsB_t c82]) (by rw [bsB_t c82]) (by rw [nI_add])
            refine Ev.go 2 rfl ?_
            refine Ev.go 3 rfl ?_
            refine Ev.ige rfl rfl rfl (by omega) (by omega) (fun c114 => ?_) (fun c114 => ?_)
            · refine Ev.go 4 rfl ?_
              first
                | (exfalso; omega)
                | exact ih (n - 1) (by omega) (j + 1) _ _ _ _ _ (by omega) (by rw [bsB_t c82]) (by rw [bsB_t c82]) (by rw [bsB_t c82]) (by rw [nI_add])
            refine Ev.go 2 rfl ?_
            refine Ev.go 3 rfl ?_
            first
              | (exfalso; omega)
              | exact ih (n - 1) (by omega) (j + 1) _ _ _ _ _ (by omega) (by rw [bsB_t c82]) (by rw [bsB_t c82]) (by rw [bsB_t c82]) (by rw [nI_add])
        exact L2 37 0 _ _ _ _ _ (by omega) rfl rfl rfl rfl
    exact L1 36 0 _ _ _ _ _ _ (by omega) rfl rfl rfl rfl
  refine Ev.go 1 rfl ?_
  exact Ev.reti rfl (by unfold an_best; rw [if_pos (fun z => ofn c31 z.2.2)])
theorem p_M_odds (d : Nat) (x : sn_X5) (A : sn_A2) (B : sn_B2) (t : sn_H) (s : Int64) (yv mv cv : Int32) : Sp (d + 3) me_M_odds [.ref 5, .long s, .int yv, .int mv, .int cv] (hp x A B t) (some (.int (an_odds s yv mv cv))) (hp x A B t) := by
  refine Sp.of ok_M_odds trivial rfl ?_
  refine Ev.go 1 rfl ?_
  refine Ev.cs (E' := me_M_isSet) rfl mk_M_isSet ls_1_108 rfl rfl (e_M_isSet2 (d + 1) _ _) ?_
  refine Ev.zb rfl rfl (fun c4 => ?_) (fun c4 => ?_)
  · refine Ev.go 1 rfl ?_
    exact Ev.reti rfl (by unfold an_odds; rw [if_pos (fun z => ofn c4 z.1)])
  refine Ev.go 4 rfl ?_
  refine Ev.cs (E' := me_M_within) rfl mk_M_within ls_1_77 rfl rfl (e_M_withinI (d + 2) _ _ (l := 2) (u := 32) rfl rfl) ?_
  refine Ev.zb rfl rfl (fun c19 => ?_) (fun c19 => ?_)
  · refine Ev.go 1 rfl ?_
    exact Ev.reti rfl (by unfold an_odds; rw [if_pos (fun z => ofn c19 z.2.1)])
  refine Ev.go 4 rfl ?_
  refine Ev.cs (E' := me_M_within) rfl mk_M_within ls_1_77 rfl rfl (e_M_within0 (d + 2) _ _ (n := 2) rfl) ?_
  refine Ev.zn rfl rfl (fun c30 => ?_) (fun c30 => ?_)
  · obtain ⟨s, hs, rfl⟩ := sg_ex (ofd c4)
    obtain ⟨c, hc, hc2, rfl⟩ := rg_ex (ofd c30)
    obtain ⟨m, hm0, hm3, rfl⟩ := rg_ex (x := mv) (n := 33) ⟨by have := ofd c19; omega, by have := ofd c19; omega⟩
    have hm1 := ofd c19
    rw [nI_toInt hm3] at hm1
    have hm : 2 ≤ m := by omega
    have hm2 : m ≤ 32 := by omega
    have hu : an_odds (lN s) yv (nI m) (nI c) = if ¬ (rg yv 32 ∧ s.testBit (tn yv) = false) then - nI 101 else nI ((if c = 0 then odA s (tn yv) m 36 else 1332) / Nat.gcd (odA s (tn yv) m 36) 1332) := by
      unfold an_odds
      rw [if_neg (fun z => z ⟨ofd c4, ofd c19, ofd c30⟩), tn_nI hc2, tn_nI hm3, ts_lN hs]
    rw [hu]
    refine Ev.go 1 rfl ?_
    refine Ev.cs (E' := me_M_isKey) rfl mk_M_isKey ls_1_93 rfl rfl (e_M_isKey2 (d + 1) _ _) ?_
    refine Ev.zb rfl rfl (fun c40 => ?_) (fun c40 => ?_)
    · refine Ev.go 1 rfl ?_
      exact Ev.reti rfl (by rw [if_pos (fun z => ofn c40 z.1)])
    obtain ⟨y, hy, hy2, rfl⟩ := rg_ex (ofd c40)
    rw [tn_nI hy2]
    refine Ev.go 2 rfl ?_
    refine Ev.cs (E' := me_M_has) rfl mk_M_has ls_1_100 rfl rfl (e_M_has (d + 2) _ rfl rfl (by omega) (by omega)) ?_
    refine Ev.zb rfl rfl (fun c48 => ?_) (fun c48 => ?_)
    · rw [if_neg (fun z => z ⟨ofd c40, c48⟩)]
      generalize hz0 : nI ((if c = 0 then odA s y m 36 else 1332) / Nat.gcd (odA s y m 36) 1332) = z
      refine Ev.go 6 rfl ?_
      have L3 : ∀ (n : Nat) (a : Nat) (e : Nat) (v8 : Int32) (v9 : Int32) (v10 : Value), e ≤ n → a ≤ 1332 → e ≤ 1332 → Nat.gcd a e = Nat.gcd (odA s y m 36) 1332 → v8 = nI a → v9 = nI e → Ev o0 (d + 3) me_M_odds 142 [.ref 5, .long (lN s), .retAddr 0, .int (nI y), .int (nI m), .int (nI c), .int (nI (odA s y m 36)), .int (nI 1332), .int v8, .int v9, v10] [] (hp x A B t) (some (.int z)) (hp x A B t) := by
        intro n
        induction n using Nat.strongRecOn with
        | _ n ih =>
          intro a e v8 v9 v10 g1 g2 g3 g4 g8 g9
          subst g8
          subst g9
          have h36 := odA_le s y m 36
          refine Ev.go 1 rfl ?_
          refine Ev.zeq rfl rfl (by omega) (fun c144 => ?_) (fun c144 => ?_)
          · subst c144
            rw [Nat.gcd_zero_right] at g4
            have ha0 : 0 < a := by rw [g4]; exact Nat.gcd_pos_of_pos_right _ (by omega)
            refine Ev.go 1 rfl ?_
            refine Ev.zne rfl rfl (by omega) (fun c167 => ?_) (fun c167 => ?_)
            · refine Ev.go 2 rfl ?_
              refine Ev.dv rfl rfl rfl (by omega) (by omega) (by omega) ?_
              exact Ev.reti rfl (by rw [← hz0, ← g4]; first | rw [if_pos c167] | rw [if_neg (by omega)])
            refine Ev.go 2 rfl ?_
            refine Ev.dv rfl rfl rfl (by omega) (by omega) (by omega) ?_
            refine Ev.go 1 rfl ?_
            exact Ev.reti rfl (by rw [← hz0, ← g4]; first | rw [if_pos c167] | rw [if_neg (by omega)])
          refine Ev.go 2 rfl ?_
          refine Ev.rm rfl rfl rfl (by omega) (by omega) (by omega) ?_
          refine Ev.go 6 rfl ?_
          have hr := Nat.mod_lt a c144
          exact ih (a % e) (by omega) e (a % e) _ _ _ (Nat.le_refl _) g3 (by omega) (by rw [← g4, Nat.gcd_comm a e, Nat.gcd_rec e a, Nat.gcd_comm]) rfl rfl
      have L1 : ∀ (n1 : Nat) (i : Nat) (v6 : Int32) (v7 : Int32) (v8 : Int32) (v9 : Value), i + n1 = 36 → v6 = nI (odA s y m i) → v7 = nI (37 * i) → v8 = nI (i + 1) → Ev o0 (d + 3) me_M_odds 63 [.ref 5, .long (lN s), .retAddr 0, .int (nI y), .int (nI m), .int (nI c), .int v6, .int v7, .int v8, v9, .retAddr 0] [] (hp x A B t) (some (.int z)) (hp x A B t) := by
        intro n1
        induction n1 using Nat.strongRecOn with
        | _ n1 ih1 =>
          intro i v6 v7 v8 v9 h1 h6 h7 h8
          subst h6
          subst h7
          subst h8
          refine Ev.go 2 rfl ?_
          refine Ev.igt rfl rfl rfl (by omega) (by omega) (fun c67 => ?_) (fun c67 => ?_)
          · refine Ev.go 4 rfl ?_
            have e36 : i = 36 := by omega
            subst e36
            exact L3 1332 (odA s y m 36) 1332 _ _ _ (by omega) (by have := odA_le s y m 36; omega) (by omega) rfl rfl rfl
          refine Ev.go 2 rfl ?_
          have L2 : ∀ (n : Nat) (j : Nat) (v6 : Int32) (v7 : Int32) (v9 : Int32), j + n = 37 → v6 = nI (odA s y m i + odB s y m (i + 1) j) → v7 = nI (37 * i + j) → v9 = nI j → Ev o0 (d + 3) me_M_odds 73 [.ref 5, .long (lN s), .retAddr 0, .int (nI y), .int (nI m), .int (nI c), .int v6, .int v7, .int (nI (i + 1)), .int v9, .retAddr 0] [] (hp x A B t) (some (.int z)) (hp x A B t) := by
            intro n
            induction n using Nat.strongRecOn with
            | _ n ih =>
              intro j v6 v7 v9 g1 g6 g7 g9
              subst g6
              subst g7
              subst g9
              refine Ev.go 2 rfl ?_
              refine Ev.igt rfl rfl rfl (by omega) (by omega) (fun c77 => ?_) (fun c77 => ?_)
              · have e37 : j = 37 := by omega
                subst e37
                refine Ev.go 2 rfl ?_
                exact ih1 (n1 - 1) (by omega) (i + 1) _ _ _ _ (by omega) rfl (by congr 1) (by rw [nI_add])
              refine Ev.go 6 rfl ?_
              refine Ev.cs (E' := me_M_placesBy) rfl mk_M_placesBy ls_1_104 rfl rfl (e_M_placesBy (d + 1) _ rfl rfl rfl rfl (by omega) (by omega) hm hm2 hs) ?_
              refine Ev.go 6 rfl ?_
              refine Ev.rm rfl (by rw [pk_mul, nI_add]) rfl (lin (by omega) (by omega) hy) (by omega) (by omega) ?_
              refine Ev.go 1 rfl ?_
              refine Ev.rm rfl rfl rfl (by omega) (by omega) (by omega) ?_
              refine Ev.cs (E' := me_M_has) rfl mk_M_has ls_1_100 rfl rfl (e_M_has (d + 2) _ rfl rfl (by have := plBy_lt (a := i + 1) (b := j) (s := s) (show 0 < m by omega) hm2; omega) (by have := Nat.mod_lt (((i + 1) * y + j) % 37) (show 0 < m by omega); omega)) ?_
              refine Ev.zb rfl rfl (fun c111 => ?_) (fun c111 => ?_)
              · refine Ev.go 5 rfl ?_
                exact ih (n - 1) (by omega) (j + 1) _ _ _ (by omega) (by rw [nI_add]; congr 1; rw [Nat.add_assoc]; congr 1; simp [odB, ctf, val, c111]) (by rw [nI_add]; congr 1) (by rw [nI_add])
              refine Ev.go 2 rfl ?_
              refine Ev.go 4 rfl ?_
              exact ih (n - 1) (by omega) (j + 1) _ _ _ (by omega) (by rw [nI_add]; congr 1; rw [Nat.add_assoc]; congr 1; simp [odB, ctf, val, c111]) (by rw [nI_add]; congr 1) (by rw [nI_add])
          exact L2 37 0 _ _ _ (by omega) (by simp [odB, ctf]) rfl rfl
      exact L1 36 0 _ _ _ _ (by omega) rfl rfl rfl
    refine Ev.go 1 rfl ?_
    exact Ev.reti rfl (by rw [if_pos (fun z => by rw [c48] at z; cases z.2)])
  refine Ev.go 1 rfl ?_
  exact Ev.reti rfl (by unfold an_odds; rw [if_pos (fun z => ofn c30 z.2.2)])
end
section
/-! EVP: the method ends somehow, and P holds of its answer and of the cells -/
def EvP (Ω : sn_O) (d : Nat) (E : sn_E) (pc : Nat) (lv st : List Value) (h : sn_H) (P : Option Value → sn_H → Prop) : Prop := ∃ r h', Ev Ω d E pc lv st h r h' ∧ P r h'
def SpP (d : Nat) (E : sn_E) (args : List Value) (h : sn_H) (P : Option Value → sn_H → Prop) : Prop := ∃ r h', Sp d E args h r h' ∧ P r h'
theorem SpP.of {d : Nat} {E : sn_E} {args lv : List Value} {h : sn_H} {P : Option Value → sn_H → Prop} (ok : sn_MOK E) (hrc : ∀ r h', P r h' → sn_rc E.2.2.2.2.2 r) (hent : sn_ent E.2.2.2.2.1 args = some (0, lv, [])) (K : EvP o0 d E 0 lv [] h P) : SpP d E args h P := by
  obtain ⟨r, h', e, q⟩ := K
  exact ⟨r, h', Sp.of ok (hrc r h' q) hent e, q⟩
theorem SpP.imp {d : Nat} {E : sn_E} {args : List Value} {h : sn_H} {P P' : Option Value → sn_H → Prop} (K : SpP d E args h P) (i : ∀ r h', P r h' → P' r h') : SpP d E args h P' := by
  obtain ⟨r, h', e, q⟩ := K
  exact ⟨r, h', e, i r h' q⟩
theorem Sp.p {d : Nat} {E : sn_E} {args : List Value} {h h' : sn_H} {r : Option Value} {P : Option Value → sn_H → Prop} (K : Sp d E args h r h') (q : P r h') : SpP d E args h P := ⟨r, h', K, q⟩
section EV
variable {Ω : sn_O} {d : Nat} {E : sn_E} {pc : Nat} {lv rest st : List Value} {h : sn_H} {P : Option Value → sn_H → Prop} {len nx tg len2 nx2 tg2 : Nat}
theorem EvP.s {pc' : Nat} {lv' st' : List Value} {h1 : sn_H} (S : ∀ (r : Option Value) (h' : sn_H), Ev Ω d E pc' lv' st' h1 r h' → Ev Ω d E pc lv st h r h') (K : EvP Ω d E pc' lv' st' h1 P) : EvP Ω d E pc lv st h P := by
  obtain ⟨r, h', e, q⟩ := K
  exact ⟨r, h', S r h' e, q⟩
theorem EvP.br {p1 p2 : Nat} {lv' st' : List Value} {i : Instr} {c : Prop} [Decidable c] (hi : sn_tg E.2.1 pc = some (i, len, nx, tg)) (h1 : sn_ps E.1 E.2.2.2.2.1 i nx tg pc lv st = some (True, (if c then p1 else p2), lv', st'))
    (K1 : c → EvP Ω d E p1 lv' st' h P) (K2 : ¬ c → EvP Ω d E p2 lv' st' h P) : EvP Ω d E pc lv st h P := by
  by_cases hc : c
  · exact EvP.s (fun _ _ K => Ev.bt hi h1 hc K) (K1 hc)
  · exact EvP.s (fun _ _ K => Ev.bf hi h1 hc K) (K2 hc)
theorem EvP.brn {p1 p2 : Nat} {lv' st' : List Value} {i : Instr} {c : Prop} [Decidable c] (hi : sn_tg E.2.1 pc = some (i, len, nx, tg)) (h1 : sn_ps E.1 E.2.2.2.2.1 i nx tg pc lv st = some (True, (if c then p2 else p1), lv', st'))
    (K1 : ¬ c → EvP Ω d E p1 lv' st' h P) (K2 : c → EvP Ω d E p2 lv' st' h P) : EvP Ω d E pc lv st h P := EvP.br hi h1 K2 K1
theorem EvP.zb {c : Bool} {x : Int32} {o : Int} (hi : sn_tg E.2.1 pc = some (.ifCond .eq o, len, nx, tg)) (ex : x = b2i c) (K1 : c = false → EvP Ω d E tg lv rest h P) (K2 : c = true → EvP Ω d E nx lv rest h P) : EvP Ω d E pc lv (.int x :: rest) h P := by
  cases c with
  | false => exact EvP.s (fun _ _ K => Ev.zb hi ex (fun _ => K) (fun q => by cases q)) (K1 rfl)
  | true => exact EvP.s (fun _ _ K => Ev.zb hi ex (fun q => by cases q) (fun _ => K)) (K2 rfl)
theorem EvP.zn {c : Bool} {x : Int32} {o : Int} (hi : sn_tg E.2.1 pc = some (.ifCond .ne o, len, nx, tg)) (ex : x = b2i c) (K1 : c = true → EvP Ω d E tg lv rest h P) (K2 : c = false → EvP Ω d E nx lv rest h P) : EvP Ω d E pc lv (.int x :: rest) h P := by
  cases c with
  | false => exact EvP.s (fun _ _ K => Ev.zn hi ex (fun q => by cases q) (fun _ => K)) (K2 rfl)
  | true => exact EvP.s (fun _ _ K => Ev.zn hi ex (fun _ => K) (fun q => by cases q)) (K1 rfl)
theorem EvP.ieq {x y : Int32} {a b : Nat} {o : Int} (hi : sn_tg E.2.1 pc = some (.if_icmp .eq o, len, nx, tg)) (ex : x = nI a) (ey : y = nI b) (ha : a < 2 ^ 31) (hb : b < 2 ^ 31) (K1 : a = b → EvP Ω d E tg lv rest h P) (K2 : ¬ a = b → EvP Ω d E nx lv rest h P) : EvP Ω d E pc lv (.int y :: .int x :: rest) h P := by
  by_cases c : a = b
  · exact EvP.s (fun _ _ K => Ev.ieq hi ex ey ha hb (fun _ => K) (fun q => absurd c (by omega))) (K1 c)
  · exact EvP.s (fun _ _ K => Ev.ieq hi ex ey ha hb (fun q => absurd q c) (fun _ => K)) (K2 (by omega))
theorem EvP.ine {x y : Int32} {a b : Nat} {o : Int} (hi : sn_tg E.2.1 pc = some (.if_icmp .ne o, len, nx, tg)) (ex : x = nI a) (ey : y = nI b) (ha : a < 2 ^ 31) (hb : b < 2 ^ 31) (K1 : ¬ a = b → EvP Ω d E tg lv rest h P) (K2 : a = b → EvP Ω d E nx lv rest h P) : EvP Ω d E pc lv (.int y :: .int x :: rest) h P := by
  by_cases c : ¬ a = b
  · exact EvP.s (fun _ _ K => Ev.ine hi ex ey ha hb (fun _ => K) (fun q => absurd c (by omega))) (K1 c)
  · exact EvP.s (fun _ _ K => Ev.ine hi ex ey ha hb (fun q => absurd q c) (fun _ => K)) (K2 (by omega))
theorem EvP.ilt {x y : Int32} {a b : Nat} {o : Int} (hi : sn_tg E.2.1 pc = some (.if_icmp .lt o, len, nx, tg)) (ex : x = nI a) (ey : y = nI b) (ha : a < 2 ^ 31) (hb : b < 2 ^ 31) (K1 : a < b → EvP Ω d E tg lv rest h P) (K2 : b ≤ a → EvP Ω d E nx lv rest h P) : EvP Ω d E pc lv (.int y :: .int x :: rest) h P := by
  by_cases c : a < b
  · exact EvP.s (fun _ _ K => Ev.ilt hi ex ey ha hb (fun _ => K) (fun q => absurd c (by omega))) (K1 c)
  · exact EvP.s (fun _ _ K => Ev.ilt hi ex ey ha hb (fun q => absurd q c) (fun _ => K)) (K2 (by omega))
theorem EvP.ige {x y : Int32} {a b : Nat} {o : Int} (hi : sn_tg E.2.1 pc = some (.if_icmp .ge o, len, nx, tg)) (ex : x = nI a) (ey : y = nI b) (ha : a < 2 ^ 31) (hb : b < 2 ^ 31) (K1 : b ≤ a → EvP Ω d E tg lv rest h P) (K2 : a < b → EvP Ω d E nx lv rest h P) : EvP Ω d E pc lv (.int y :: .int x :: rest) h P := by
  by_cases c : b ≤ a
  · exact EvP.s (fun _ _ K => Ev.ige hi ex ey ha hb (fun _ => K) (fun q => absurd c (by omega))) (K1 c)
  · exact EvP.s (fun _ _ K => Ev.ige hi ex ey ha hb (fun q => absurd q c) (fun _ => K)) (K2 (by omega))
theorem EvP.igt {x y : Int32} {a b : Nat} {o : Int} (hi : sn_tg E.2.1 pc = some (.if_icmp .gt o, len, nx, tg)) (ex : x = nI a) (ey : y = nI b) (ha : a < 2 ^ 31) (hb : b < 2 ^ 31) (K1 : b < a → EvP Ω d E tg lv rest h P) (K2 : a ≤ b → EvP Ω d E nx lv rest h P) : EvP Ω d E pc lv (.int y :: .int x :: rest) h P := by
  by_cases c : b < a
  · exact EvP.s (fun _ _ K => Ev.igt hi ex ey ha hb (fun _ => K) (fun q => absurd c (by omega))) (K1 c)
  · exact EvP.s (fun _ _ K => Ev.igt hi ex ey ha hb (fun q => absurd q c) (fun _ => K)) (K2 (by omega))
theorem EvP.ile {x y : Int32} {a b : Nat} {o : Int} (hi : sn_tg E.2.1 pc = some (.if_icmp .le o, len, nx, tg)) (ex : x = nI a) (ey : y = nI b) (ha : a < 2 ^ 31) (hb : b < 2 ^ 31) (K1 : a ≤ b → EvP Ω d E tg lv rest h P) (K2 : b < a → EvP Ω d E nx lv rest h P) : EvP Ω d E pc lv (.int y :: .int x :: rest) h P := by
  by_cases c : a ≤ b
  · exact EvP.s (fun _ _ K => Ev.ile hi ex ey ha hb (fun _ => K) (fun q => absurd c (by omega))) (K1 c)
  · exact EvP.s (fun _ _ K => Ev.ile hi ex ey ha hb (fun q => absurd q c) (fun _ => K)) (K2 (by omega))
theorem EvP.leq {x y : Int64} {a b : Nat} {o : Int} (hi : sn_tg E.2.1 pc = some (.lcmp, len, nx, tg)) (hi2 : sn_tg E.2.1 nx = some (.ifCond .eq o, len2, nx2, tg2)) (ex : x = lN a) (ey : y = lN b) (ha : a < 2 ^ 63) (hb : b < 2 ^ 63) (K1 : a = b → EvP Ω d E tg2 lv rest h P) (K2 : ¬ a = b → EvP Ω d E nx2 lv rest h P) : EvP Ω d E pc lv (.long y :: .long x :: rest) h P := by
  by_cases c : a = b
  · exact EvP.s (fun _ _ K => Ev.leq hi hi2 ex ey ha hb (fun _ => K) (fun q => absurd c (by omega))) (K1 c)
  · exact EvP.s (fun _ _ K => Ev.leq hi hi2 ex ey ha hb (fun q => absurd q c) (fun _ => K)) (K2 (by omega))
theorem EvP.lne {x y : Int64} {a b : Nat} {o : Int} (hi : sn_tg E.2.1 pc = some (.lcmp, len, nx, tg)) (hi2 : sn_tg E.2.1 nx = some (.ifCond .ne o, len2, nx2, tg2)) (ex : x = lN a) (ey : y = lN b) (ha : a < 2 ^ 63) (hb : b < 2 ^ 63) (K1 : ¬ a = b → EvP Ω d E tg2 lv rest h P) (K2 : a = b → EvP Ω d E nx2 lv rest h P) : EvP Ω d E pc lv (.long y :: .long x :: rest) h P := by
  by_cases c : ¬ a = b
  · exact EvP.s (fun _ _ K => Ev.lne hi hi2 ex ey ha hb (fun _ => K) (fun q => absurd c (by omega))) (K1 c)
  · exact EvP.s (fun _ _ K => Ev.lne hi hi2 ex ey ha hb (fun q => absurd q c) (fun _ => K)) (K2 (by omega))
theorem EvP.llt {x y : Int64} {a b : Nat} {o : Int} (hi : sn_tg E.2.1 pc = some (.lcmp, len, nx, tg)) (hi2 : sn_tg E.2.1 nx = some (.ifCond .lt o, len2, nx2, tg2)) (ex : x = lN a) (ey : y = lN b) (ha : a < 2 ^ 63) (hb : b < 2 ^ 63) (K1 : a < b → EvP Ω d E tg2 lv rest h P) (K2 : b ≤ a → EvP Ω d E nx2 lv rest h P) : EvP Ω d E pc lv (.long y :: .long x :: rest) h P := by
  by_cases c : a < b
  · exact EvP.s (fun _ _ K => Ev.llt hi hi2 ex ey ha hb (fun _ => K) (fun q => absurd c (by omega))) (K1 c)
  · exact EvP.s (fun _ _ K => Ev.llt hi hi2 ex ey ha hb (fun q => absurd q c) (fun _ => K)) (K2 (by omega))
theorem EvP.lge {x y : Int64} {a b : Nat} {o : Int} (hi : sn_tg E.2.1 pc = some (.lcmp, len, nx, tg)) (hi2 : sn_tg E.2.1 nx = some (.ifCond .ge o, len2, nx2, tg2)) (ex : x = lN a) (ey : y = lN b) (ha : a < 2 ^ 63) (hb : b < 2 ^ 63) (K1 : b ≤ a → EvP Ω d E tg2 lv rest h P) (K2 : a < b → EvP Ω d E nx2 lv rest h P) : EvP Ω d E pc lv (.long y :: .long x :: rest) h P := by
  by_cases c : b ≤ a
  · exact EvP.s (fun _ _ K => Ev.lge hi hi2 ex ey ha hb (fun _ => K) (fun q => absurd c (by omega))) (K1 c)
  · exact EvP.s (fun _ _ K => Ev.lge hi hi2 ex ey ha hb (fun q => absurd q c) (fun _ => K)) (K2 (by omega))
theorem EvP.lgt {x y : Int64} {a b : Nat} {o : Int} (hi : sn_tg E.2.1 pc = some (.lcmp, len, nx, tg)) (hi2 : sn_tg E.2.1 nx = some (.ifCond .gt o, len2, nx2, tg2)) (ex : x = lN a) (ey : y = lN b) (ha : a < 2 ^ 63) (hb : b < 2 ^ 63) (K1 : b < a → EvP Ω d E tg2 lv rest h P) (K2 : a ≤ b → EvP Ω d E nx2 lv rest h P) : EvP Ω d E pc lv (.long y :: .long x :: rest) h P := by
  by_cases c : b < a
  · exact EvP.s (fun _ _ K => Ev.lgt hi hi2 ex ey ha hb (fun _ => K) (fun q => absurd c (by omega))) (K1 c)
  · exact EvP.s (fun _ _ K => Ev.lgt hi hi2 ex ey ha hb (fun q => absurd q c) (fun _ => K)) (K2 (by omega))
theorem EvP.lle {x y : Int64} {a b : Nat} {o : Int} (hi : sn_tg E.2.1 pc = some (.lcmp, len, nx, tg)) (hi2 : sn_tg E.2.1 nx = some (.ifCond .le o, len2, nx2, tg2)) (ex : x = lN a) (ey : y = lN b) (ha : a < 2 ^ 63) (hb : b < 2 ^ 63) (K1 : a ≤ b → EvP Ω d E tg2 lv rest h P) (K2 : b < a → EvP Ω d E nx2 lv rest h P) : EvP Ω d E pc lv (.long y :: .long x :: rest) h P := by
  by_cases c : a ≤ b
  · exact EvP.s (fun _ _ K => Ev.lle hi hi2 ex ey ha hb (fun _ => K) (fun q => absurd c (by omega))) (K1 c)
  · exact EvP.s (fun _ _ K => Ev.lle hi hi2 ex ey ha hb (fun q => absurd q c) (fun _ => K)) (K2 (by omega))
theorem EvP.zle {x : Int32} {a : Nat} {o : Int} (hi : sn_tg E.2.1 pc = some (.ifCond .le o, len, nx, tg)) (ex : x = nI a) (ha : a < 2 ^ 31) (K1 : a = 0 → EvP Ω d E tg lv rest h P) (K2 : 0 < a → EvP Ω d E nx lv rest h P) : EvP Ω d E pc lv (.int x :: rest) h P := by
  by_cases c : a = 0
  · exact EvP.s (fun _ _ K => Ev.zle hi ex ha (fun _ => K) (fun q => absurd c (by omega))) (K1 c)
  · exact EvP.s (fun _ _ K => Ev.zle hi ex ha (fun q => absurd q c) (fun _ => K)) (K2 (by omega))
theorem EvP.zgt {x : Int32} {a : Nat} {o : Int} (hi : sn_tg E.2.1 pc = some (.ifCond .gt o, len, nx, tg)) (ex : x = nI a) (ha : a < 2 ^ 31) (K1 : 0 < a → EvP Ω d E tg lv rest h P) (K2 : a = 0 → EvP Ω d E nx lv rest h P) : EvP Ω d E pc lv (.int x :: rest) h P := by
  by_cases c : 0 < a
  · exact EvP.s (fun _ _ K => Ev.zgt hi ex ha (fun _ => K) (fun q => absurd c (by omega))) (K1 c)
  · exact EvP.s (fun _ _ K => Ev.zgt hi ex ha (fun q => absurd q c) (fun _ => K)) (K2 (by omega))
theorem EvP.zeq {x : Int32} {a : Nat} {o : Int} (hi : sn_tg E.2.1 pc = some (.ifCond .eq o, len, nx, tg)) (ex : x = nI a) (ha : a < 2 ^ 31) (K1 : a = 0 → EvP Ω d E tg lv rest h P) (K2 : 0 < a → EvP Ω d E nx lv rest h P) : EvP Ω d E pc lv (.int x :: rest) h P := by
  by_cases c : a = 0
  · exact EvP.s (fun _ _ K => Ev.zeq hi ex ha (fun _ => K) (fun q => absurd c (by omega))) (K1 c)
  · exact EvP.s (fun _ _ K => Ev.zeq hi ex ha (fun q => absurd q c) (fun _ => K)) (K2 (by omega))
theorem EvP.zne {x : Int32} {a : Nat} {o : Int} (hi : sn_tg E.2.1 pc = some (.ifCond .ne o, len, nx, tg)) (ex : x = nI a) (ha : a < 2 ^ 31) (K1 : 0 < a → EvP Ω d E tg lv rest h P) (K2 : a = 0 → EvP Ω d E nx lv rest h P) : EvP Ω d E pc lv (.int x :: rest) h P := by
  by_cases c : 0 < a
  · exact EvP.s (fun _ _ K => Ev.zne hi ex ha (fun _ => K) (fun q => absurd c (by omega))) (K1 c)
  · exact EvP.s (fun _ _ K => Ev.zne hi ex ha (fun q => absurd q c) (fun _ => K)) (K2 (by omega))
end EV
end
section
/-! HOW A STATE CHANGES -/
def uN (f : Nat → Nat) (i v : Nat) : Nat → Nat := fun j => if j = i then v else f j
def setB (μ : sn_S) (k : Nat) (b : sn_Bk) : sn_S := (μ.1, μ.2.1, fun j => if j = k then b else μ.2.2 j)
def bnu (b : sn_Bk) (g : Nat → Nat) : sn_Bk := (b.1, b.2.1, b.2.2.1, g, b.2.2.2.2)
def btu (b : sn_Bk) (g : Nat → Nat) : sn_Bk := (b.1, b.2.1, b.2.2.1, b.2.2.2.1, g, b.2.2.2.2.2)
def bru (b : sn_Bk) (c : Nat) (g : Nat → Nat) : sn_Bk := (b.1, b.2.1, b.2.2.1, b.2.2.2.1, b.2.2.2.2.1, c, g)
theorem setB_k (μ : sn_S) (k : Nat) (b : sn_Bk) : sbk (setB μ k b) k = b := if_pos rfl
theorem setB_n (μ : sn_S) {k j : Nat} (b : sn_Bk) (h : j ≠ k) : sbk (setB μ k b) j = sbk μ j := if_neg h
theorem setB_u (μ : sn_S) (k : Nat) (b c : sn_Bk) : setB (setB μ k b) k c = setB μ k c := by
  unfold setB
  congr 2
  funext j
  by_cases h : j = k <;> simp [h]
theorem setB_id (μ : sn_S) (k : Nat) : setB μ k (sbk μ k) = μ := by
  unfold setB
  obtain ⟨w, n, f⟩ := μ
  congr 2
  funext j
  by_cases h : j = k
  · subst h; simp
  · simp [h]
theorem WB.bnu {n : Nat} {b : sn_Bk} (h : WB n b) {g : Nat → Nat} (h7 : ∀ i, g i ≤ 7) (h0 : ∀ i, bm b ≤ i → g i = 0) : WB n (bnu b g) :=
  ⟨h.1, h.2.1, h.2.2.1, h.2.2.2.1, h.2.2.2.2.1, h.2.2.2.2.2.1, h.2.2.2.2.2.2.1, h7, h0, h.2.2.2.2.2.2.2.2.2.1, h.2.2.2.2.2.2.2.2.2.2.1, h.2.2.2.2.2.2.2.2.2.2.2⟩
theorem WB.btu {n : Nat} {b : sn_Bk} (h : WB n b) {g : Nat → Nat} (h9 : ∀ i, g i ≤ 99) : WB n (btu b g) :=
  ⟨h.1, h.2.1, h.2.2.1, h.2.2.2.1, h.2.2.2.2.1, h.2.2.2.2.2.1, h.2.2.2.2.2.2.1, h.2.2.2.2.2.2.2.1, h.2.2.2.2.2.2.2.2.1, h9, h.2.2.2.2.2.2.2.2.2.2.1, h.2.2.2.2.2.2.2.2.2.2.2⟩
theorem WB.bru {n : Nat} {b : sn_Bk} (h : WB n b) {c : Nat} {g : Nat → Nat} (h6 : c ≤ 6) (h2 : ∀ i, g i < 2 ^ 32) : WB n (bru b c g) :=
  ⟨h.1, h.2.1, h.2.2.1, h.2.2.2.1, h.2.2.2.2.1, h.2.2.2.2.2.1, h.2.2.2.2.2.2.1, h.2.2.2.2.2.2.2.1, h.2.2.2.2.2.2.2.2.1, h.2.2.2.2.2.2.2.2.2.1, h6, h2⟩
theorem WS.setB {μ : sn_S} (h : WS μ) {k : Nat} {b : sn_Bk} (hb : WB (sw μ).1 b) : WS (setB μ k b) := by
  refine ⟨h.1, h.2.1, fun j hj => ?_⟩
  by_cases e : j = k
  · subst e; rw [setB_k]; exact hb
  · rw [setB_n μ b e]; exact h.2.2 j hj
theorem upd_n {f : Nat → Int32} {k j : Nat} {x : Int32} (h : j ≠ k) : upd f k x j = f j := pk_un h
/-- a number of book k changes -/
theorem MS.num {A : sn_A2} {B : sn_B2} {μ : sn_S} (h : MS A B μ) {k i v : Nat} {j : Nat} (hj : j = 32 * k + i) (hk : k < snb μ) (hi : i < 32) (hv : v ≤ 7) (hz : bm (sbk μ k) ≤ i → v = 0) : MS (uA A 11 (upd (A 11) j (nI v))) B (setB μ k (bnu (sbk μ k) (uN (bn (sbk μ k)) i v))) := by
  subst hj
  have hb := h.1.2.2 k hk
  refine ⟨h.1.setB (hb.bnu (fun z => ?_) (fun z hz2 => ?_)), ?_, ?_, fun j hj => ?_⟩
  · unfold uN; split
    · exact hv
    · exact hb.2.2.2.2.2.2.2.1 z
  · unfold uN; split
    · rename_i e; exact hz (by omega)
    · exact hb.2.2.2.2.2.2.2.2.1 z hz2
  · exact ⟨h.2.1.1, h.2.1.2⟩
  · exact h.2.2.1
  · by_cases e : j = k
    · subst e
      obtain ⟨a1, a2, a3, a4, a5, a6, a7⟩ := h.2.2.2 j hj
      rw [setB_k]
      refine ⟨a1, a2, a3, fun z hz => ?_, a5, a6, a7⟩
      show upd (A 11) (32 * j + i) (nI v) (32 * j + z) = nI (uN (bn (sbk μ j)) i v z)
      by_cases e2 : z = i
      · subst e2; rw [pk_us]; unfold uN; rw [if_pos rfl]
      · rw [upd_n (by omega), a4 z hz]; unfold uN; rw [if_neg e2]
    · obtain ⟨a1, a2, a3, a4, a5, a6, a7⟩ := h.2.2.2 j hj
      rw [setB_n μ _ e]
      refine ⟨a1, a2, a3, fun z hz => ?_, a5, a6, a7⟩
      show upd (A 11) (32 * k + i) (nI v) (32 * j + z) = _
      rw [upd_n (by omega), a4 z hz]
/-- how often a key is really in book k changes -/
theorem MS.tim {A : sn_A2} {B : sn_B2} {μ : sn_S} (h : MS A B μ) {k i v : Nat} {j : Nat} (hj : j = 32 * k + i) (hk : k < snb μ) (hi : i < 32) (hv : v ≤ 99) : MS (uA A 12 (upd (A 12) j (nI v))) B (setB μ k (btu (sbk μ k) (uN (bt (sbk μ k)) i v))) := by
  subst hj
  have hb := h.1.2.2 k hk
  refine ⟨h.1.setB (hb.btu (fun z => ?_)), ?_, ?_, fun j hj => ?_⟩
  · unfold uN; split
    · exact hv
    · exact hb.2.2.2.2.2.2.2.2.2.1 z
  · exact ⟨h.2.1.1, h.2.1.2⟩
  · exact h.2.2.1
  · by_cases e : j = k
    · subst e
      obtain ⟨a1, a2, a3, a4, a5, a6, a7⟩ := h.2.2.2 j hj
      rw [setB_k]
      refine ⟨a1, a2, a3, a4, fun z hz => ?_, a6, a7⟩
      show upd (A 12) (32 * j + i) (nI v) (32 * j + z) = nI (uN (bt (sbk μ j)) i v z)
      by_cases e2 : z = i
      · subst e2; rw [pk_us]; unfold uN; rw [if_pos rfl]
      · rw [upd_n (by omega), a5 z hz]; unfold uN; rw [if_neg e2]
    · obtain ⟨a1, a2, a3, a4, a5, a6, a7⟩ := h.2.2.2 j hj
      rw [setB_n μ _ e]
      refine ⟨a1, a2, a3, a4, fun z hz => ?_, a6, a7⟩
      show upd (A 12) (32 * k + i) (nI v) (32 * j + z) = _
      rw [upd_n (by omega), a5 z hz]
/-- rows that hold nothing of the state: scratch, and what lies behind the last book -/
def sn_scr (a : Nat) : Bool := Nat.ble 15 a
theorem MS.scr {A : sn_A2} {B : sn_B2} {μ : sn_S} (h : MS A B μ) {a : Nat} (f : Nat → Int32) (ha : sn_scr a = true) : MS (uA A a f) B μ := by
  have h1 : ∀ c, c < 15 → uA A a f c = A c := fun c hc => uA_n A f (by
    cases hq : Nat.beq c a with
    | false => rfl
    | true => have := Nat.eq_of_beq_eq_true hq; have := Nat.le_of_ble_eq_true ha; omega)
  unfold MS ML MB
  rw [h1 0 (by omega), h1 6 (by omega), h1 7 (by omega), h1 8 (by omega), h1 9 (by omega), h1 10 (by omega), h1 11 (by omega), h1 12 (by omega), h1 13 (by omega)]
  exact h
theorem MS.scrB {A : sn_A2} {B : sn_B2} {μ : sn_S} (h : MS A B μ) {a : Nat} (f : Nat → Int64) (ha : Nat.beq 14 a = false) : MS A (uB B a f) μ := by
  have h1 : uB B a f 14 = B 14 := uB_n B f ha
  unfold MS MB
  rw [h1]
  exact h
/-- pushing -/
def pshF (m : Nat) : Nat → (Nat → Nat) → Nat → Nat → Option (Nat → Nat)
  | 0, _, _, _ => none
  | n + 1, g, p, f => if uN g p f (oth m p (g p)) = 0 then some (uN (uN g p f) (oth m p (g p)) (g p)) else pshF m n (uN g p f) (oth m p (g p)) (g p)
def psh (m : Nat) (g : Nat → Nat) (p f : Nat) : Option (Nat → Nat) := if g p = 0 then some (uN g p f) else if g (oth m p f) = 0 then some (uN g (oth m p f) f) else pshF m 8 g p f
/-- numbers behind a put, a take -/
def gput (k m pl : Nat) (g : Nat → Nat) : Nat → Nat := fun i => if i < m ∧ pl.testBit i = true then (if k = 1 then (if g i < 7 then g i + 1 else 7) else 1) else g i
def gtak (m pl : Nat) (g : Nat → Nat) : Nat → Nat := fun i => if i < m ∧ pl.testBit i = true ∧ g i < 7 then g i - 1 else g i
def nput (w : sn_Lw) (b : sn_Bk) (y : Nat) : Option (Nat → Nat) := if bk b = 3 then psh (bm b) (bn b) (frs w b y) (mrk w b 1 y) else some (gput (bk b) (bm b) (pls w b y) (bn b))
def ntak (w : sn_Lw) (b : sn_Bk) (y : Nat) : Nat → Nat := if bk b = 3 then uN (bn b) (if bn b (frs w b y) = mrk w b 1 y then frs w b y else oth (bm b) (frs w b y) (mrk w b 1 y)) 0 else gtak (bm b) (pls w b y) (bn b)
/-- put: the answer, the state -/
def an_put (μ : sn_S) (k y : Int32) : Int32 × sn_S :=
  if ¬ (rg k (snb μ) ∧ rg y 32) then (- nI 101, μ)
  else if bk (sbk μ (tn k)) = 4 ∨ bk (sbk μ (tn k)) = 5 ∨ bt (sbk μ (tn k)) (tn y) = 99 then (- nI 103, μ)
  else match nput (sw μ) (sbk μ (tn k)) (tn y) with
    | none => (- nI 104, μ)
    | some g => (b2i (isin (sw μ) (sbk μ (tn k)) (tn y)), setB μ (tn k) (btu (bnu (sbk μ (tn k)) g) (uN (bt (sbk μ (tn k))) (tn y) (bt (sbk μ (tn k)) (tn y) + 1))))
def an_take (μ : sn_S) (k y : Int32) : Int32 × sn_S :=
  if ¬ (rg k (snb μ) ∧ rg y 32) then (- nI 101, μ)
  else if ¬ ((bk (sbk μ (tn k)) = 1 ∨ bk (sbk μ (tn k)) = 3) ∧ isin (sw μ) (sbk μ (tn k)) (tn y) = true) then (- nI 103, μ)
  else (nI (if 0 < bt (sbk μ (tn k)) (tn y) then 1 else 0), setB μ (tn k) (btu (bnu (sbk μ (tn k)) (ntak (sw μ) (sbk μ (tn k)) (tn y))) (uN (bt (sbk μ (tn k))) (tn y) (bt (sbk μ (tn k)) (tn y) - 1))))
def addL (μ : sn_S) (a b : Nat) : sn_S := (((sw μ).1 + 1, uN (sw μ).2.1 (sw μ).1 a, uN (sw μ).2.2 (sw μ).1 b), μ.2)
def addB (μ : sn_S) (b : sn_Bk) : sn_S := (μ.1, snb μ + 1, fun j => if j = snb μ then b else sbk μ j)
def an_law (μ : sn_S) (a b : Int32) : Int32 × sn_S := if ¬ ((1 ≤ a.toInt ∧ a.toInt ≤ 36) ∧ rg b 37) then (- nI 102, μ) else if (sw μ).1 = 8 then (- nI 104, μ) else (nI (sw μ).1, addL μ (tn a) (tn b))
def fits_ (kd n : Nat) : Prop := if kd = 3 then n = 2 else if kd = 4 then n = 3 else 1 ≤ n ∧ n ≤ 3
def nbk (kd m ls : Nat) : sn_Bk := (kd, m, ls, fun _ => 0, fun _ => 0, 0, fun _ => 0)
end
section
/-! THE REFERENCE: put, take -/
theorem bn_bnu (b : sn_Bk) (g : Nat → Nat) : bn (bnu b g) = g := rfl
theorem bm_bnu (b : sn_Bk) (g : Nat → Nat) : bm (bnu b g) = bm b := rfl
theorem bt_btu (b : sn_Bk) (g : Nat → Nat) : bt (btu b g) = g := rfl
theorem MS.mkg {A : sn_A2} {B : sn_B2} {μ : sn_S} {k : Nat} {c : sn_Bk} (h : MS A B (setB μ k c)) (hk : k < snb μ) : MK A B (sw μ) k c := by
  have := h.mk (k := k) hk
  rw [setB_k] at this
  exact this
theorem MS.numg {A : sn_A2} {B : sn_B2} {μ : sn_S} {k : Nat} {b : sn_Bk} {g : Nat → Nat} (h : MS A B (setB μ k (bnu b g))) (hk : k < snb μ) {i v : Nat} (hi : i < bm b) (hm : bm b ≤ 32) (hv : v ≤ 7) : MS (uA A 11 (upd (A 11) (32 * k + i) (nI v))) B (setB μ k (bnu b (uN g i v))) := by
  have := h.num (k := k) (i := i) (v := v) rfl hk (by omega) hv (fun q => by rw [setB_k] at q; have : bm (bnu b g) = bm b := rfl; omega)
  rw [setB_k, setB_u] at this
  exact this
theorem MS.numg0 {A : sn_A2} {B : sn_B2} {μ : sn_S} {k : Nat} {b : sn_Bk} {g : Nat → Nat} (h : MS A B (setB μ k (bnu b g))) (hk : k < snb μ) {i v : Nat} (hi : i < 32) (hv : v ≤ 7) (hz : bm b ≤ i → v = 0) : MS (uA A 11 (upd (A 11) (32 * k + i) (nI v))) B (setB μ k (bnu b (uN g i v))) := by
  have := h.num (k := k) (i := i) (v := v) rfl hk hi hv (fun q => by rw [setB_k] at q; exact hz q)
  rw [setB_k, setB_u] at this
  exact this
theorem MS.timg {A : sn_A2} {B : sn_B2} {μ : sn_S} {k : Nat} {b : sn_Bk} (h : MS A B (setB μ k b)) (hk : k < snb μ) {i v : Nat} (hi : i < 32) (hv : v ≤ 99) : MS (uA A 12 (upd (A 12) (32 * k + i) (nI v))) B (setB μ k (btu b (uN (bt b) i v))) := by
  have := h.tim (k := k) (i := i) (v := v) rfl hk hi hv
  rw [setB_k, setB_u] at this
  exact this
theorem MS.self {A : sn_A2} {B : sn_B2} {μ : sn_S} (h : MS A B μ) (k : Nat) : MS A B (setB μ k (sbk μ k)) := by rw [setB_id]; exact h
theorem e_M_push (d : Nat) (x : sn_X5) {A : sn_A2} {B : sn_B2} (t : sn_H) {μ : sn_S} (q : MS A B μ) {k y : Nat} {kv yv : Int32} (e1 : kv = nI k) (e2 : yv = nI y) (hk : k < snb μ) (hy : y < 32) {w : sn_Lw} {b : sn_Bk} (hw : w = sw μ) (hb : b = sbk μ k) (h3 : bk b = 3) : SpP (d + 2) me_M_push [.ref 5, .int kv, .int yv] (hp x A B t) (fun (r : Option Value) (h' : sn_H) => ∃ A', h' = hp x A' B t ∧ r = some (.int (b2i (psh (bm b) (bn b) (frs w b y) (mrk w b 1 y)).isSome)) ∧ MS A' B (setB μ k (bnu b ((psh (bm b) (bn b) (frs w b y) (mrk w b 1 y)).getD (bn b))))) := by
  subst e1; subst e2
  have hk8 : k < 8 := by have := q.1.2.1; omega
  have hwb : WB w.1 b := by rw [hw, hb]; exact q.1.2.2 k hk
  have hm := hwb.2.1
  have h7 := hwb.2.2.2.2.2.2.2.1
  generalize hPe : (fun (r : Option Value) (h' : sn_H) => ∃ A', h' = hp x A' B t ∧ r = some (.int (b2i (psh (bm b) (bn b) (frs w b y) (mrk w b 1 y)).isSome)) ∧ MS A' B (setB μ k (bnu b ((psh (bm b) (bn b) (frs w b y) (mrk w b 1 y)).getD (bn b))))) = P
  refine SpP.of ok_M_push (fun r h' z => by rw [← hPe] at z; obtain ⟨_, _, rfl, _⟩ := z; exact b2i_rc _) rfl ?_
  have L4 : psh (bm b) (bn b) (frs w b y) (mrk w b 1 y) = none → ∀ (n : Nat) (A : sn_A2) (g : Nat → Nat) (i : Nat) (iv : Int32), (i + n = 32) → (MS A B (setB μ k (bnu b g))) → (∀ j, j < 32 → A 15 j = nI (bn b j)) → (∀ j, j < i → g j = bn b j) → (iv = nI i) → ∀ (v3 v4 v5 v6 v7 : Int32) (v9 : Value), EvP o0 (d + 2) me_M_push 219 [.ref 5, .int (nI k), .int (nI y), .int v3, .int v4, .int v5, .int v6, .int v7, .int iv, v9] [] (hp x A B t) P := by
    intro hG n
    induction n using Nat.strongRecOn with
    | _ n ih =>
      intro A g i iv h1 hM hW hg e3
      subst e3
      intro v3 v4 v5 v6 v7 v9
      refine EvP.s (fun _ _ K => Ev.go 2 rfl K) ?_
      refine EvP.ige rfl rfl rfl (by omega) (by omega) (fun c223 => ?_) (fun c223 => ?_)
      · refine EvP.s (fun _ _ K => Ev.go 1 rfl K) ?_
        refine ⟨_, _, Ev.reti rfl rfl, ?_⟩
        rw [← hPe]
        refine ⟨A, rfl, by rw [hG]; rfl, ?_⟩
        rw [hG]
        have eg : g = bn b := by
          funext j
          by_cases e : j < i
          · exact hg j e
          · have z1 := (hM.mkg hk).2.2.1.2.2.2.2.2.2.2.2.1 j (by show bm b ≤ j; omega)
            rw [hwb.2.2.2.2.2.2.2.2.1 j (by omega)]; exact z1
        rw [eg] at hM
        exact hM
      refine EvP.s (fun _ _ K => Ev.go 1 rfl K) ?_
      refine EvP.s (fun _ _ K => Ev.gf rfl lf_1_25_1 hp_5 rfl K) ?_
      refine EvP.s (fun _ _ K => Ev.go 6 rfl K) ?_
      refine EvP.s (fun _ _ K => Ev.gf rfl lf_1_38_1 hp_5 rfl K) ?_
      refine EvP.s (fun _ _ K => Ev.go 1 rfl K) ?_
      refine EvP.s (fun _ _ K => Ev.iln rfl hp_15 rfl (by omega) (by omega) K) ?_
      rw [hW i (by omega)]
      refine EvP.s (fun _ _ K => Ev.isn rfl hp_11 (by rw [pk_mul, nI_add]) (by omega) (by omega) K) ?_
      rw [hps_11]
      refine EvP.s (fun _ _ K => Ev.go 2 rfl K) ?_
      exact ih (n - 1) (by omega) _ (uN g i (bn b i)) (i + 1) _ (by omega) (hM.numg0 hk (by omega) (hwb.2.2.2.2.2.2.2.1 i) (fun q => hwb.2.2.2.2.2.2.2.2.1 i q)) hW (fun j hj => by
        by_cases e : j = i
        · subst e; exact if_pos rfl
        · exact (if_neg e).trans (hg j (by omega))) (by rw [nI_add]) _ _ _ _ _ _
  have L3 : ∀ (n : Nat) (A : sn_A2) (g : Nat → Nat) (i : Nat) (p : Nat) (f : Nat) (fv : Int32) (pv : Int32) (iv : Int32), (i + n = 8) → (MS A B (setB μ k (bnu b g))) → (∀ j, j < 32 → A 15 j = nI (bn b j)) → (p < bm b) → (f ≤ 7) → (pshF (bm b) n g p f = psh (bm b) (bn b) (frs w b y) (mrk w b 1 y)) → (fv = nI f) → (pv = nI p) → (iv = nI i) → ∀ (v3 v4 v5 : Int32) (v9 : Value), EvP o0 (d + 2) me_M_push 129 [.ref 5, .int (nI k), .int (nI y), .int v3, .int v4, .int v5, .int fv, .int pv, .int iv, v9] [] (hp x A B t) P := by
    intro n
    induction n using Nat.strongRecOn with
    | _ n ih =>
      intro A g i p f fv pv iv h1 hM hW hp2 hf hG e1 e2 e3
      subst e1
      subst e2
      subst e3
      intro v3 v4 v5 v9
      refine EvP.s (fun _ _ K => Ev.go 2 rfl K) ?_
      refine EvP.ige rfl rfl rfl (by omega) (by omega) (fun c133 => ?_) (fun c133 => ?_)
      · refine EvP.s (fun _ _ K => Ev.go 2 rfl K) ?_
        have e0 : n = 0 := by omega
        subst e0
        exact L4 hG.symm 32 A g 0 _ (by omega) hM hW (fun j hj => absurd hj (by omega)) rfl _ _ _ _ _ _
      obtain ⟨n, rfl⟩ : ∃ z, n = z + 1 := ⟨n - 1, by omega⟩
      have m := hM.mkg hk
      have h70 : g p ≤ 7 := m.2.2.1.2.2.2.2.2.2.2.1 p
      refine EvP.s (fun _ _ K => Ev.go 1 rfl K) ?_
      refine EvP.s (fun _ _ K => Ev.gf rfl lf_1_25_1 hp_5 rfl K) ?_
      refine EvP.s (fun _ _ K => Ev.go 5 rfl K) ?_
      refine EvP.s (fun _ _ K => Ev.iln rfl hp_11 (by rw [pk_mul, nI_add]) (by omega) (by omega) K) ?_
      rw [m.2.2.2.1.2.2.2.1 p (by omega), bn_bnu]
      refine EvP.s (fun _ _ K => Ev.go 2 rfl K) ?_
      refine EvP.s (fun _ _ K => Ev.gf rfl lf_1_25_1 hp_5 rfl K) ?_
      refine EvP.s (fun _ _ K => Ev.go 6 rfl K) ?_
      refine EvP.s (fun _ _ K => Ev.isn rfl hp_11 (by rw [pk_mul, nI_add]) (by omega) (by omega) K) ?_
      rw [hps_11]
      have hM := hM.numg hk (i := p) (v := f) hp2 hm.2 hf
      obtain ⟨A2, hA2⟩ : ∃ z, z = uA A 11 (upd (A 11) (32 * k + p) (nI f)) := ⟨_, rfl⟩
      have hW : ∀ j, j < 32 → A2 15 j = nI (bn b j) := fun j hj => by rw [hA2]; exact hW j hj
      rw [← hA2] at hM ⊢
      clear hA2
      have m2 := hM.mkg hk
      have h7 : ∀ j, uN g p f j ≤ 7 := m2.2.2.1.2.2.2.2.2.2.2.1
      have ho := oth_lt p (g p) (show 0 < bm b by omega)
      refine EvP.s (fun _ _ K => Ev.go 6 rfl K) ?_
      refine EvP.s (fun _ _ K => Ev.cv (E' := me_M_otherPlace) rfl mk_M_otherPlace lv_1_159_1 rfl hp_5 rfl (e_M_otherPlace (d + 1) x t m2 rfl rfl rfl hp2 (by omega)) K) ?_
      obtain ⟨q1, hq1⟩ : ∃ z, z = oth (bm b) p (g p) := ⟨_, rfl⟩
      rw [bm_bnu, ← hq1]
      have hq2 : q1 < bm b := by omega
      refine EvP.s (fun _ _ K => Ev.go 2 rfl K) ?_
      refine EvP.s (fun _ _ K => Ev.gf rfl lf_1_25_1 hp_5 rfl K) ?_
      refine EvP.s (fun _ _ K => Ev.go 5 rfl K) ?_
      refine EvP.s (fun _ _ K => Ev.iln rfl hp_11 (by rw [pk_mul, nI_add]) (by omega) (by omega) K) ?_
      rw [m2.2.2.2.1.2.2.2.1 q1 (by omega), bn_bnu]
      refine EvP.zne rfl rfl (by have := h7 q1; omega) (fun c191 => ?_) (fun c191 => ?_)
      · refine EvP.s (fun _ _ K => Ev.go 2 rfl K) ?_
        exact ih n (by omega) A2 (uN g p f) (i + 1) q1 (g p) _ _ _ (by omega) hM hW hq2 h70 (by rw [← hG]; simp only [pshF]; rw [← hq1, if_neg (by have : 0 < uN g p f q1 := c191; omega)]) rfl rfl (by rw [nI_add]) _ _ _ _
      refine EvP.s (fun _ _ K => Ev.go 1 rfl K) ?_
      refine EvP.s (fun _ _ K => Ev.gf rfl lf_1_25_1 hp_5 rfl K) ?_
      refine EvP.s (fun _ _ K => Ev.go 6 rfl K) ?_
      refine EvP.s (fun _ _ K => Ev.isn rfl hp_11 (by rw [pk_mul, nI_add]) (by omega) (by omega) K) ?_
      rw [hps_11]
      have hM := hM.numg hk (i := q1) (v := g p) hq2 hm.2 h70
      refine EvP.s (fun _ _ K => Ev.go 1 rfl K) ?_
      refine ⟨_, _, Ev.reti rfl rfl, ?_⟩
      have hG2 : psh (bm b) (bn b) (frs w b y) (mrk w b 1 y) = some (uN (uN g p f) q1 (g p)) := by
        rw [← hG]; simp only [pshF]; rw [← hq1, if_pos c191]
      rw [← hPe]
      exact ⟨_, rfl, by rw [hG2]; rfl, by rw [hG2]; exact hM⟩
  have L2 : ∀ A, MS A B μ → (∀ j, j < 32 → A 15 j = nI (bn b j)) → ∀ v3 : Value, EvP o0 (d + 2) me_M_push 31 [.ref 5, .int (nI k), .int (nI y), v3, .retAddr 0, .retAddr 0, .retAddr 0, .retAddr 0, .retAddr 0, .retAddr 0] [] (hp x A B t) P := by
    intro A hM hW v3
    have m := hM.mk hk
    rw [← hb, ← hw] at m
    have hM := hM.self k
    rw [← hb] at hM
    have r11 := m.2.2.2.1.2.2.2.1
    obtain ⟨p, hp0⟩ : ∃ z, z = frs w b y := ⟨_, rfl⟩
    obtain ⟨f, hf0⟩ : ∃ z, z = mrk w b 1 y := ⟨_, rfl⟩
    obtain ⟨o, ho0⟩ : ∃ z, z = oth (bm b) p f := ⟨_, rfl⟩
    have hp2 : p < bm b := by rw [hp0]; exact frs_lt hwb y
    have hmk := mrk_le (w := w) (b := b) 1 y
    have ho2 : o < bm b := by rw [ho0]; exact oth_lt _ _ (by omega)
    have hGd : psh (bm b) (bn b) (frs w b y) (mrk w b 1 y) = if bn b p = 0 then some (uN (bn b) p f) else if bn b o = 0 then some (uN (bn b) o f) else pshF (bm b) 8 (bn b) p f := by
      rw [ho0, hp0, hf0]; rfl
    refine EvP.s (fun _ _ K => Ev.go 3 rfl K) ?_
    refine EvP.s (fun _ _ K => Ev.cv (E' := me_M_firstPlace) rfl mk_M_firstPlace lv_1_153_1 rfl hp_5 rfl (e_M_firstPlace d x t m rfl rfl hy) K) ?_
    rw [← hp0]
    refine EvP.s (fun _ _ K => Ev.go 4 rfl K) ?_
    refine EvP.s (fun _ _ K => Ev.cv (E' := me_M_pushedMark) rfl mk_M_pushedMark lv_1_156_1 rfl hp_5 rfl (e_M_pushedMark d x t m rfl rfl hy (by have := hwb.2.2.2.2.2.1 h3; omega)) K) ?_
    rw [← hf0]
    refine EvP.s (fun _ _ K => Ev.go 5 rfl K) ?_
    refine EvP.s (fun _ _ K => Ev.cv (E' := me_M_otherPlace) rfl mk_M_otherPlace lv_1_159_1 rfl hp_5 rfl (e_M_otherPlace (d + 1) x t m rfl rfl rfl hp2 (by omega)) K) ?_
    rw [← ho0]
    refine EvP.s (fun _ _ K => Ev.go 2 rfl K) ?_
    refine EvP.s (fun _ _ K => Ev.gf rfl lf_1_25_1 hp_5 rfl K) ?_
    refine EvP.s (fun _ _ K => Ev.go 5 rfl K) ?_
    refine EvP.s (fun _ _ K => Ev.iln rfl hp_11 (by rw [pk_mul, nI_add]) (by omega) (by omega) K) ?_
    rw [r11 p (by omega)]
    refine EvP.zeq rfl rfl (by have := h7 p; omega) (fun c67 => ?_) (fun c67 => ?_)
    · refine EvP.s (fun _ _ K => Ev.go 1 rfl K) ?_
      refine EvP.s (fun _ _ K => Ev.gf rfl lf_1_25_1 hp_5 rfl K) ?_
      refine EvP.s (fun _ _ K => Ev.go 4 rfl K) ?_
      refine EvP.s (fun _ _ K => Ev.gf rfl lf_1_25_1 hp_5 rfl K) ?_
      refine EvP.s (fun _ _ K => Ev.go 5 rfl K) ?_
      refine EvP.s (fun _ _ K => Ev.iln rfl hp_11 (by rw [pk_mul, nI_add]) (by omega) (by omega) K) ?_
      rw [r11 p (by omega)]
      refine EvP.zne rfl rfl (by have := h7 p; omega) (fun c104 => ?_) (fun c104 => ?_)
      · refine EvP.s (fun _ _ K => Ev.go 3 rfl K) ?_
        refine EvP.s (fun _ _ K => Ev.isn rfl hp_11 (by rw [pk_mul, nI_add]) (by omega) (by omega) K) ?_
        rw [hps_11]
        refine EvP.s (fun _ _ K => Ev.go 1 rfl K) ?_
        refine ⟨_, _, Ev.reti rfl rfl, ?_⟩
        rw [← hPe]
        exact absurd c104 (by omega)
      refine EvP.s (fun _ _ K => Ev.go 2 rfl K) ?_
      refine EvP.s (fun _ _ K => Ev.go 2 rfl K) ?_
      refine EvP.s (fun _ _ K => Ev.isn rfl hp_11 (by rw [pk_mul, nI_add]) (by omega) (by omega) K) ?_
      rw [hps_11]
      refine EvP.s (fun _ _ K => Ev.go 1 rfl K) ?_
      refine ⟨_, _, Ev.reti rfl rfl, ?_⟩
      rw [← hPe]
      refine ⟨_, rfl, by rw [hGd, if_pos c104]; rfl, ?_⟩
      rw [hGd, if_pos c104]
      exact hM.numg hk hp2 hm.2 (by omega)
    refine EvP.s (fun _ _ K => Ev.go 1 rfl K) ?_
    refine EvP.s (fun _ _ K => Ev.gf rfl lf_1_25_1 hp_5 rfl K) ?_
    refine EvP.s (fun _ _ K => Ev.go 5 rfl K) ?_
    refine EvP.s (fun _ _ K => Ev.iln rfl hp_11 (by rw [pk_mul, nI_add]) (by omega) (by omega) K) ?_
    rw [r11 o (by omega)]
    refine EvP.zne rfl rfl (by have := h7 o; omega) (fun c82 => ?_) (fun c82 => ?_)
    · refine EvP.s (fun _ _ K => Ev.go 6 rfl K) ?_
      exact L3 8 A (bn b) 0 p f _ _ _ (by omega) hM hW hp2 (by omega) (by rw [hGd, if_neg (by omega), if_neg (by omega)]) rfl rfl rfl _ _ _ _
    refine EvP.s (fun _ _ K => Ev.go 1 rfl K) ?_
    refine EvP.s (fun _ _ K => Ev.gf rfl lf_1_25_1 hp_5 rfl K) ?_
    refine EvP.s (fun _ _ K => Ev.go 4 rfl K) ?_
    refine EvP.s (fun _ _ K => Ev.gf rfl lf_1_25_1 hp_5 rfl K) ?_
    refine EvP.s (fun _ _ K => Ev.go 5 rfl K) ?_
    refine EvP.s (fun _ _ K => Ev.iln rfl hp_11 (by rw [pk_mul, nI_add]) (by omega) (by omega) K) ?_
    rw [r11 p (by omega)]
    refine EvP.zne rfl rfl (by have := h7 p; omega) (fun c104 => ?_) (fun c104 => ?_)
    · refine EvP.s (fun _ _ K => Ev.go 3 rfl K) ?_
      refine EvP.s (fun _ _ K => Ev.isn rfl hp_11 (by rw [pk_mul, nI_add]) (by omega) (by omega) K) ?_
      rw [hps_11]
      refine EvP.s (fun _ _ K => Ev.go 1 rfl K) ?_
      refine ⟨_, _, Ev.reti rfl rfl, ?_⟩
      rw [← hPe]
      refine ⟨_, rfl, by rw [hGd, if_neg (by omega), if_pos c82]; rfl, ?_⟩
      rw [hGd, if_neg (by omega), if_pos c82]
      exact hM.numg hk ho2 hm.2 (by omega)
    refine EvP.s (fun _ _ K => Ev.go 2 rfl K) ?_
    refine EvP.s (fun _ _ K => Ev.go 2 rfl K) ?_
    refine EvP.s (fun _ _ K => Ev.isn rfl hp_11 (by rw [pk_mul, nI_add]) (by omega) (by omega) K) ?_
    rw [hps_11]
    refine EvP.s (fun _ _ K => Ev.go 1 rfl K) ?_
    refine ⟨_, _, Ev.reti rfl rfl, ?_⟩
    rw [← hPe]
    refine ⟨_, rfl, by rw [hGd, if_pos c104]; rfl, ?_⟩
    rw [hGd, if_pos c104]
    exact hM.numg hk hp2 hm.2 (by omega)
  have L1 : ∀ (n : Nat) (A : sn_A2) (i : Nat) (iv : Int32), (i + n = 32) → (MS A B μ) → (∀ j, j < i → A 15 j = nI  (bn b j)) → (iv = nI i) → EvP o0 (d + 2) me_M_push 2 [.ref 5, .int (nI k), .int (nI y), .int iv, .retAddr 0, .retAddr 0, .retAddr 0, .retAddr 0, .retAddr 0, .retAddr 0] [] (hp x A B t) P := by
    intro n
    induction n using Nat.strongRecOn with
    | _ n ih =>
      intro A i iv h1 hM hW e3
      subst e3
      refine EvP.s (fun _ _ K => Ev.go 2 rfl K) ?_
      refine EvP.ige rfl rfl rfl (by omega) (by omega) (fun c5 => ?_) (fun c5 => ?_)
      · have e32 : i = 32 := by omega
        subst e32
        exact L2 A hM hW _
      refine EvP.s (fun _ _ K => Ev.go 1 rfl K) ?_
      refine EvP.s (fun _ _ K => Ev.gf rfl lf_1_38_1 hp_5 rfl K) ?_
      refine EvP.s (fun _ _ K => Ev.go 2 rfl K) ?_
      refine EvP.s (fun _ _ K => Ev.gf rfl lf_1_25_1 hp_5 rfl K) ?_
      refine EvP.s (fun _ _ K => Ev.go 5 rfl K) ?_
      refine EvP.s (fun _ _ K => Ev.iln rfl hp_11 (by rw [pk_mul, nI_add]) (by omega) (by omega) K) ?_
      rw [(hM.mk hk).2.2.2.1.2.2.2.1 i (by omega), ← hb]
      refine EvP.s (fun _ _ K => Ev.isn rfl hp_15 rfl (by omega) (by omega) K) ?_
      rw [hps_15]
      refine EvP.s (fun _ _ K => Ev.go 2 rfl K) ?_
      exact ih (n - 1) (by omega) _ (i + 1) _ (by omega) (hM.scr _ rfl) (fun j hj => by
        show upd (A 15) i (nI (bn b i)) j = _
        by_cases e : j = i
        · subst e; exact pk_us
        · rw [pk_un e]; exact hW j (by omega)) (by rw [nI_add])
  refine EvP.s (fun _ _ K => Ev.go 2 rfl K) ?_
  exact L1 32 A 0 _ (by omega) q (fun j hj => absurd hj (by omega)) rfl
end
section
/-! THE REFERENCE: put and take, as calls -/
def PMi (x : sn_X5) (t : sn_H) (z : Int32 × sn_S) (r : Option Value) (h' : sn_H) : Prop := ∃ A' B', h' = hp x A' B' t ∧ r = some (.int z.1) ∧ MS A' B' z.2
def PMl (x : sn_X5) (t : sn_H) (z : Int64 × sn_S) (r : Option Value) (h' : sn_H) : Prop := ∃ A' B', h' = hp x A' B' t ∧ r = some (.long z.1) ∧ MS A' B' z.2
theorem PMi.rc {x : sn_X5} {t : sn_H} {z : Int32 × sn_S} {r : Option Value} {h' : sn_H} (h : PMi x t z r h') : sn_rc (some .int) r := by
  obtain ⟨_, _, _, rfl, _⟩ := h; trivial
theorem PMl.rc {x : sn_X5} {t : sn_H} {z : Int64 × sn_S} {r : Option Value} {h' : sn_H} (h : PMl x t z r h') : sn_rc (some .long) r := by
  obtain ⟨_, _, _, rfl, _⟩ := h; trivial
theorem PMi.mk {x : sn_X5} {t : sn_H} {z : Int32 × sn_S} {A : sn_A2} {B : sn_B2} {v : Int32} {μ : sn_S} (h : MS A B μ) (e : (v, μ) = z) : PMi x t z (some (.int v)) (hp x A B t) := by
  subst e; exact ⟨A, B, rfl, rfl, h⟩
theorem PMl.mk {x : sn_X5} {t : sn_H} {z : Int64 × sn_S} {A : sn_A2} {B : sn_B2} {v : Int64} {μ : sn_S} (h : MS A B μ) (e : (v, μ) = z) : PMl x t z (some (.long v)) (hp x A B t) := by
  subst e; exact ⟨A, B, rfl, rfl, h⟩
theorem gput_le {k m pl : Nat} {g : Nat → Nat} (h : ∀ i, g i ≤ 7) (i : Nat) : gput k m pl g i ≤ 7 := by
  unfold gput
  have := h i
  split
  · split
    · split <;> omega
    · omega
  · exact this
theorem gtak_le {m pl : Nat} {g : Nat → Nat} (h : ∀ i, g i ≤ 7) (i : Nat) : gtak m pl g i ≤ 7 := by
  unfold gtak
  have := h i
  split <;> omega
theorem setB_bnu_self (b : sn_Bk) : bnu b (bn b) = b := rfl
theorem p_M_put (d : Nat) (x : sn_X5) {A : sn_A2} {B : sn_B2} (t : sn_H) {μ : sn_S} (q : MS A B μ) (kv yv : Int32) : SpP (d + 4) me_M_put [.ref 5, .int kv, .int yv] (hp x A B t) (PMi x t (an_put μ kv yv)) := by
  refine SpP.of ok_M_put (fun r h' z => z.rc) rfl ?_
  refine EvP.s (fun _ _ K => Ev.go 2 rfl K) ?_
  refine EvP.s (fun _ _ K => Ev.cv (E' := me_M_isBook) rfl mk_M_isBook lv_1_131_1 rfl hp_5 rfl (e_M_isBook (d + 2) x t q _) K) ?_
  refine EvP.zb rfl rfl (fun c5 => ?_) (fun c5 => ?_)
  · refine EvP.s (fun _ _ K => Ev.go 1 rfl K) ?_
    refine ⟨_, _, Ev.reti rfl rfl, ?_⟩
    refine PMi.mk q ?_
    unfold an_put
    rw [if_pos (fun z => ofn c5 z.1)]
  refine EvP.s (fun _ _ K => Ev.go 1 rfl K) ?_
  refine EvP.s (fun _ _ K => Ev.cs (E' := me_M_isKey) rfl mk_M_isKey ls_1_93 rfl rfl (e_M_isKey2 (d + 2) _ _) K) ?_
  refine EvP.zn rfl rfl (fun c12 => ?_) (fun c12 => ?_)
  · obtain ⟨k, hk, hk2, rfl⟩ := rg_ex (ofd c5)
    obtain ⟨y, hy, hy2, rfl⟩ := rg_ex (ofd c12)
    obtain ⟨w, hw⟩ : ∃ z, z = sw μ := ⟨_, rfl⟩
    obtain ⟨b, hb⟩ : ∃ z, z = sbk μ k := ⟨_, rfl⟩
    have m := q.mk hk
    rw [← hb, ← hw] at m
    have hk8 := m.2.2.2.2
    have hwb := m.2.2.1
    have hm := hwb.2.1
    have h5 := hwb.1
    have h99 := hwb.2.2.2.2.2.2.2.2.2.1
    have h7 := hwb.2.2.2.2.2.2.2.1
    have hu : an_put μ (nI k) (nI y) = if bk b = 4 ∨ bk b = 5 ∨ bt b y = 99 then (- nI 103, μ) else match nput w b y with
        | none => (- nI 104, μ)
        | some g => (b2i (isin w b y), setB μ k (btu (bnu b g) (uN (bt b) y (bt b y + 1)))) := by
      unfold an_put
      rw [if_neg (fun z => z ⟨ofd c5, ofd c12⟩), tn_nI hk2, tn_nI hy2, ← hb, ← hw]
      rfl
    rw [hu]
    generalize hz : (if bk b = 4 ∨ bk b = 5 ∨ bt b y = 99 then (- nI 103, μ) else match nput w b y with
        | none => (- nI 104, μ)
        | some g => (b2i (isin w b y), setB μ k (btu (bnu b g) (uN (bt b) y (bt b y + 1))))) = z
    have J1 : ¬ (bk b = 4 ∨ bk b = 5 ∨ bt b y = 99) → ∀ inv : Int32, inv = b2i (isin w b y) → EvP o0 (d + 4) me_M_put 68 [.ref 5, .int (nI k), .int (nI y), .int (nI (bk b)), .retAddr 0, .retAddr 0, .retAddr 0, .retAddr 0, .retAddr 0, .retAddr 0] [.int inv] (hp x A B t) (PMi x t z) := by
      intro hkd inv hin
      have J2 : ¬ bt b y = 99 → ∀ (A : sn_A2) (g : Nat → Nat), MS A B (setB μ k (bnu b g)) → nput w b y = some g → ∀ (inv : Int32) (v5 v6 v7 v8 v9 : Value), inv = b2i (isin w b y) → EvP o0 (d + 4) me_M_put 185 [.ref 5, .int (nI k), .int (nI y), .int (nI (bk b)), .int inv, v5, v6, v7, v8, v9] [] (hp x A B t) (PMi x t z) := by
        intro hn99 A g hM hg inv v5 v6 v7 v8 v9 hin
        have hM2 := hM.timg hk (i := y) (v := bt b y + 1) hy (by have := h99 y; omega)
        refine EvP.s (fun _ _ K => Ev.go 1 rfl K) ?_
        refine EvP.s (fun _ _ K => Ev.gf rfl lf_1_28_1 hp_5 rfl K) ?_
        refine EvP.s (fun _ _ K => Ev.go 6 rfl K) ?_
        refine EvP.s (fun _ _ K => Ev.iln rfl hp_12 (by rw [pk_mul, nI_add]) (by omega) (by omega) K) ?_
        rw [show A 12 (32 * k + y) = nI (bt b y) from (hM.mkg hk).2.2.2.1.2.2.2.2.1 y hy]
        refine EvP.s (fun _ _ K => Ev.go 2 rfl K) ?_
        refine EvP.s (fun _ _ K => Ev.isn rfl hp_12 (by rw [pk_mul, nI_add]) (by omega) (by omega) K) ?_
        rw [hps_12]
        rw [nI_add]
        refine EvP.s (fun _ _ K => Ev.go 1 rfl K) ?_
        refine ⟨_, _, Ev.reti rfl rfl, ?_⟩
        refine PMi.mk hM2 ?_
        rw [← hz, if_neg hkd, hg, hin]
        rfl
      have L : ¬ bk b = 3 → ¬ bt b y = 99 → ∀ inv : Int32, inv = b2i (isin w b y) → ∀ (n : Nat) (A : sn_A2) (g : Nat → Nat) (i : Nat) (iv : Int32), (i + n = bm b) → (MS A B (setB μ k (bnu b g))) → (∀ j, g j = if j < i then gput (bk b) (bm b) (pls w b y) (bn b) j else bn b j) → (iv = nI i) → ∀ (v8 v9 : Value), EvP o0 (d + 4) me_M_put 98 [.ref 5, .int (nI k), .int (nI y), .int (nI (bk b)), .int inv, .long (lN (pls w b y)), .retAddr 0, .int iv, v8, v9] [] (hp x A B t) (PMi x t z) := by
        intro hk3 hn99 inv hin n
        induction n using Nat.strongRecOn with
        | _ n ih =>
          intro A g i iv h1 hM hg e3
          subst e3
          intro v8 v9
          refine EvP.s (fun _ _ K => Ev.go 2 rfl K) ?_
          refine EvP.s (fun _ _ K => Ev.gf rfl lf_1_19_1 hp_5 rfl K) ?_
          refine EvP.s (fun _ _ K => Ev.go 1 rfl K) ?_
          refine EvP.s (fun _ _ K => Ev.iln rfl hp_9 rfl (by omega) (by omega) K) ?_
          rw [(hM.mkg hk).2.2.2.1.2.1, bm_bnu]
          refine EvP.ige rfl rfl rfl (by omega) (by omega) (fun c106 => ?_) (fun c106 => ?_)
          · have eg : g = gput (bk b) (bm b) (pls w b y) (bn b) := by
              funext j
              rw [hg j]
              by_cases e : j < i
              · rw [if_pos e]
              · rw [if_neg e]; unfold gput; rw [if_neg (by omega)]
            subst eg
            exact J2 hn99 A _ hM (by unfold nput; rw [if_neg hk3]) inv _ _ _ _ _ hin
          refine EvP.s (fun _ _ K => Ev.go 1 rfl K) ?_
          refine EvP.s (fun _ _ K => Ev.gf rfl lf_1_25_1 hp_5 rfl K) ?_
          refine EvP.s (fun _ _ K => Ev.go 5 rfl K) ?_
          refine EvP.s (fun _ _ K => Ev.iln rfl hp_11 (by rw [pk_mul, nI_add]) (by omega) (by omega) K) ?_
          rw [(hM.mkg hk).2.2.2.1.2.2.2.1 i (by omega), bn_bnu, hg i, if_neg (by omega)]
          refine EvP.s (fun _ _ K => Ev.go 3 rfl K) ?_
          refine EvP.ine rfl rfl rfl (by omega) (by omega) (fun c125 => ?_) (fun c125 => ?_)
          · refine EvP.s (fun _ _ K => Ev.go 3 rfl K) ?_
            refine EvP.s (fun _ _ K => Ev.gf rfl lf_1_25_1 hp_5 rfl K) ?_
            refine EvP.s (fun _ _ K => Ev.go 7 rfl K) ?_
            refine EvP.s (fun _ _ K => Ev.cs (E' := me_M_has) rfl mk_M_has ls_1_100 rfl rfl (e_M_has (d + 3) _ rfl rfl (by have := pls_lt (w := w) hwb y; omega) (by omega)) K) ?_
            refine EvP.zb rfl rfl (fun c168 => ?_) (fun c168 => ?_)
            · refine EvP.s (fun _ _ K => Ev.go 1 rfl K) ?_
              refine EvP.s (fun _ _ K => Ev.isn rfl hp_11 (by rw [pk_mul, nI_add]) (by omega) (by omega) K) ?_
              rw [hps_11]
              refine EvP.s (fun _ _ K => Ev.go 2 rfl K) ?_
              have hM := hM.numg hk (i := i) (v := gput (bk b) (bm b) (pls w b y) (bn b) i) (by omega) hm.2 (gput_le h7 i)
              have hv : nI (bn b i) = nI (gput (bk b) (bm b) (pls w b y) (bn b) i) := by congr 1; unfold gput; rw [if_neg (fun z => by rw [c168] at z; cases z.2)]
              have hA : ∀ z, z = nI (gput (bk b) (bm b) (pls w b y) (bn b) i) → upd (A 11) (32 * k + i) z = upd (A 11) (32 * k + i) (nI (gput (bk b) (bm b) (pls w b y) (bn b) i)) := fun z e => by rw [e]
              rw [hA _ hv]
              exact ih (n - 1) (by omega) _ _ (i + 1) _ (by omega) hM (fun j => by
                by_cases e : j = i
                · subst e; rw [if_pos (by omega)]; exact if_pos rfl
                · rw [show uN g i (gput (bk b) (bm b) (pls w b y) (bn b) i) j = g j from if_neg e, hg j]
                  by_cases e2 : j < i
                  · rw [if_pos e2, if_pos (by omega)]
                  · rw [if_neg e2, if_neg (by omega)]) (by rw [nI_add]) _ _
            refine EvP.s (fun _ _ K => Ev.go 2 rfl K) ?_
            refine EvP.s (fun _ _ K => Ev.isn rfl hp_11 (by rw [pk_mul, nI_add]) (by omega) (by omega) K) ?_
            rw [hps_11]
            refine EvP.s (fun _ _ K => Ev.go 2 rfl K) ?_
            have hM := hM.numg hk (i := i) (v := gput (bk b) (bm b) (pls w b y) (bn b) i) (by omega) hm.2 (gput_le h7 i)
            have hv : nI 1 = nI (gput (bk b) (bm b) (pls w b y) (bn b) i) := by unfold gput; rw [if_pos ⟨c106, c168⟩, if_neg c125]
            have hA : ∀ z, z = nI (gput (bk b) (bm b) (pls w b y) (bn b) i) → upd (A 11) (32 * k + i) z = upd (A 11) (32 * k + i) (nI (gput (bk b) (bm b) (pls w b y) (bn b) i)) := fun z e => by rw [e]
            rw [hA _ hv]
            exact ih (n - 1) (by omega) _ _ (i + 1) _ (by omega) hM (fun j => by
              by_cases e : j = i
              · subst e; rw [if_pos (by omega)]; exact if_pos rfl
              · rw [show uN g i (gput (bk b) (bm b) (pls w b y) (bn b) i) j = g j from if_neg e, hg j]
                by_cases e2 : j < i
                · rw [if_pos e2, if_pos (by omega)]
                · rw [if_neg e2, if_neg (by omega)]) (by rw [nI_add]) _ _
          refine EvP.s (fun _ _ K => Ev.go 2 rfl K) ?_
          refine EvP.ige rfl rfl rfl (by have := h7 i; omega) (by omega) (fun c132 => ?_) (fun c132 => ?_)
          · refine EvP.s (fun _ _ K => Ev.go 2 rfl K) ?_
            refine EvP.s (fun _ _ K => Ev.go 2 rfl K) ?_
            refine EvP.s (fun _ _ K => Ev.gf rfl lf_1_25_1 hp_5 rfl K) ?_
            refine EvP.s (fun _ _ K => Ev.go 7 rfl K) ?_
            refine EvP.s (fun _ _ K => Ev.cs (E' := me_M_has) rfl mk_M_has ls_1_100 rfl rfl (e_M_has (d + 3) _ rfl rfl (by have := pls_lt (w := w) hwb y; omega) (by omega)) K) ?_
            refine EvP.zb rfl rfl (fun c168 => ?_) (fun c168 => ?_)
            · refine EvP.s (fun _ _ K => Ev.go 1 rfl K) ?_
              refine EvP.s (fun _ _ K => Ev.isn rfl hp_11 (by rw [pk_mul, nI_add]) (by omega) (by omega) K) ?_
              rw [hps_11]
              refine EvP.s (fun _ _ K => Ev.go 2 rfl K) ?_
              have hM := hM.numg hk (i := i) (v := gput (bk b) (bm b) (pls w b y) (bn b) i) (by omega) hm.2 (gput_le h7 i)
              have hv : nI (bn b i) = nI (gput (bk b) (bm b) (pls w b y) (bn b) i) := by congr 1; unfold gput; rw [if_neg (fun z => by rw [c168] at z; cases z.2)]
              have hA : ∀ z, z = nI (gput (bk b) (bm b) (pls w b y) (bn b) i) → upd (A 11) (32 * k + i) z = upd (A 11) (32 * k + i) (nI (gput (bk b) (bm b) (pls w b y) (bn b) i)) := fun z e => by rw [e]
              rw [hA _ hv]
              exact ih (n - 1) (by omega) _ _ (i + 1) _ (by omega) hM (fun j => by
                by_cases e : j = i
                · subst e; rw [if_pos (by omega)]; exact if_pos rfl
                · rw [show uN g i (gput (bk b) (bm b) (pls w b y) (bn b) i) j = g j from if_neg e, hg j]
                  by_cases e2 : j < i
                  · rw [if_pos e2, if_pos (by omega)]
                  · rw [if_neg e2, if_neg (by omega)]) (by rw [nI_add]) _ _
            refine EvP.s (fun _ _ K => Ev.go 2 rfl K) ?_
            refine EvP.s (fun _ _ K => Ev.isn rfl hp_11 (by rw [pk_mul, nI_add]) (by omega) (by omega) K) ?_
            rw [hps_11]
            refine EvP.s (fun _ _ K => Ev.go 2 rfl K) ?_
            have hM := hM.numg hk (i := i) (v := gput (bk b) (bm b) (pls w b y) (bn b) i) (by omega) hm.2 (gput_le h7 i)
            have hv : nI 7 = nI (gput (bk b) (bm b) (pls w b y) (bn b) i) := by unfold gput; rw [if_pos ⟨c106, c168⟩, if_pos c125, if_neg (by omega)]
            have hA : ∀ z, z = nI (gput (bk b) (bm b) (pls w b y) (bn b) i) → upd (A 11) (32 * k + i) z = upd (A 11) (32 * k + i) (nI (gput (bk b) (bm b) (pls w b y) (bn b) i)) := fun z e => by rw [e]
            rw [hA _ hv]
            exact ih (n - 1) (by omega) _ _ (i + 1) _ (by omega) hM (fun j => by
              by_cases e : j = i
              · subst e; rw [if_pos (by omega)]; exact if_pos rfl
              · rw [show uN g i (gput (bk b) (bm b) (pls w b y) (bn b) i) j = g j from if_neg e, hg j]
                by_cases e2 : j < i
                · rw [if_pos e2, if_pos (by omega)]
                · rw [if_neg e2, if_neg (by omega)]) (by rw [nI_add]) _ _
          refine EvP.s (fun _ _ K => Ev.go 4 rfl K) ?_
          refine EvP.s (fun _ _ K => Ev.go 2 rfl K) ?_
          refine EvP.s (fun _ _ K => Ev.gf rfl lf_1_25_1 hp_5 rfl K) ?_
          refine EvP.s (fun _ _ K => Ev.go 7 rfl K) ?_
          refine EvP.s (fun _ _ K => Ev.cs (E' := me_M_has) rfl mk_M_has ls_1_100 rfl rfl (e_M_has (d + 3) _ rfl rfl (by have := pls_lt (w := w) hwb y; omega) (by omega)) K) ?_
          refine EvP.zb rfl rfl (fun c168 => ?_) (fun c168 => ?_)
          · refine EvP.s (fun _ _ K => Ev.go 1 rfl K) ?_
            refine EvP.s (fun _ _ K => Ev.isn rfl hp_11 (by rw [pk_mul, nI_add]) (by omega) (by omega) K) ?_
            rw [hps_11]
            refine EvP.s (fun _ _ K => Ev.go 2 rfl K) ?_
            have hM := hM.numg hk (i := i) (v := gput (bk b) (bm b) (pls w b y) (bn b) i) (by omega) hm.2 (gput_le h7 i)
            have hv : nI (bn b i) = nI (gput (bk b) (bm b) (pls w b y) (bn b) i) := by congr 1; unfold gput; rw [if_neg (fun z => by rw [c168] at z; cases z.2)]
            have hA : ∀ z, z = nI (gput (bk b) (bm b) (pls w b y) (bn b) i) → upd (A 11) (32 * k + i) z = upd (A 11) (32 * k + i) (nI (gput (bk b) (bm b) (pls w b y) (bn b) i)) := fun z e => by rw [e]
            rw [hA _ hv]
            exact ih (n - 1) (by omega) _ _ (i + 1) _ (by omega) hM (fun j => by
              by_cases e : j = i
              · subst e; rw [if_pos (by omega)]; exact if_pos rfl
              · rw [show uN g i (gput (bk b) (bm b) (pls w b y) (bn b) i) j = g j from if_neg e, hg j]
                by_cases e2 : j < i
                · rw [if_pos e2, if_pos (by omega)]
                · rw [if_neg e2, if_neg (by omega)]) (by rw [nI_add]) _ _
          refine EvP.s (fun _ _ K => Ev.go 2 rfl K) ?_
          refine EvP.s (fun _ _ K => Ev.isn rfl hp_11 (by rw [pk_mul, nI_add]) (by omega) (by omega) K) ?_
          rw [hps_11]
          refine EvP.s (fun _ _ K => Ev.go 2 rfl K) ?_
          have hM := hM.numg hk (i := i) (v := gput (bk b) (bm b) (pls w b y) (bn b) i) (by omega) hm.2 (gput_le h7 i)
          have hv : nI (bn b i) + nI 1 = nI (gput (bk b) (bm b) (pls w b y) (bn b) i) := by unfold gput; rw [if_pos ⟨c106, c168⟩, if_pos c125, if_pos c132, nI_add]
          have hA : ∀ z, z = nI (gput (bk b) (bm b) (pls w b y) (bn b) i) → upd (A 11) (32 * k + i) z = upd (A 11) (32 * k + i) (nI (gput (bk b) (bm b) (pls w b y) (bn b) i)) := fun z e => by rw [e]
          rw [hA _ hv]
          exact ih (n - 1) (by omega) _ _ (i + 1) _ (by omega) hM (fun j => by
            by_cases e : j = i
            · subst e; rw [if_pos (by omega)]; exact if_pos rfl
            · rw [show uN g i (gput (bk b) (bm b) (pls w b y) (bn b) i) j = g j from if_neg e, hg j]
              by_cases e2 : j < i
              · rw [if_pos e2, if_pos (by omega)]
              · rw [if_neg e2, if_neg (by omega)]) (by rw [nI_add]) _ _
      refine EvP.s (fun _ _ K => Ev.go 3 rfl K) ?_
      refine EvP.ine rfl rfl rfl (by omega) (by omega) (fun c72 => ?_) (fun c72 => ?_)
      · refine EvP.s (fun _ _ K => Ev.go 3 rfl K) ?_
        refine EvP.s (fun _ _ K => Ev.cv (E' := me_M_placesOf) rfl mk_M_placesOf lv_1_166_1 rfl hp_5 rfl (e_M_placesOf (d + 1) x t m rfl rfl hy) K) ?_
        refine EvP.s (fun _ _ K => Ev.go 3 rfl K) ?_
        have hM0 := q.self k
        rw [← hb] at hM0
        exact L c72 (by omega) inv hin (bm b) A (bn b) 0 _ (by omega) hM0 (fun j => by rw [if_neg (by omega)]) rfl _ _
      refine EvP.s (fun _ _ K => Ev.go 3 rfl K) ?_
      obtain ⟨r1, h1, s1, A1, e1, e2, hM1⟩ := e_M_push (d + 1) x t q rfl rfl hk hy hw hb c72
      subst e1
      subst e2
      refine EvP.s (fun _ _ K => Ev.cv (E' := me_M_push) rfl mk_M_push lv_1_185_1 rfl hp_5 rfl (s1) K) ?_
      refine EvP.zn rfl rfl (fun c81 => ?_) (fun c81 => ?_)
      · obtain ⟨g, hg⟩ := Option.isSome_iff_exists.mp c81
        rw [hg] at hM1
        exact J2 (by omega) A1 g hM1 (by unfold nput; rw [if_pos c72, hg]) inv _ _ _ _ _ hin
      refine EvP.s (fun _ _ K => Ev.go 1 rfl K) ?_
      refine ⟨_, _, Ev.reti rfl rfl, ?_⟩
      have hN : psh (bm b) (bn b) (frs w b y) (mrk w b 1 y) = none := by
        cases hq : psh (bm b) (bn b) (frs w b y) (mrk w b 1 y) with
        | none => rfl
        | some g => rw [hq] at c81; cases c81
      rw [hN] at hM1
      have hM2 : MS A1 B μ := by
        have e : setB μ k (bnu b (bn b)) = μ := by rw [setB_bnu_self, hb, setB_id]
        rw [← e]; exact hM1
      refine PMi.mk hM2 ?_
      rw [← hz, if_neg hkd]
      unfold nput
      rw [if_pos c72, hN]
    refine EvP.s (fun _ _ K => Ev.go 1 rfl K) ?_
    refine EvP.s (fun _ _ K => Ev.gf rfl lf_1_16_1 hp_5 rfl K) ?_
    refine EvP.s (fun _ _ K => Ev.go 1 rfl K) ?_
    refine EvP.s (fun _ _ K => Ev.iln rfl hp_8 rfl (by omega) (by omega) K) ?_
    rw [m.2.2.2.1.1]
    refine EvP.s (fun _ _ K => Ev.go 3 rfl K) ?_
    refine EvP.ieq rfl rfl rfl (by omega) (by omega) (fun c27 => ?_) (fun c27 => ?_)
    · refine EvP.s (fun _ _ K => Ev.go 1 rfl K) ?_
      refine ⟨_, _, Ev.reti rfl rfl, ?_⟩
      refine PMi.mk q ?_
      rw [← hz, if_pos (by omega)]
    refine EvP.s (fun _ _ K => Ev.go 2 rfl K) ?_
    refine EvP.ieq rfl rfl rfl (by omega) (by omega) (fun c32 => ?_) (fun c32 => ?_)
    · refine EvP.s (fun _ _ K => Ev.go 1 rfl K) ?_
      refine ⟨_, _, Ev.reti rfl rfl, ?_⟩
      refine PMi.mk q ?_
      rw [← hz, if_pos (by omega)]
    refine EvP.s (fun _ _ K => Ev.go 1 rfl K) ?_
    refine EvP.s (fun _ _ K => Ev.gf rfl lf_1_28_1 hp_5 rfl K) ?_
    refine EvP.s (fun _ _ K => Ev.go 5 rfl K) ?_
    refine EvP.s (fun _ _ K => Ev.iln rfl hp_12 (by rw [pk_mul, nI_add]) (by omega) (by omega) K) ?_
    rw [m.2.2.2.1.2.2.2.2.1 y hy]
    refine EvP.s (fun _ _ K => Ev.go 1 rfl K) ?_
    refine EvP.ine rfl rfl rfl (by have := h99 y; omega) (by omega) (fun c48 => ?_) (fun c48 => ?_)
    · refine EvP.s (fun _ _ K => Ev.go 3 rfl K) ?_
      refine EvP.s (fun _ _ K => Ev.cv (E' := me_M_isIn) rfl mk_M_isIn lv_1_181_1 rfl hp_5 rfl (e_M_isIn d x t m rfl rfl hy) K) ?_
      refine EvP.zb rfl rfl (fun c60 => ?_) (fun c60 => ?_)
      · refine EvP.s (fun _ _ K => Ev.go 1 rfl K) ?_
        exact J1 (by omega) _ (by rw [c60]; rfl)
      refine EvP.s (fun _ _ K => Ev.go 2 rfl K) ?_
      exact J1 (by omega) _ (by rw [c60]; rfl)
    refine EvP.s (fun _ _ K => Ev.go 1 rfl K) ?_
    refine ⟨_, _, Ev.reti rfl rfl, ?_⟩
    refine PMi.mk q ?_
    rw [← hz, if_pos (by omega)]
  refine EvP.s (fun _ _ K => Ev.go 1 rfl K) ?_
  refine ⟨_, _, Ev.reti rfl rfl, ?_⟩
  refine PMi.mk q ?_
  unfold an_put
  rw [if_pos (fun z => ofn c12 z.2)]
theorem p_M_take (d : Nat) (x : sn_X5) {A : sn_A2} {B : sn_B2} (t : sn_H) {μ : sn_S} (q : MS A B μ) (kv yv : Int32) : SpP (d + 4) me_M_take [.ref 5, .int kv, .int yv] (hp x A B t) (PMi x t (an_take μ kv yv)) := by
  refine SpP.of ok_M_take (fun r h' z => z.rc) rfl ?_
  refine EvP.s (fun _ _ K => Ev.go 2 rfl K) ?_
  refine EvP.s (fun _ _ K => Ev.cv (E' := me_M_isBook) rfl mk_M_isBook lv_1_131_1 rfl hp_5 rfl (e_M_isBook (d + 2) x t q _) K) ?_
  refine EvP.zb rfl rfl (fun c5 => ?_) (fun c5 => ?_)
  · refine EvP.s (fun _ _ K => Ev.go 1 rfl K) ?_
    refine ⟨_, _, Ev.reti rfl rfl, ?_⟩
    refine PMi.mk q ?_
    unfold an_take
    rw [if_pos (fun z => ofn c5 z.1)]
  refine EvP.s (fun _ _ K => Ev.go 1 rfl K) ?_
  refine EvP.s (fun _ _ K => Ev.cs (E' := me_M_isKey) rfl mk_M_isKey ls_1_93 rfl rfl (e_M_isKey2 (d + 2) _ _) K) ?_
  refine EvP.zn rfl rfl (fun c12 => ?_) (fun c12 => ?_)
  · obtain ⟨k, hk, hk2, rfl⟩ := rg_ex (ofd c5)
    obtain ⟨y, hy, hy2, rfl⟩ := rg_ex (ofd c12)
    obtain ⟨w, hw⟩ : ∃ z, z = sw μ := ⟨_, rfl⟩
    obtain ⟨b, hb⟩ : ∃ z, z = sbk μ k := ⟨_, rfl⟩
    have m := q.mk hk
    rw [← hb, ← hw] at m
    have hk8 := m.2.2.2.2
    have hwb := m.2.2.1
    have hm := hwb.2.1
    have h5 := hwb.1
    have h99 := hwb.2.2.2.2.2.2.2.2.2.1
    have h7 := hwb.2.2.2.2.2.2.2.1
    have hu : an_take μ (nI k) (nI y) = if ¬ ((bk b = 1 ∨ bk b = 3) ∧ isin w b y = true) then (- nI 103, μ) else (nI (if 0 < bt b y then 1 else 0), setB μ k (btu (bnu b (ntak w b y)) (uN (bt b) y (bt b y - 1)))) := by
      unfold an_take
      rw [if_neg (fun z => z ⟨ofd c5, ofd c12⟩), tn_nI hk2, tn_nI hy2, ← hb, ← hw]
    rw [hu]
    generalize hz : (if ¬ ((bk b = 1 ∨ bk b = 3) ∧ isin w b y = true) then (- nI 103, μ) else (nI (if 0 < bt b y then 1 else 0), setB μ k (btu (bnu b (ntak w b y)) (uN (bt b) y (bt b y - 1))))) = z
    have J1 : ((bk b = 1 ∨ bk b = 3) ∧ isin w b y = true) → EvP o0 (d + 4) me_M_take 47 [.ref 5, .int (nI k), .int (nI y), .int (nI (bk b)), .retAddr 0, .retAddr 0, .retAddr 0, .retAddr 0] [] (hp x A B t) (PMi x t z) := by
      intro hkd
      have hf := frs_lt (w := w) hwb y
      have hmk := mrk_le (w := w) (b := b) 1 y
      have ho := oth_lt (frs w b y) (mrk w b 1 y) (show 0 < bm b by omega)
      have hM0 := q.self k
      rw [← hb] at hM0
      have J2 : ∀ (A : sn_A2) (g : Nat → Nat), MS A B (setB μ k (bnu b g)) → ntak w b y = g → ∀ (v4 v5 v6 v7 : Value), EvP o0 (d + 4) me_M_take 193 [.ref 5, .int (nI k), .int (nI y), .int (nI (bk b)), v4, v5, v6, v7] [] (hp x A B t) (PMi x t z) := by
        intro A g hM hg v4 v5 v6 v7
        have hM2 := hM.timg hk (i := y) (v := bt b y - 1) hy (by have := h99 y; omega)
        refine EvP.s (fun _ _ K => Ev.go 1 rfl K) ?_
        refine EvP.s (fun _ _ K => Ev.gf rfl lf_1_28_1 hp_5 rfl K) ?_
        refine EvP.s (fun _ _ K => Ev.go 5 rfl K) ?_
        refine EvP.s (fun _ _ K => Ev.iln rfl hp_12 (by rw [pk_mul, nI_add]) (by omega) (by omega) K) ?_
        rw [show A 12 (32 * k + y) = nI (bt b y) from (hM.mkg hk).2.2.2.1.2.2.2.2.1 y hy]
        refine EvP.zle rfl rfl (by have := h99 y; omega) (fun c204 => ?_) (fun c204 => ?_)
        · refine EvP.s (fun _ _ K => Ev.go 3 rfl K) ?_
          refine EvP.s (fun _ _ K => Ev.gf rfl lf_1_28_1 hp_5 rfl K) ?_
          refine EvP.s (fun _ _ K => Ev.go 6 rfl K) ?_
          refine EvP.s (fun _ _ K => Ev.iln rfl hp_12 (by rw [pk_mul, nI_add]) (by omega) (by omega) K) ?_
          rw [show A 12 (32 * k + y) = nI (bt b y) from (hM.mkg hk).2.2.2.1.2.2.2.2.1 y hy]
          refine EvP.s (fun _ _ K => Ev.go 2 rfl K) ?_
          refine EvP.s (fun _ _ K => Ev.isn rfl hp_12 (by rw [pk_mul, nI_add]) (by omega) (by omega) K) ?_
          rw [hps_12]
          rw [pk_sub (by omega)]
          refine EvP.s (fun _ _ K => Ev.go 1 rfl K) ?_
          refine ⟨_, _, Ev.reti rfl rfl, ?_⟩
          rw [show bt b y - 0 = bt b y - 1 by omega]
          refine PMi.mk hM2 ?_
          rw [← hz, if_neg (fun z => z hkd), hg]
          congr 1
          rw [if_neg (by omega)]
        refine EvP.s (fun _ _ K => Ev.go 2 rfl K) ?_
        refine EvP.s (fun _ _ K => Ev.go 2 rfl K) ?_
        refine EvP.s (fun _ _ K => Ev.gf rfl lf_1_28_1 hp_5 rfl K) ?_
        refine EvP.s (fun _ _ K => Ev.go 6 rfl K) ?_
        refine EvP.s (fun _ _ K => Ev.iln rfl hp_12 (by rw [pk_mul, nI_add]) (by omega) (by omega) K) ?_
        rw [show A 12 (32 * k + y) = nI (bt b y) from (hM.mkg hk).2.2.2.1.2.2.2.2.1 y hy]
        refine EvP.s (fun _ _ K => Ev.go 2 rfl K) ?_
        refine EvP.s (fun _ _ K => Ev.isn rfl hp_12 (by rw [pk_mul, nI_add]) (by omega) (by omega) K) ?_
        rw [hps_12]
        rw [pk_sub (by omega)]
        refine EvP.s (fun _ _ K => Ev.go 1 rfl K) ?_
        refine ⟨_, _, Ev.reti rfl rfl, ?_⟩
        refine PMi.mk hM2 ?_
        rw [← hz, if_neg (fun z => z hkd), hg]
        congr 1
        rw [if_pos c204]
      have L : ¬ bk b = 3 → (∀ i, i < bm b → (pls w b y).testBit i = true → 0 < bn b i) → ∀ (n : Nat) (A : sn_A2) (g : Nat → Nat) (i : Nat) (iv : Int32), (i + n = bm b) → (MS A B (setB μ k (bnu b g))) → (∀ j, g j = if j < i then gtak (bm b) (pls w b y) (bn b) j else bn b j) → (iv = nI i) → ∀ (v7 : Value), EvP o0 (d + 4) me_M_take 124 [.ref 5, .int (nI k), .int (nI y), .int (nI (bk b)), .long (lN (pls w b y)), .retAddr 0, .int iv, v7] [] (hp x A B t) (PMi x t z) := by
        intro hk3 hpos n
        induction n using Nat.strongRecOn with
        | _ n ih =>
          intro A g i iv h1 hM hg e3
          subst e3
          intro v7
          refine EvP.s (fun _ _ K => Ev.go 2 rfl K) ?_
          refine EvP.s (fun _ _ K => Ev.gf rfl lf_1_19_1 hp_5 rfl K) ?_
          refine EvP.s (fun _ _ K => Ev.go 1 rfl K) ?_
          refine EvP.s (fun _ _ K => Ev.iln rfl hp_9 rfl (by omega) (by omega) K) ?_
          rw [(hM.mkg hk).2.2.2.1.2.1, bm_bnu]
          refine EvP.ige rfl rfl rfl (by omega) (by omega) (fun c132 => ?_) (fun c132 => ?_)
          · have eg : g = gtak (bm b) (pls w b y) (bn b) := by
              funext j
              rw [hg j]
              by_cases e : j < i
              · rw [if_pos e]
              · rw [if_neg e]; unfold gtak; rw [if_neg (by omega)]
            subst eg
            exact J2 A _ hM (by unfold ntak; rw [if_neg hk3]) _ _ _ _
          refine EvP.s (fun _ _ K => Ev.go 1 rfl K) ?_
          refine EvP.s (fun _ _ K => Ev.gf rfl lf_1_25_1 hp_5 rfl K) ?_
          refine EvP.s (fun _ _ K => Ev.go 5 rfl K) ?_
          refine EvP.s (fun _ _ K => Ev.iln rfl hp_11 (by rw [pk_mul, nI_add]) (by omega) (by omega) K) ?_
          rw [(hM.mkg hk).2.2.2.1.2.2.2.1 i (by omega), bn_bnu, hg i, if_neg (by omega)]
          refine EvP.s (fun _ _ K => Ev.go 2 rfl K) ?_
          refine EvP.s (fun _ _ K => Ev.gf rfl lf_1_25_1 hp_5 rfl K) ?_
          refine EvP.s (fun _ _ K => Ev.go 7 rfl K) ?_
          refine EvP.s (fun _ _ K => Ev.cs (E' := me_M_has) rfl mk_M_has ls_1_100 rfl rfl (e_M_has (d + 3) _ rfl rfl (by have := pls_lt (w := w) hwb y; omega) (by omega)) K) ?_
          refine EvP.zb rfl rfl (fun c167 => ?_) (fun c167 => ?_)
          · refine EvP.s (fun _ _ K => Ev.go 1 rfl K) ?_
            refine EvP.s (fun _ _ K => Ev.isn rfl hp_11 (by rw [pk_mul, nI_add]) (by omega) (by omega) K) ?_
            rw [hps_11]
            refine EvP.s (fun _ _ K => Ev.go 2 rfl K) ?_
            have hM := hM.numg hk (i := i) (v := gtak (bm b) (pls w b y) (bn b) i) (by omega) hm.2 (gtak_le h7 i)
            have hv : nI (bn b i) = nI (gtak (bm b) (pls w b y) (bn b) i) := by congr 1; unfold gtak; rw [if_neg (fun z => by rw [c167] at z; cases z.2.1)]
            have hA : ∀ z, z = nI (gtak (bm b) (pls w b y) (bn b) i) → upd (A 11) (32 * k + i) z = upd (A 11) (32 * k + i) (nI (gtak (bm b) (pls w b y) (bn b) i)) := fun z e => by rw [e]
            rw [hA _ hv]
            exact ih (n - 1) (by omega) _ _ (i + 1) _ (by omega) hM (fun j => by
              by_cases e : j = i
              · subst e; rw [if_pos (by omega)]; exact if_pos rfl
              · rw [show uN g i (gtak (bm b) (pls w b y) (bn b) i) j = g j from if_neg e, hg j]
                by_cases e2 : j < i
                · rw [if_pos e2, if_pos (by omega)]
                · rw [if_neg e2, if_neg (by omega)]) (by rw [nI_add]) _
          refine EvP.s (fun _ _ K => Ev.go 2 rfl K) ?_
          refine EvP.ige rfl rfl rfl (by have := h7 i; omega) (by omega) (fun c174 => ?_) (fun c174 => ?_)
          · refine EvP.s (fun _ _ K => Ev.go 1 rfl K) ?_
            refine EvP.s (fun _ _ K => Ev.isn rfl hp_11 (by rw [pk_mul, nI_add]) (by omega) (by omega) K) ?_
            rw [hps_11]
            refine EvP.s (fun _ _ K => Ev.go 2 rfl K) ?_
            have hM := hM.numg hk (i := i) (v := gtak (bm b) (pls w b y) (bn b) i) (by omega) hm.2 (gtak_le h7 i)
            have hv : nI (bn b i) = nI (gtak (bm b) (pls w b y) (bn b) i) := by congr 1; unfold gtak; rw [if_neg (fun z => by omega)]
            have hA : ∀ z, z = nI (gtak (bm b) (pls w b y) (bn b) i) → upd (A 11) (32 * k + i) z = upd (A 11) (32 * k + i) (nI (gtak (bm b) (pls w b y) (bn b) i)) := fun z e => by rw [e]
            rw [hA _ hv]
            exact ih (n - 1) (by omega) _ _ (i + 1) _ (by omega) hM (fun j => by
              by_cases e : j = i
              · subst e; rw [if_pos (by omega)]; exact if_pos rfl
              · rw [show uN g i (gtak (bm b) (pls w b y) (bn b) i) j = g j from if_neg e, hg j]
                by_cases e2 : j < i
                · rw [if_pos e2, if_pos (by omega)]
                · rw [if_neg e2, if_neg (by omega)]) (by rw [nI_add]) _
          refine EvP.s (fun _ _ K => Ev.go 4 rfl K) ?_
          refine EvP.s (fun _ _ K => Ev.isn rfl hp_11 (by rw [pk_mul, nI_add]) (by omega) (by omega) K) ?_
          rw [hps_11]
          refine EvP.s (fun _ _ K => Ev.go 2 rfl K) ?_
          have hM := hM.numg hk (i := i) (v := gtak (bm b) (pls w b y) (bn b) i) (by omega) hm.2 (gtak_le h7 i)
          have hv : nI (bn b i) - nI 1 = nI (gtak (bm b) (pls w b y) (bn b) i) := by unfold gtak; rw [if_pos ⟨c132, c167, c174⟩, pk_sub (by have := hpos i c132 c167; omega)]
          have hA : ∀ z, z = nI (gtak (bm b) (pls w b y) (bn b) i) → upd (A 11) (32 * k + i) z = upd (A 11) (32 * k + i) (nI (gtak (bm b) (pls w b y) (bn b) i)) := fun z e => by rw [e]
          rw [hA _ hv]
          exact ih (n - 1) (by omega) _ _ (i + 1) _ (by omega) hM (fun j => by
            by_cases e : j = i
            · subst e; rw [if_pos (by omega)]; exact if_pos rfl
            · rw [show uN g i (gtak (bm b) (pls w b y) (bn b) i) j = g j from if_neg e, hg j]
              by_cases e2 : j < i
              · rw [if_pos e2, if_pos (by omega)]
              · rw [if_neg e2, if_neg (by omega)]) (by rw [nI_add]) _
      refine EvP.s (fun _ _ K => Ev.go 2 rfl K) ?_
      refine EvP.ine rfl rfl rfl (by omega) (by omega) (fun c49 => ?_) (fun c49 => ?_)
      · refine EvP.s (fun _ _ K => Ev.go 3 rfl K) ?_
        refine EvP.s (fun _ _ K => Ev.cv (E' := me_M_placesOf) rfl mk_M_placesOf lv_1_166_1 rfl hp_5 rfl (e_M_placesOf (d + 1) x t m rfl rfl hy) K) ?_
        refine EvP.s (fun _ _ K => Ev.go 3 rfl K) ?_
        refine L c49 (fun i hi hp2 => ?_) (bm b) A (bn b) 0 _ (by omega) hM0 (fun j => by rw [if_neg (by omega)]) rfl _
        by_cases e : 0 < bn b i
        · exact e
        · exfalso
          have h2 := hkd.2
          unfold isin at h2
          rw [if_neg c49, if_neg (by omega), if_neg (by omega)] at h2
          have h3 := ofd h2
          have h4 := andn_tb (pls w b y) (fil b) i
          rw [h3, hp2, Nat.zero_testBit] at h4
          have h5 : (fil b).testBit i = true := by
            cases hq : (fil b).testBit i with
            | true => rfl
            | false => rw [hq] at h4; cases h4
          obtain ⟨j, hj1, hj2⟩ := (orf_tb _ i _).mp h5
          split at hj2
          · rw [Nat.testBit_two_pow] at hj2
            have := ofd hj2
            subst this
            omega
          · rw [Nat.zero_testBit] at hj2; cases hj2
      refine EvP.s (fun _ _ K => Ev.go 3 rfl K) ?_
      refine EvP.s (fun _ _ K => Ev.cv (E' := me_M_firstPlace) rfl mk_M_firstPlace lv_1_153_1 rfl hp_5 rfl (e_M_firstPlace (d + 2) x t m rfl rfl hy) K) ?_
      refine EvP.s (fun _ _ K => Ev.go 4 rfl K) ?_
      refine EvP.s (fun _ _ K => Ev.cv (E' := me_M_pushedMark) rfl mk_M_pushedMark lv_1_156_1 rfl hp_5 rfl (e_M_pushedMark (d + 2) x t m rfl rfl hy (by have := hwb.2.2.2.2.2.1 c49; omega)) K) ?_
      refine EvP.s (fun _ _ K => Ev.go 2 rfl K) ?_
      refine EvP.s (fun _ _ K => Ev.gf rfl lf_1_25_1 hp_5 rfl K) ?_
      refine EvP.s (fun _ _ K => Ev.go 4 rfl K) ?_
      refine EvP.s (fun _ _ K => Ev.gf rfl lf_1_25_1 hp_5 rfl K) ?_
      refine EvP.s (fun _ _ K => Ev.go 5 rfl K) ?_
      refine EvP.s (fun _ _ K => Ev.iln rfl hp_11 (by rw [pk_mul, nI_add]) (by omega) (by omega) K) ?_
      rw [m.2.2.2.1.2.2.2.1 (frs w b y) (by omega)]
      refine EvP.s (fun _ _ K => Ev.go 1 rfl K) ?_
      refine EvP.ine rfl rfl rfl (by have := h7 (frs w b y); omega) (by omega) (fun c90 => ?_) (fun c90 => ?_)
      · refine EvP.s (fun _ _ K => Ev.go 4 rfl K) ?_
        refine EvP.s (fun _ _ K => Ev.cv (E' := me_M_otherPlace) rfl mk_M_otherPlace lv_1_159_1 rfl hp_5 rfl (e_M_otherPlace (d + 3) x t m rfl rfl rfl hf (by omega)) K) ?_
        refine EvP.s (fun _ _ K => Ev.go 2 rfl K) ?_
        refine EvP.s (fun _ _ K => Ev.isn rfl hp_11 (by rw [pk_mul, nI_add]) (by omega) (by omega) K) ?_
        rw [hps_11]
        refine EvP.s (fun _ _ K => Ev.go 1 rfl K) ?_
        exact J2 _ _ (hM0.numg (g := bn b) hk (i := oth (bm b) (frs w b y) (mrk w b 1 y)) (v := 0) (by omega) hm.2 (by omega)) (by unfold ntak; rw [if_pos c49, if_neg c90]) _ _ _ _
      refine EvP.s (fun _ _ K => Ev.go 2 rfl K) ?_
      refine EvP.s (fun _ _ K => Ev.go 2 rfl K) ?_
      refine EvP.s (fun _ _ K => Ev.isn rfl hp_11 (by rw [pk_mul, nI_add]) (by omega) (by omega) K) ?_
      rw [hps_11]
      refine EvP.s (fun _ _ K => Ev.go 1 rfl K) ?_
      exact J2 _ _ (hM0.numg (g := bn b) hk (i := frs w b y) (v := 0) (by omega) hm.2 (by omega)) (by unfold ntak; rw [if_pos c49, if_pos c90]) _ _ _ _
    refine EvP.s (fun _ _ K => Ev.go 1 rfl K) ?_
    refine EvP.s (fun _ _ K => Ev.gf rfl lf_1_16_1 hp_5 rfl K) ?_
    refine EvP.s (fun _ _ K => Ev.go 1 rfl K) ?_
    refine EvP.s (fun _ _ K => Ev.iln rfl hp_8 rfl (by omega) (by omega) K) ?_
    rw [m.2.2.2.1.1]
    refine EvP.s (fun _ _ K => Ev.go 3 rfl K) ?_
    refine EvP.ieq rfl rfl rfl (by omega) (by omega) (fun c27 => ?_) (fun c27 => ?_)
    · refine EvP.s (fun _ _ K => Ev.go 3 rfl K) ?_
      refine EvP.s (fun _ _ K => Ev.cv (E' := me_M_isIn) rfl mk_M_isIn lv_1_181_1 rfl hp_5 rfl (e_M_isIn d x t m rfl rfl hy) K) ?_
      refine EvP.zn rfl rfl (fun c41 => ?_) (fun c41 => ?_)
      · exact J1 ⟨by omega, c41⟩
      refine EvP.s (fun _ _ K => Ev.go 1 rfl K) ?_
      refine ⟨_, _, Ev.reti rfl rfl, ?_⟩
      refine PMi.mk q ?_
      rw [← hz, if_pos (fun z => by rw [c41] at z; cases z.2)]
    refine EvP.s (fun _ _ K => Ev.go 2 rfl K) ?_
    refine EvP.ine rfl rfl rfl (by omega) (by omega) (fun c32 => ?_) (fun c32 => ?_)
    · refine EvP.s (fun _ _ K => Ev.go 1 rfl K) ?_
      refine ⟨_, _, Ev.reti rfl rfl, ?_⟩
      refine PMi.mk q ?_
      rw [← hz, if_pos (fun z => by omega)]
    refine EvP.s (fun _ _ K => Ev.go 3 rfl K) ?_
    refine EvP.s (fun _ _ K => Ev.cv (E' := me_M_isIn) rfl mk_M_isIn lv_1_181_1 rfl hp_5 rfl (e_M_isIn d x t m rfl rfl hy) K) ?_
    refine EvP.zn rfl rfl (fun c41 => ?_) (fun c41 => ?_)
    · exact J1 ⟨by omega, c41⟩
    refine EvP.s (fun _ _ K => Ev.go 1 rfl K) ?_
    refine ⟨_, _, Ev.reti rfl rfl, ?_⟩
    refine PMi.mk q ?_
    rw [← hz, if_pos (fun z => by rw [c41] at z; cases z.2)]
  refine EvP.s (fun _ _ K => Ev.go 1 rfl K) ?_
  refine ⟨_, _, Ev.reti rfl rfl, ?_⟩
  refine PMi.mk q ?_
  unfold an_take
  rw [if_pos (fun z => ofn c12 z.2)]
end
