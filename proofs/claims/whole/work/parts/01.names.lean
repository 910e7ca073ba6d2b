-- ===== PART A: goes FIRST, ahead of the names: the tables' words, and 'selects' of the private methods out of them =====
/-- a private method of a class that the tables say can be made, by its rows of tables_1 -/
def lw_okq (q : MethodName × Nat) : Prop := (q.1.cls ≠ "java/lang/invoke/MethodHandle" ∧ q.1.cls ≠ "java/lang/invoke/VarHandle") ∧ Cond.instantiable q.1.cls q.2 ∈ tables_1 ∧ Cond.privateMethod q.1 ∈ tables_1 ∧ Cond.instanceMethod q.1 ∈ tables_1
theorem lw_p0 : lw_okq (⟨"ClaimHall", "readDraft", "()I"⟩, 21) := ⟨⟨by decide +kernel, by decide +kernel⟩, List.mem_of_getElem? (i := 18) (by decide +kernel), List.mem_of_getElem? (i := 443) (by decide +kernel), List.mem_of_getElem? (i := 444) (by decide +kernel)⟩
theorem lw_p1 : lw_okq (⟨"ClaimHall", "endOfParts", "(II)I"⟩, 21) := ⟨⟨by decide +kernel, by decide +kernel⟩, List.mem_of_getElem? (i := 18) (by decide +kernel), List.mem_of_getElem? (i := 459) (by decide +kernel), List.mem_of_getElem? (i := 460) (by decide +kernel)⟩
theorem lw_p2 : lw_okq (⟨"ClaimHall", "settle", "(I[I)I"⟩, 21) := ⟨⟨by decide +kernel, by decide +kernel⟩, List.mem_of_getElem? (i := 18) (by decide +kernel), List.mem_of_getElem? (i := 486) (by decide +kernel), List.mem_of_getElem? (i := 487) (by decide +kernel)⟩
theorem lw_p3 : lw_okq (⟨"ClaimHall$Cleaner", "sortSides", "(LClaimHall$Row;I)V"⟩, 5) := ⟨⟨by decide +kernel, by decide +kernel⟩, List.mem_of_getElem? (i := 212) (by decide +kernel), List.mem_of_getElem? (i := 502) (by decide +kernel), List.mem_of_getElem? (i := 503) (by decide +kernel)⟩
theorem lw_p4 : lw_okq (⟨"ClaimHall$Scale", "tally", "([IIII)V"⟩, 5) := ⟨⟨by decide +kernel, by decide +kernel⟩, List.mem_of_getElem? (i := 130) (by decide +kernel), List.mem_of_getElem? (i := 519) (by decide +kernel), List.mem_of_getElem? (i := 520) (by decide +kernel)⟩
theorem lw_p5 : lw_okq (⟨"ClaimHall$Scale", "settleSurplus", "([III)V"⟩, 5) := ⟨⟨by decide +kernel, by decide +kernel⟩, List.mem_of_getElem? (i := 130) (by decide +kernel), List.mem_of_getElem? (i := 527) (by decide +kernel), List.mem_of_getElem? (i := 528) (by decide +kernel)⟩
theorem lw_p6 : lw_okq (⟨"ClaimHall$Scale", "settled", "(Z)I"⟩, 5) := ⟨⟨by decide +kernel, by decide +kernel⟩, List.mem_of_getElem? (i := 130) (by decide +kernel), List.mem_of_getElem? (i := 531) (by decide +kernel), List.mem_of_getElem? (i := 532) (by decide +kernel)⟩
theorem lw_p7 : lw_okq (⟨"ClaimHall$Scale", "likeParts", "([II[II)I"⟩, 5) := ⟨⟨by decide +kernel, by decide +kernel⟩, List.mem_of_getElem? (i := 130) (by decide +kernel), List.mem_of_getElem? (i := 535) (by decide +kernel), List.mem_of_getElem? (i := 536) (by decide +kernel)⟩
theorem lw_p8 : lw_okq (⟨"ClaimHall$Cleaner", "goes", "(LClaimHall$Row;I)Z"⟩, 5) := ⟨⟨by decide +kernel, by decide +kernel⟩, List.mem_of_getElem? (i := 212) (by decide +kernel), List.mem_of_getElem? (i := 541) (by decide +kernel), List.mem_of_getElem? (i := 542) (by decide +kernel)⟩
theorem lw_p9 : lw_okq (⟨"ClaimHall$Cleaner", "numberLetters", "(LClaimHall$Row;)V"⟩, 5) := ⟨⟨by decide +kernel, by decide +kernel⟩, List.mem_of_getElem? (i := 212) (by decide +kernel), List.mem_of_getElem? (i := 563) (by decide +kernel), List.mem_of_getElem? (i := 564) (by decide +kernel)⟩
theorem lw_p10 : lw_okq (⟨"ClaimHall$Rewriter", "prepare", "()V"⟩, 12) := ⟨⟨by decide +kernel, by decide +kernel⟩, List.mem_of_getElem? (i := 254) (by decide +kernel), List.mem_of_getElem? (i := 572) (by decide +kernel), List.mem_of_getElem? (i := 573) (by decide +kernel)⟩
theorem lw_p11 : lw_okq (⟨"ClaimHall$Rewriter", "list", "(LClaimHall$Claim;I)V"⟩, 12) := ⟨⟨by decide +kernel, by decide +kernel⟩, List.mem_of_getElem? (i := 254) (by decide +kernel), List.mem_of_getElem? (i := 584) (by decide +kernel), List.mem_of_getElem? (i := 585) (by decide +kernel)⟩
theorem lw_p12 : lw_okq (⟨"ClaimHall$Rewriter", "findFirst", "(LClaimHall$Row;)Z"⟩, 12) := ⟨⟨by decide +kernel, by decide +kernel⟩, List.mem_of_getElem? (i := 254) (by decide +kernel), List.mem_of_getElem? (i := 588) (by decide +kernel), List.mem_of_getElem? (i := 589) (by decide +kernel)⟩
theorem lw_p13 : lw_okq (⟨"ClaimHall$Rewriter", "fits", "(IILClaimHall$Row;I)Z"⟩, 12) := ⟨⟨by decide +kernel, by decide +kernel⟩, List.mem_of_getElem? (i := 254) (by decide +kernel), List.mem_of_getElem? (i := 592) (by decide +kernel), List.mem_of_getElem? (i := 593) (by decide +kernel)⟩
theorem lw_p14 : lw_okq (⟨"ClaimHall$Standing", "tell", "(II)V"⟩, 15) := ⟨⟨by decide +kernel, by decide +kernel⟩, List.mem_of_getElem? (i := 152) (by decide +kernel), List.mem_of_getElem? (i := 606) (by decide +kernel), List.mem_of_getElem? (i := 607) (by decide +kernel)⟩
theorem lw_p15 : lw_okq (⟨"ClaimHall$Standing", "beginWay", "(II)V"⟩, 15) := ⟨⟨by decide +kernel, by decide +kernel⟩, List.mem_of_getElem? (i := 152) (by decide +kernel), List.mem_of_getElem? (i := 628) (by decide +kernel), List.mem_of_getElem? (i := 629) (by decide +kernel)⟩
def lw_privs_1 : List (MethodName × Nat) := [(⟨"ClaimHall", "readDraft", "()I"⟩, 21), (⟨"ClaimHall", "endOfParts", "(II)I"⟩, 21), (⟨"ClaimHall", "settle", "(I[I)I"⟩, 21), (⟨"ClaimHall$Cleaner", "sortSides", "(LClaimHall$Row;I)V"⟩, 5), (⟨"ClaimHall$Scale", "tally", "([IIII)V"⟩, 5), (⟨"ClaimHall$Scale", "settleSurplus", "([III)V"⟩, 5), (⟨"ClaimHall$Scale", "settled", "(Z)I"⟩, 5), (⟨"ClaimHall$Scale", "likeParts", "([II[II)I"⟩, 5), (⟨"ClaimHall$Cleaner", "goes", "(LClaimHall$Row;I)Z"⟩, 5), (⟨"ClaimHall$Cleaner", "numberLetters", "(LClaimHall$Row;)V"⟩, 5), (⟨"ClaimHall$Rewriter", "prepare", "()V"⟩, 12), (⟨"ClaimHall$Rewriter", "list", "(LClaimHall$Claim;I)V"⟩, 12), (⟨"ClaimHall$Rewriter", "findFirst", "(LClaimHall$Row;)Z"⟩, 12), (⟨"ClaimHall$Rewriter", "fits", "(IILClaimHall$Row;I)Z"⟩, 12), (⟨"ClaimHall$Standing", "tell", "(II)V"⟩, 15), (⟨"ClaimHall$Standing", "beginWay", "(II)V"⟩, 15)]
theorem lw_r1 : ∀ q ∈ lw_privs_1, lw_okq q := List.forall_mem_cons.mpr ⟨lw_p0, List.forall_mem_cons.mpr ⟨lw_p1, List.forall_mem_cons.mpr ⟨lw_p2, List.forall_mem_cons.mpr ⟨lw_p3, List.forall_mem_cons.mpr ⟨lw_p4, List.forall_mem_cons.mpr ⟨lw_p5, List.forall_mem_cons.mpr ⟨lw_p6, List.forall_mem_cons.mpr ⟨lw_p7, List.forall_mem_cons.mpr ⟨lw_p8, List.forall_mem_cons.mpr ⟨lw_p9, List.forall_mem_cons.mpr ⟨lw_p10, List.forall_mem_cons.mpr ⟨lw_p11, List.forall_mem_cons.mpr ⟨lw_p12, List.forall_mem_cons.mpr ⟨lw_p13, List.forall_mem_cons.mpr ⟨lw_p14, List.forall_mem_cons.mpr ⟨lw_p15, fun _ h => absurd h List.not_mem_nil⟩⟩⟩⟩⟩⟩⟩⟩⟩⟩⟩⟩⟩⟩⟩⟩
theorem lw_p16 : lw_okq (⟨"ClaimHall$Standing", "nextOnWay", "()I"⟩, 15) := ⟨⟨by decide +kernel, by decide +kernel⟩, List.mem_of_getElem? (i := 152) (by decide +kernel), List.mem_of_getElem? (i := 633) (by decide +kernel), List.mem_of_getElem? (i := 634) (by decide +kernel)⟩
theorem lw_p17 : lw_okq (⟨"ClaimHall$Standing", "resting", "(I)I"⟩, 15) := ⟨⟨by decide +kernel, by decide +kernel⟩, List.mem_of_getElem? (i := 152) (by decide +kernel), List.mem_of_getElem? (i := 637) (by decide +kernel), List.mem_of_getElem? (i := 638) (by decide +kernel)⟩
theorem lw_p18 : lw_okq (⟨"ClaimHall$Rewriter", "note", "(ILClaimHall$Row;II)V"⟩, 12) := ⟨⟨by decide +kernel, by decide +kernel⟩, List.mem_of_getElem? (i := 254) (by decide +kernel), List.mem_of_getElem? (i := 642) (by decide +kernel), List.mem_of_getElem? (i := 643) (by decide +kernel)⟩
theorem lw_p19 : lw_okq (⟨"ClaimHall$Rewriter", "replace", "(LClaimHall$Row;II)Z"⟩, 12) := ⟨⟨by decide +kernel, by decide +kernel⟩, List.mem_of_getElem? (i := 254) (by decide +kernel), List.mem_of_getElem? (i := 646) (by decide +kernel), List.mem_of_getElem? (i := 647) (by decide +kernel)⟩
theorem lw_p20 : lw_okq (⟨"ClaimHall", "keep", "([I)I"⟩, 21) := ⟨⟨by decide +kernel, by decide +kernel⟩, List.mem_of_getElem? (i := 18) (by decide +kernel), List.mem_of_getElem? (i := 680) (by decide +kernel), List.mem_of_getElem? (i := 681) (by decide +kernel)⟩
theorem lw_p21 : lw_okq (⟨"ClaimHall", "pick", "()LClaimHall$Claim;"⟩, 21) := ⟨⟨by decide +kernel, by decide +kernel⟩, List.mem_of_getElem? (i := 18) (by decide +kernel), List.mem_of_getElem? (i := 815) (by decide +kernel), List.mem_of_getElem? (i := 816) (by decide +kernel)⟩
theorem lw_p22 : lw_okq (⟨"ClaimHall$Agenda", "advance", "()Z"⟩, 12) := ⟨⟨by decide +kernel, by decide +kernel⟩, List.mem_of_getElem? (i := 319) (by decide +kernel), List.mem_of_getElem? (i := 831) (by decide +kernel), List.mem_of_getElem? (i := 832) (by decide +kernel)⟩
theorem lw_p23 : lw_okq (⟨"ClaimHall$Agenda", "advanceTurn", "()Z"⟩, 12) := ⟨⟨by decide +kernel, by decide +kernel⟩, List.mem_of_getElem? (i := 319) (by decide +kernel), List.mem_of_getElem? (i := 839) (by decide +kernel), List.mem_of_getElem? (i := 840) (by decide +kernel)⟩
theorem lw_p24 : lw_okq (⟨"ClaimHall$Agenda", "findPlace", "()Z"⟩, 12) := ⟨⟨by decide +kernel, by decide +kernel⟩, List.mem_of_getElem? (i := 319) (by decide +kernel), List.mem_of_getElem? (i := 844) (by decide +kernel), List.mem_of_getElem? (i := 845) (by decide +kernel)⟩
theorem lw_p25 : lw_okq (⟨"ClaimHall$Agenda", "advanceFactor", "()Z"⟩, 12) := ⟨⟨by decide +kernel, by decide +kernel⟩, List.mem_of_getElem? (i := 319) (by decide +kernel), List.mem_of_getElem? (i := 850) (by decide +kernel), List.mem_of_getElem? (i := 851) (by decide +kernel)⟩
theorem lw_p26 : lw_okq (⟨"ClaimHall$Agenda", "tell", "()V"⟩, 12) := ⟨⟨by decide +kernel, by decide +kernel⟩, List.mem_of_getElem? (i := 319) (by decide +kernel), List.mem_of_getElem? (i := 854) (by decide +kernel), List.mem_of_getElem? (i := 855) (by decide +kernel)⟩
theorem lw_p27 : lw_okq (⟨"ClaimHall$Agenda", "nextPhase", "()V"⟩, 12) := ⟨⟨by decide +kernel, by decide +kernel⟩, List.mem_of_getElem? (i := 319) (by decide +kernel), List.mem_of_getElem? (i := 858) (by decide +kernel), List.mem_of_getElem? (i := 859) (by decide +kernel)⟩
theorem lw_p28 : lw_okq (⟨"ClaimHall$Maker", "makeClash", "(LClaimHall$Claim;ILClaimHall$Claim;LClaimHall$Row;)I"⟩, 4) := ⟨⟨by decide +kernel, by decide +kernel⟩, List.mem_of_getElem? (i := 300) (by decide +kernel), List.mem_of_getElem? (i := 873) (by decide +kernel), List.mem_of_getElem? (i := 874) (by decide +kernel)⟩
theorem lw_p29 : lw_okq (⟨"ClaimHall$Standing", "meet", "(II)Z"⟩, 15) := ⟨⟨by decide +kernel, by decide +kernel⟩, List.mem_of_getElem? (i := 152) (by decide +kernel), List.mem_of_getElem? (i := 886) (by decide +kernel), List.mem_of_getElem? (i := 887) (by decide +kernel)⟩
theorem lw_p30 : lw_okq (⟨"ClaimHall$Standing", "isIn", "(II)Z"⟩, 15) := ⟨⟨by decide +kernel, by decide +kernel⟩, List.mem_of_getElem? (i := 152) (by decide +kernel), List.mem_of_getElem? (i := 890) (by decide +kernel), List.mem_of_getElem? (i := 891) (by decide +kernel)⟩
theorem lw_p31 : lw_okq (⟨"ClaimHall$Maker", "writeAllBut", "(LClaimHall$Row;IILClaimHall$Row;)Z"⟩, 4) := ⟨⟨by decide +kernel, by decide +kernel⟩, List.mem_of_getElem? (i := 300) (by decide +kernel), List.mem_of_getElem? (i := 894) (by decide +kernel), List.mem_of_getElem? (i := 895) (by decide +kernel)⟩
def lw_privs_2 : List (MethodName × Nat) := [(⟨"ClaimHall$Standing", "nextOnWay", "()I"⟩, 15), (⟨"ClaimHall$Standing", "resting", "(I)I"⟩, 15), (⟨"ClaimHall$Rewriter", "note", "(ILClaimHall$Row;II)V"⟩, 12), (⟨"ClaimHall$Rewriter", "replace", "(LClaimHall$Row;II)Z"⟩, 12), (⟨"ClaimHall", "keep", "([I)I"⟩, 21), (⟨"ClaimHall", "pick", "()LClaimHall$Claim;"⟩, 21), (⟨"ClaimHall$Agenda", "advance", "()Z"⟩, 12), (⟨"ClaimHall$Agenda", "advanceTurn", "()Z"⟩, 12), (⟨"ClaimHall$Agenda", "findPlace", "()Z"⟩, 12), (⟨"ClaimHall$Agenda", "advanceFactor", "()Z"⟩, 12), (⟨"ClaimHall$Agenda", "tell", "()V"⟩, 12), (⟨"ClaimHall$Agenda", "nextPhase", "()V"⟩, 12), (⟨"ClaimHall$Maker", "makeClash", "(LClaimHall$Claim;ILClaimHall$Claim;LClaimHall$Row;)I"⟩, 4), (⟨"ClaimHall$Standing", "meet", "(II)Z"⟩, 15), (⟨"ClaimHall$Standing", "isIn", "(II)Z"⟩, 15), (⟨"ClaimHall$Maker", "writeAllBut", "(LClaimHall$Row;IILClaimHall$Row;)Z"⟩, 4)]
theorem lw_r2 : ∀ q ∈ lw_privs_2, lw_okq q := List.forall_mem_cons.mpr ⟨lw_p16, List.forall_mem_cons.mpr ⟨lw_p17, List.forall_mem_cons.mpr ⟨lw_p18, List.forall_mem_cons.mpr ⟨lw_p19, List.forall_mem_cons.mpr ⟨lw_p20, List.forall_mem_cons.mpr ⟨lw_p21, List.forall_mem_cons.mpr ⟨lw_p22, List.forall_mem_cons.mpr ⟨lw_p23, List.forall_mem_cons.mpr ⟨lw_p24, List.forall_mem_cons.mpr ⟨lw_p25, List.forall_mem_cons.mpr ⟨lw_p26, List.forall_mem_cons.mpr ⟨lw_p27, List.forall_mem_cons.mpr ⟨lw_p28, List.forall_mem_cons.mpr ⟨lw_p29, List.forall_mem_cons.mpr ⟨lw_p30, List.forall_mem_cons.mpr ⟨lw_p31, fun _ h => absurd h List.not_mem_nil⟩⟩⟩⟩⟩⟩⟩⟩⟩⟩⟩⟩⟩⟩⟩⟩
theorem lw_p32 : lw_okq (⟨"ClaimHall$Maker", "makeFactor", "(LClaimHall$Claim;IILClaimHall$Row;)I"⟩, 4) := ⟨⟨by decide +kernel, by decide +kernel⟩, List.mem_of_getElem? (i := 300) (by decide +kernel), List.mem_of_getElem? (i := 900) (by decide +kernel), List.mem_of_getElem? (i := 901) (by decide +kernel)⟩
theorem lw_p33 : lw_okq (⟨"ClaimHall$Maker", "makeDrop", "(LClaimHall$Claim;LClaimHall$Row;)I"⟩, 4) := ⟨⟨by decide +kernel, by decide +kernel⟩, List.mem_of_getElem? (i := 300) (by decide +kernel), List.mem_of_getElem? (i := 904) (by decide +kernel), List.mem_of_getElem? (i := 905) (by decide +kernel)⟩
theorem lw_p34 : lw_okq (⟨"ClaimHall$Maker", "makeTurn", "(LClaimHall$Claim;LClaimHall$Claim;[ILClaimHall$Row;)I"⟩, 4) := ⟨⟨by decide +kernel, by decide +kernel⟩, List.mem_of_getElem? (i := 300) (by decide +kernel), List.mem_of_getElem? (i := 910) (by decide +kernel), List.mem_of_getElem? (i := 911) (by decide +kernel)⟩
theorem lw_p35 : lw_okq (⟨"ClaimHall$Maker", "sidesUnderIt", "(IIII)I"⟩, 4) := ⟨⟨by decide +kernel, by decide +kernel⟩, List.mem_of_getElem? (i := 300) (by decide +kernel), List.mem_of_getElem? (i := 915) (by decide +kernel), List.mem_of_getElem? (i := 916) (by decide +kernel)⟩
theorem lw_p36 : lw_okq (⟨"ClaimHall$Maker", "writeTurned", "(LClaimHall$Row;IIIILClaimHall$Row;)Z"⟩, 4) := ⟨⟨by decide +kernel, by decide +kernel⟩, List.mem_of_getElem? (i := 300) (by decide +kernel), List.mem_of_getElem? (i := 920) (by decide +kernel), List.mem_of_getElem? (i := 921) (by decide +kernel)⟩
theorem lw_p37 : lw_okq (⟨"ClaimHall", "hasFuel", "()Z"⟩, 21) := ⟨⟨by decide +kernel, by decide +kernel⟩, List.mem_of_getElem? (i := 18) (by decide +kernel), List.mem_of_getElem? (i := 924) (by decide +kernel), List.mem_of_getElem? (i := 925) (by decide +kernel)⟩
theorem lw_p38 : lw_okq (⟨"ClaimHall$Shelf", "find", "(I)V"⟩, 5) := ⟨⟨by decide +kernel, by decide +kernel⟩, List.mem_of_getElem? (i := 48) (by decide +kernel), List.mem_of_getElem? (i := 981) (by decide +kernel), List.mem_of_getElem? (i := 982) (by decide +kernel)⟩
theorem lw_p39 : lw_okq (⟨"ClaimHall$Shelf", "findNamed", "(LClaimHall$Claim;)V"⟩, 5) := ⟨⟨by decide +kernel, by decide +kernel⟩, List.mem_of_getElem? (i := 48) (by decide +kernel), List.mem_of_getElem? (i := 985) (by decide +kernel), List.mem_of_getElem? (i := 986) (by decide +kernel)⟩
theorem lw_p40 : lw_okq (⟨"ClaimHall", "digestLiterals", "(JI)J"⟩, 21) := ⟨⟨by decide +kernel, by decide +kernel⟩, List.mem_of_getElem? (i := 18) (by decide +kernel), List.mem_of_getElem? (i := 1018) (by decide +kernel), List.mem_of_getElem? (i := 1019) (by decide +kernel)⟩
theorem lw_p41 : lw_okq (⟨"ClaimHall", "digestStep", "(JI)J"⟩, 21) := ⟨⟨by decide +kernel, by decide +kernel⟩, List.mem_of_getElem? (i := 18) (by decide +kernel), List.mem_of_getElem? (i := 1023) (by decide +kernel), List.mem_of_getElem? (i := 1024) (by decide +kernel)⟩
theorem lw_p42 : lw_okq (⟨"ClaimHallModel", "reads", "()Z"⟩, 61) := ⟨⟨by decide +kernel, by decide +kernel⟩, List.mem_of_getElem? (i := 1028) (by decide +kernel), List.mem_of_getElem? (i := 1237) (by decide +kernel), List.mem_of_getElem? (i := 1238) (by decide +kernel)⟩
theorem lw_p43 : lw_okq (⟨"ClaimHallModel", "ends", "(IIIIIII)I"⟩, 61) := ⟨⟨by decide +kernel, by decide +kernel⟩, List.mem_of_getElem? (i := 1028) (by decide +kernel), List.mem_of_getElem? (i := 1241) (by decide +kernel), List.mem_of_getElem? (i := 1242) (by decide +kernel)⟩
theorem lw_p44 : lw_okq (⟨"ClaimHallModel", "finishes", "()Z"⟩, 61) := ⟨⟨by decide +kernel, by decide +kernel⟩, List.mem_of_getElem? (i := 1028) (by decide +kernel), List.mem_of_getElem? (i := 1245) (by decide +kernel), List.mem_of_getElem? (i := 1246) (by decide +kernel)⟩
theorem lw_p45 : lw_okq (⟨"ClaimHallModel", "clean", "()V"⟩, 61) := ⟨⟨by decide +kernel, by decide +kernel⟩, List.mem_of_getElem? (i := 1028) (by decide +kernel), List.mem_of_getElem? (i := 1249) (by decide +kernel), List.mem_of_getElem? (i := 1250) (by decide +kernel)⟩
theorem lw_p46 : lw_okq (⟨"ClaimHallModel", "endOf", "([II)I"⟩, 61) := ⟨⟨by decide +kernel, by decide +kernel⟩, List.mem_of_getElem? (i := 1028) (by decide +kernel), List.mem_of_getElem? (i := 1253) (by decide +kernel), List.mem_of_getElem? (i := 1254) (by decide +kernel)⟩
theorem lw_p47 : lw_okq (⟨"ClaimHallModel", "isGreater", "([II[II)Z"⟩, 61) := ⟨⟨by decide +kernel, by decide +kernel⟩, List.mem_of_getElem? (i := 1028) (by decide +kernel), List.mem_of_getElem? (i := 1257) (by decide +kernel), List.mem_of_getElem? (i := 1258) (by decide +kernel)⟩
def lw_privs_3 : List (MethodName × Nat) := [(⟨"ClaimHall$Maker", "makeFactor", "(LClaimHall$Claim;IILClaimHall$Row;)I"⟩, 4), (⟨"ClaimHall$Maker", "makeDrop", "(LClaimHall$Claim;LClaimHall$Row;)I"⟩, 4), (⟨"ClaimHall$Maker", "makeTurn", "(LClaimHall$Claim;LClaimHall$Claim;[ILClaimHall$Row;)I"⟩, 4), (⟨"ClaimHall$Maker", "sidesUnderIt", "(IIII)I"⟩, 4), (⟨"ClaimHall$Maker", "writeTurned", "(LClaimHall$Row;IIIILClaimHall$Row;)Z"⟩, 4), (⟨"ClaimHall", "hasFuel", "()Z"⟩, 21), (⟨"ClaimHall$Shelf", "find", "(I)V"⟩, 5), (⟨"ClaimHall$Shelf", "findNamed", "(LClaimHall$Claim;)V"⟩, 5), (⟨"ClaimHall", "digestLiterals", "(JI)J"⟩, 21), (⟨"ClaimHall", "digestStep", "(JI)J"⟩, 21), (⟨"ClaimHallModel", "reads", "()Z"⟩, 61), (⟨"ClaimHallModel", "ends", "(IIIIIII)I"⟩, 61), (⟨"ClaimHallModel", "finishes", "()Z"⟩, 61), (⟨"ClaimHallModel", "clean", "()V"⟩, 61), (⟨"ClaimHallModel", "endOf", "([II)I"⟩, 61), (⟨"ClaimHallModel", "isGreater", "([II[II)Z"⟩, 61)]
theorem lw_r3 : ∀ q ∈ lw_privs_3, lw_okq q := List.forall_mem_cons.mpr ⟨lw_p32, List.forall_mem_cons.mpr ⟨lw_p33, List.forall_mem_cons.mpr ⟨lw_p34, List.forall_mem_cons.mpr ⟨lw_p35, List.forall_mem_cons.mpr ⟨lw_p36, List.forall_mem_cons.mpr ⟨lw_p37, List.forall_mem_cons.mpr ⟨lw_p38, List.forall_mem_cons.mpr ⟨lw_p39, List.forall_mem_cons.mpr ⟨lw_p40, List.forall_mem_cons.mpr ⟨lw_p41, List.forall_mem_cons.mpr ⟨lw_p42, List.forall_mem_cons.mpr ⟨lw_p43, List.forall_mem_cons.mpr ⟨lw_p44, List.forall_mem_cons.mpr ⟨lw_p45, List.forall_mem_cons.mpr ⟨lw_p46, List.forall_mem_cons.mpr ⟨lw_p47, fun _ h => absurd h List.not_mem_nil⟩⟩⟩⟩⟩⟩⟩⟩⟩⟩⟩⟩⟩⟩⟩⟩
theorem lw_p48 : lw_okq (⟨"ClaimHallModel", "hasLetters", "([II[II)Z"⟩, 61) := ⟨⟨by decide +kernel, by decide +kernel⟩, List.mem_of_getElem? (i := 1028) (by decide +kernel), List.mem_of_getElem? (i := 1261) (by decide +kernel), List.mem_of_getElem? (i := 1262) (by decide +kernel)⟩
theorem lw_p49 : lw_okq (⟨"ClaimHallModel", "weightOf", "([III)I"⟩, 61) := ⟨⟨by decide +kernel, by decide +kernel⟩, List.mem_of_getElem? (i := 1028) (by decide +kernel), List.mem_of_getElem? (i := 1265) (by decide +kernel), List.mem_of_getElem? (i := 1266) (by decide +kernel)⟩
theorem lw_p50 : lw_okq (⟨"ClaimHallModel", "areLike", "([II[II)Z"⟩, 61) := ⟨⟨by decide +kernel, by decide +kernel⟩, List.mem_of_getElem? (i := 1028) (by decide +kernel), List.mem_of_getElem? (i := 1269) (by decide +kernel), List.mem_of_getElem? (i := 1270) (by decide +kernel)⟩
theorem lw_p51 : lw_okq (⟨"ClaimHallModel", "exchange", "(I)V"⟩, 61) := ⟨⟨by decide +kernel, by decide +kernel⟩, List.mem_of_getElem? (i := 1028) (by decide +kernel), List.mem_of_getElem? (i := 1276) (by decide +kernel), List.mem_of_getElem? (i := 1277) (by decide +kernel)⟩
theorem lw_p52 : lw_okq (⟨"ClaimHallModel", "hasLikeSides", "(I)Z"⟩, 61) := ⟨⟨by decide +kernel, by decide +kernel⟩, List.mem_of_getElem? (i := 1028) (by decide +kernel), List.mem_of_getElem? (i := 1280) (by decide +kernel), List.mem_of_getElem? (i := 1281) (by decide +kernel)⟩
theorem lw_p53 : lw_okq (⟨"ClaimHallModel", "areAlike", "(II)Z"⟩, 61) := ⟨⟨by decide +kernel, by decide +kernel⟩, List.mem_of_getElem? (i := 1028) (by decide +kernel), List.mem_of_getElem? (i := 1284) (by decide +kernel), List.mem_of_getElem? (i := 1285) (by decide +kernel)⟩
theorem lw_p54 : lw_okq (⟨"ClaimHallModel", "findRewriting", "()Z"⟩, 61) := ⟨⟨by decide +kernel, by decide +kernel⟩, List.mem_of_getElem? (i := 1028) (by decide +kernel), List.mem_of_getElem? (i := 1288) (by decide +kernel), List.mem_of_getElem? (i := 1289) (by decide +kernel)⟩
theorem lw_p55 : lw_okq (⟨"ClaimHallModel", "isEquation", "(I)Z"⟩, 61) := ⟨⟨by decide +kernel, by decide +kernel⟩, List.mem_of_getElem? (i := 1028) (by decide +kernel), List.mem_of_getElem? (i := 1292) (by decide +kernel), List.mem_of_getElem? (i := 1293) (by decide +kernel)⟩
theorem lw_p56 : lw_okq (⟨"ClaimHallModel", "rewrites", "(IIII)Z"⟩, 61) := ⟨⟨by decide +kernel, by decide +kernel⟩, List.mem_of_getElem? (i := 1028) (by decide +kernel), List.mem_of_getElem? (i := 1296) (by decide +kernel), List.mem_of_getElem? (i := 1297) (by decide +kernel)⟩
theorem lw_p57 : lw_okq (⟨"ClaimHallModel", "unbind", "()V"⟩, 61) := ⟨⟨by decide +kernel, by decide +kernel⟩, List.mem_of_getElem? (i := 1028) (by decide +kernel), List.mem_of_getElem? (i := 1300) (by decide +kernel), List.mem_of_getElem? (i := 1301) (by decide +kernel)⟩
theorem lw_p58 : lw_okq (⟨"ClaimHallModel", "matchesTerm", "(III)Z"⟩, 61) := ⟨⟨by decide +kernel, by decide +kernel⟩, List.mem_of_getElem? (i := 1028) (by decide +kernel), List.mem_of_getElem? (i := 1304) (by decide +kernel), List.mem_of_getElem? (i := 1305) (by decide +kernel)⟩
theorem lw_p59 : lw_okq (⟨"ClaimHallModel", "makeOther", "(II)I"⟩, 61) := ⟨⟨by decide +kernel, by decide +kernel⟩, List.mem_of_getElem? (i := 1028) (by decide +kernel), List.mem_of_getElem? (i := 1308) (by decide +kernel), List.mem_of_getElem? (i := 1309) (by decide +kernel)⟩
theorem lw_p60 : lw_okq (⟨"ClaimHallModel", "lays", "(II)Z"⟩, 61) := ⟨⟨by decide +kernel, by decide +kernel⟩, List.mem_of_getElem? (i := 1028) (by decide +kernel), List.mem_of_getElem? (i := 1312) (by decide +kernel), List.mem_of_getElem? (i := 1313) (by decide +kernel)⟩
theorem lw_p61 : lw_okq (⟨"ClaimHallModel", "isTrivial", "()Z"⟩, 61) := ⟨⟨by decide +kernel, by decide +kernel⟩, List.mem_of_getElem? (i := 1028) (by decide +kernel), List.mem_of_getElem? (i := 1316) (by decide +kernel), List.mem_of_getElem? (i := 1317) (by decide +kernel)⟩
theorem lw_p62 : lw_okq (⟨"ClaimHallModel", "isTakenIn", "()Z"⟩, 61) := ⟨⟨by decide +kernel, by decide +kernel⟩, List.mem_of_getElem? (i := 1028) (by decide +kernel), List.mem_of_getElem? (i := 1320) (by decide +kernel), List.mem_of_getElem? (i := 1321) (by decide +kernel)⟩
theorem lw_p63 : lw_okq (⟨"ClaimHallModel", "claimTakesWork", "(I)Z"⟩, 61) := ⟨⟨by decide +kernel, by decide +kernel⟩, List.mem_of_getElem? (i := 1028) (by decide +kernel), List.mem_of_getElem? (i := 1324) (by decide +kernel), List.mem_of_getElem? (i := 1325) (by decide +kernel)⟩
def lw_privs_4 : List (MethodName × Nat) := [(⟨"ClaimHallModel", "hasLetters", "([II[II)Z"⟩, 61), (⟨"ClaimHallModel", "weightOf", "([III)I"⟩, 61), (⟨"ClaimHallModel", "areLike", "([II[II)Z"⟩, 61), (⟨"ClaimHallModel", "exchange", "(I)V"⟩, 61), (⟨"ClaimHallModel", "hasLikeSides", "(I)Z"⟩, 61), (⟨"ClaimHallModel", "areAlike", "(II)Z"⟩, 61), (⟨"ClaimHallModel", "findRewriting", "()Z"⟩, 61), (⟨"ClaimHallModel", "isEquation", "(I)Z"⟩, 61), (⟨"ClaimHallModel", "rewrites", "(IIII)Z"⟩, 61), (⟨"ClaimHallModel", "unbind", "()V"⟩, 61), (⟨"ClaimHallModel", "matchesTerm", "(III)Z"⟩, 61), (⟨"ClaimHallModel", "makeOther", "(II)I"⟩, 61), (⟨"ClaimHallModel", "lays", "(II)Z"⟩, 61), (⟨"ClaimHallModel", "isTrivial", "()Z"⟩, 61), (⟨"ClaimHallModel", "isTakenIn", "()Z"⟩, 61), (⟨"ClaimHallModel", "claimTakesWork", "(I)Z"⟩, 61)]
theorem lw_r4 : ∀ q ∈ lw_privs_4, lw_okq q := List.forall_mem_cons.mpr ⟨lw_p48, List.forall_mem_cons.mpr ⟨lw_p49, List.forall_mem_cons.mpr ⟨lw_p50, List.forall_mem_cons.mpr ⟨lw_p51, List.forall_mem_cons.mpr ⟨lw_p52, List.forall_mem_cons.mpr ⟨lw_p53, List.forall_mem_cons.mpr ⟨lw_p54, List.forall_mem_cons.mpr ⟨lw_p55, List.forall_mem_cons.mpr ⟨lw_p56, List.forall_mem_cons.mpr ⟨lw_p57, List.forall_mem_cons.mpr ⟨lw_p58, List.forall_mem_cons.mpr ⟨lw_p59, List.forall_mem_cons.mpr ⟨lw_p60, List.forall_mem_cons.mpr ⟨lw_p61, List.forall_mem_cons.mpr ⟨lw_p62, List.forall_mem_cons.mpr ⟨lw_p63, fun _ h => absurd h List.not_mem_nil⟩⟩⟩⟩⟩⟩⟩⟩⟩⟩⟩⟩⟩⟩⟩⟩
theorem lw_p64 : lw_okq (⟨"ClaimHallModel", "takes", "([I[I[ZII[I[I[ZII)Z"⟩, 61) := ⟨⟨by decide +kernel, by decide +kernel⟩, List.mem_of_getElem? (i := 1028) (by decide +kernel), List.mem_of_getElem? (i := 1328) (by decide +kernel), List.mem_of_getElem? (i := 1329) (by decide +kernel)⟩
theorem lw_p65 : lw_okq (⟨"ClaimHallModel", "save", "(I)V"⟩, 61) := ⟨⟨by decide +kernel, by decide +kernel⟩, List.mem_of_getElem? (i := 1028) (by decide +kernel), List.mem_of_getElem? (i := 1332) (by decide +kernel), List.mem_of_getElem? (i := 1333) (by decide +kernel)⟩
theorem lw_p66 : lw_okq (⟨"ClaimHallModel", "restore", "(I)V"⟩, 61) := ⟨⟨by decide +kernel, by decide +kernel⟩, List.mem_of_getElem? (i := 1028) (by decide +kernel), List.mem_of_getElem? (i := 1336) (by decide +kernel), List.mem_of_getElem? (i := 1337) (by decide +kernel)⟩
theorem lw_p67 : lw_okq (⟨"ClaimHallModel", "goesOnMatching", "([III[II)Z"⟩, 61) := ⟨⟨by decide +kernel, by decide +kernel⟩, List.mem_of_getElem? (i := 1028) (by decide +kernel), List.mem_of_getElem? (i := 1340) (by decide +kernel), List.mem_of_getElem? (i := 1341) (by decide +kernel)⟩
theorem lw_p68 : lw_okq (⟨"ClaimHallModel", "layWork", "(I)V"⟩, 61) := ⟨⟨by decide +kernel, by decide +kernel⟩, List.mem_of_getElem? (i := 1028) (by decide +kernel), List.mem_of_getElem? (i := 1344) (by decide +kernel), List.mem_of_getElem? (i := 1345) (by decide +kernel)⟩
theorem lw_p69 : lw_okq (⟨"ClaimHallModel", "claimTakes", "(II)Z"⟩, 61) := ⟨⟨by decide +kernel, by decide +kernel⟩, List.mem_of_getElem? (i := 1028) (by decide +kernel), List.mem_of_getElem? (i := 1348) (by decide +kernel), List.mem_of_getElem? (i := 1349) (by decide +kernel)⟩
theorem lw_p70 : lw_okq (⟨"ClaimHallModel", "pick", "()I"⟩, 61) := ⟨⟨by decide +kernel, by decide +kernel⟩, List.mem_of_getElem? (i := 1028) (by decide +kernel), List.mem_of_getElem? (i := 1364) (by decide +kernel), List.mem_of_getElem? (i := 1365) (by decide +kernel)⟩
theorem lw_p71 : lw_okq (⟨"ClaimHallModel", "weightOfClaim", "(I)I"⟩, 61) := ⟨⟨by decide +kernel, by decide +kernel⟩, List.mem_of_getElem? (i := 1028) (by decide +kernel), List.mem_of_getElem? (i := 1368) (by decide +kernel), List.mem_of_getElem? (i := 1369) (by decide +kernel)⟩
theorem lw_p72 : lw_okq (⟨"ClaimHallModel", "works", "(I)V"⟩, 61) := ⟨⟨by decide +kernel, by decide +kernel⟩, List.mem_of_getElem? (i := 1028) (by decide +kernel), List.mem_of_getElem? (i := 1372) (by decide +kernel), List.mem_of_getElem? (i := 1373) (by decide +kernel)⟩
theorem lw_p73 : lw_okq (⟨"ClaimHallModel", "goesOn", "(II)Z"⟩, 61) := ⟨⟨by decide +kernel, by decide +kernel⟩, List.mem_of_getElem? (i := 1028) (by decide +kernel), List.mem_of_getElem? (i := 1376) (by decide +kernel), List.mem_of_getElem? (i := 1377) (by decide +kernel)⟩
theorem lw_p74 : lw_okq (⟨"ClaimHallModel", "clashes", "(IIII)V"⟩, 61) := ⟨⟨by decide +kernel, by decide +kernel⟩, List.mem_of_getElem? (i := 1028) (by decide +kernel), List.mem_of_getElem? (i := 1380) (by decide +kernel), List.mem_of_getElem? (i := 1381) (by decide +kernel)⟩
theorem lw_p75 : lw_okq (⟨"ClaimHallModel", "tries", "(IIIIIII)V"⟩, 61) := ⟨⟨by decide +kernel, by decide +kernel⟩, List.mem_of_getElem? (i := 1028) (by decide +kernel), List.mem_of_getElem? (i := 1384) (by decide +kernel), List.mem_of_getElem? (i := 1385) (by decide +kernel)⟩
theorem lw_p76 : lw_okq (⟨"ClaimHallModel", "makes", "(IIIIIII)I"⟩, 61) := ⟨⟨by decide +kernel, by decide +kernel⟩, List.mem_of_getElem? (i := 1028) (by decide +kernel), List.mem_of_getElem? (i := 1388) (by decide +kernel), List.mem_of_getElem? (i := 1389) (by decide +kernel)⟩
theorem lw_p77 : lw_okq (⟨"ClaimHallModel", "clash", "(III)I"⟩, 61) := ⟨⟨by decide +kernel, by decide +kernel⟩, List.mem_of_getElem? (i := 1028) (by decide +kernel), List.mem_of_getElem? (i := 1392) (by decide +kernel), List.mem_of_getElem? (i := 1393) (by decide +kernel)⟩
theorem lw_p78 : lw_okq (⟨"ClaimHallModel", "isPositive", "(I)Z"⟩, 61) := ⟨⟨by decide +kernel, by decide +kernel⟩, List.mem_of_getElem? (i := 1028) (by decide +kernel), List.mem_of_getElem? (i := 1396) (by decide +kernel), List.mem_of_getElem? (i := 1397) (by decide +kernel)⟩
theorem lw_p79 : lw_okq (⟨"ClaimHallModel", "chosenOf", "(I)I"⟩, 61) := ⟨⟨by decide +kernel, by decide +kernel⟩, List.mem_of_getElem? (i := 1028) (by decide +kernel), List.mem_of_getElem? (i := 1400) (by decide +kernel), List.mem_of_getElem? (i := 1401) (by decide +kernel)⟩
def lw_privs_5 : List (MethodName × Nat) := [(⟨"ClaimHallModel", "takes", "([I[I[ZII[I[I[ZII)Z"⟩, 61), (⟨"ClaimHallModel", "save", "(I)V"⟩, 61), (⟨"ClaimHallModel", "restore", "(I)V"⟩, 61), (⟨"ClaimHallModel", "goesOnMatching", "([III[II)Z"⟩, 61), (⟨"ClaimHallModel", "layWork", "(I)V"⟩, 61), (⟨"ClaimHallModel", "claimTakes", "(II)Z"⟩, 61), (⟨"ClaimHallModel", "pick", "()I"⟩, 61), (⟨"ClaimHallModel", "weightOfClaim", "(I)I"⟩, 61), (⟨"ClaimHallModel", "works", "(I)V"⟩, 61), (⟨"ClaimHallModel", "goesOn", "(II)Z"⟩, 61), (⟨"ClaimHallModel", "clashes", "(IIII)V"⟩, 61), (⟨"ClaimHallModel", "tries", "(IIIIIII)V"⟩, 61), (⟨"ClaimHallModel", "makes", "(IIIIIII)I"⟩, 61), (⟨"ClaimHallModel", "clash", "(III)I"⟩, 61), (⟨"ClaimHallModel", "isPositive", "(I)Z"⟩, 61), (⟨"ClaimHallModel", "chosenOf", "(I)I"⟩, 61)]
theorem lw_r5 : ∀ q ∈ lw_privs_5, lw_okq q := List.forall_mem_cons.mpr ⟨lw_p64, List.forall_mem_cons.mpr ⟨lw_p65, List.forall_mem_cons.mpr ⟨lw_p66, List.forall_mem_cons.mpr ⟨lw_p67, List.forall_mem_cons.mpr ⟨lw_p68, List.forall_mem_cons.mpr ⟨lw_p69, List.forall_mem_cons.mpr ⟨lw_p70, List.forall_mem_cons.mpr ⟨lw_p71, List.forall_mem_cons.mpr ⟨lw_p72, List.forall_mem_cons.mpr ⟨lw_p73, List.forall_mem_cons.mpr ⟨lw_p74, List.forall_mem_cons.mpr ⟨lw_p75, List.forall_mem_cons.mpr ⟨lw_p76, List.forall_mem_cons.mpr ⟨lw_p77, List.forall_mem_cons.mpr ⟨lw_p78, List.forall_mem_cons.mpr ⟨lw_p79, fun _ h => absurd h List.not_mem_nil⟩⟩⟩⟩⟩⟩⟩⟩⟩⟩⟩⟩⟩⟩⟩⟩
theorem lw_p80 : lw_okq (⟨"ClaimHallModel", "isLiteral", "(II)Z"⟩, 61) := ⟨⟨by decide +kernel, by decide +kernel⟩, List.mem_of_getElem? (i := 1028) (by decide +kernel), List.mem_of_getElem? (i := 1404) (by decide +kernel), List.mem_of_getElem? (i := 1405) (by decide +kernel)⟩
theorem lw_p81 : lw_okq (⟨"ClaimHallModel", "take", "(II)V"⟩, 61) := ⟨⟨by decide +kernel, by decide +kernel⟩, List.mem_of_getElem? (i := 1028) (by decide +kernel), List.mem_of_getElem? (i := 1408) (by decide +kernel), List.mem_of_getElem? (i := 1409) (by decide +kernel)⟩
theorem lw_p82 : lw_okq (⟨"ClaimHallModel", "unites", "(II)Z"⟩, 61) := ⟨⟨by decide +kernel, by decide +kernel⟩, List.mem_of_getElem? (i := 1028) (by decide +kernel), List.mem_of_getElem? (i := 1412) (by decide +kernel), List.mem_of_getElem? (i := 1413) (by decide +kernel)⟩
theorem lw_p83 : lw_okq (⟨"ClaimHallModel", "standsAt", "(I)I"⟩, 61) := ⟨⟨by decide +kernel, by decide +kernel⟩, List.mem_of_getElem? (i := 1028) (by decide +kernel), List.mem_of_getElem? (i := 1416) (by decide +kernel), List.mem_of_getElem? (i := 1417) (by decide +kernel)⟩
theorem lw_p84 : lw_okq (⟨"ClaimHallModel", "binds", "(II)Z"⟩, 61) := ⟨⟨by decide +kernel, by decide +kernel⟩, List.mem_of_getElem? (i := 1028) (by decide +kernel), List.mem_of_getElem? (i := 1420) (by decide +kernel), List.mem_of_getElem? (i := 1421) (by decide +kernel)⟩
theorem lw_p85 : lw_okq (⟨"ClaimHallModel", "occurs", "(II)Z"⟩, 61) := ⟨⟨by decide +kernel, by decide +kernel⟩, List.mem_of_getElem? (i := 1028) (by decide +kernel), List.mem_of_getElem? (i := 1424) (by decide +kernel), List.mem_of_getElem? (i := 1425) (by decide +kernel)⟩
theorem lw_p86 : lw_okq (⟨"ClaimHallModel", "writesAll", "(III)Z"⟩, 61) := ⟨⟨by decide +kernel, by decide +kernel⟩, List.mem_of_getElem? (i := 1028) (by decide +kernel), List.mem_of_getElem? (i := 1428) (by decide +kernel), List.mem_of_getElem? (i := 1429) (by decide +kernel)⟩
theorem lw_p87 : lw_okq (⟨"ClaimHallModel", "write", "(I)V"⟩, 61) := ⟨⟨by decide +kernel, by decide +kernel⟩, List.mem_of_getElem? (i := 1028) (by decide +kernel), List.mem_of_getElem? (i := 1432) (by decide +kernel), List.mem_of_getElem? (i := 1433) (by decide +kernel)⟩
theorem lw_p88 : lw_okq (⟨"ClaimHallModel", "put", "(I)V"⟩, 61) := ⟨⟨by decide +kernel, by decide +kernel⟩, List.mem_of_getElem? (i := 1028) (by decide +kernel), List.mem_of_getElem? (i := 1436) (by decide +kernel), List.mem_of_getElem? (i := 1437) (by decide +kernel)⟩
theorem lw_p89 : lw_okq (⟨"ClaimHallModel", "comes", "(Z)Z"⟩, 61) := ⟨⟨by decide +kernel, by decide +kernel⟩, List.mem_of_getElem? (i := 1028) (by decide +kernel), List.mem_of_getElem? (i := 1440) (by decide +kernel), List.mem_of_getElem? (i := 1441) (by decide +kernel)⟩
theorem lw_p90 : lw_okq (⟨"ClaimHallModel", "factor", "(III)I"⟩, 61) := ⟨⟨by decide +kernel, by decide +kernel⟩, List.mem_of_getElem? (i := 1028) (by decide +kernel), List.mem_of_getElem? (i := 1444) (by decide +kernel), List.mem_of_getElem? (i := 1445) (by decide +kernel)⟩
theorem lw_p91 : lw_okq (⟨"ClaimHallModel", "drop", "(I)I"⟩, 61) := ⟨⟨by decide +kernel, by decide +kernel⟩, List.mem_of_getElem? (i := 1028) (by decide +kernel), List.mem_of_getElem? (i := 1448) (by decide +kernel), List.mem_of_getElem? (i := 1449) (by decide +kernel)⟩
theorem lw_p92 : lw_okq (⟨"ClaimHallModel", "turn", "(IIIIII)I"⟩, 61) := ⟨⟨by decide +kernel, by decide +kernel⟩, List.mem_of_getElem? (i := 1028) (by decide +kernel), List.mem_of_getElem? (i := 1452) (by decide +kernel), List.mem_of_getElem? (i := 1453) (by decide +kernel)⟩
theorem lw_p93 : lw_okq (⟨"ClaimHallModel", "turnWrites", "(IIIIII)Z"⟩, 61) := ⟨⟨by decide +kernel, by decide +kernel⟩, List.mem_of_getElem? (i := 1028) (by decide +kernel), List.mem_of_getElem? (i := 1456) (by decide +kernel), List.mem_of_getElem? (i := 1457) (by decide +kernel)⟩
theorem lw_p94 : lw_okq (⟨"ClaimHallModel", "writeTurned", "(IIII)V"⟩, 61) := ⟨⟨by decide +kernel, by decide +kernel⟩, List.mem_of_getElem? (i := 1028) (by decide +kernel), List.mem_of_getElem? (i := 1460) (by decide +kernel), List.mem_of_getElem? (i := 1461) (by decide +kernel)⟩
theorem lw_p95 : lw_okq (⟨"ClaimHallModel", "allTurns", "(IIII)V"⟩, 61) := ⟨⟨by decide +kernel, by decide +kernel⟩, List.mem_of_getElem? (i := 1028) (by decide +kernel), List.mem_of_getElem? (i := 1464) (by decide +kernel), List.mem_of_getElem? (i := 1465) (by decide +kernel)⟩
def lw_privs_6 : List (MethodName × Nat) := [(⟨"ClaimHallModel", "isLiteral", "(II)Z"⟩, 61), (⟨"ClaimHallModel", "take", "(II)V"⟩, 61), (⟨"ClaimHallModel", "unites", "(II)Z"⟩, 61), (⟨"ClaimHallModel", "standsAt", "(I)I"⟩, 61), (⟨"ClaimHallModel", "binds", "(II)Z"⟩, 61), (⟨"ClaimHallModel", "occurs", "(II)Z"⟩, 61), (⟨"ClaimHallModel", "writesAll", "(III)Z"⟩, 61), (⟨"ClaimHallModel", "write", "(I)V"⟩, 61), (⟨"ClaimHallModel", "put", "(I)V"⟩, 61), (⟨"ClaimHallModel", "comes", "(Z)Z"⟩, 61), (⟨"ClaimHallModel", "factor", "(III)I"⟩, 61), (⟨"ClaimHallModel", "drop", "(I)I"⟩, 61), (⟨"ClaimHallModel", "turn", "(IIIIII)I"⟩, 61), (⟨"ClaimHallModel", "turnWrites", "(IIIIII)Z"⟩, 61), (⟨"ClaimHallModel", "writeTurned", "(IIII)V"⟩, 61), (⟨"ClaimHallModel", "allTurns", "(IIII)V"⟩, 61)]
theorem lw_r6 : ∀ q ∈ lw_privs_6, lw_okq q := List.forall_mem_cons.mpr ⟨lw_p80, List.forall_mem_cons.mpr ⟨lw_p81, List.forall_mem_cons.mpr ⟨lw_p82, List.forall_mem_cons.mpr ⟨lw_p83, List.forall_mem_cons.mpr ⟨lw_p84, List.forall_mem_cons.mpr ⟨lw_p85, List.forall_mem_cons.mpr ⟨lw_p86, List.forall_mem_cons.mpr ⟨lw_p87, List.forall_mem_cons.mpr ⟨lw_p88, List.forall_mem_cons.mpr ⟨lw_p89, List.forall_mem_cons.mpr ⟨lw_p90, List.forall_mem_cons.mpr ⟨lw_p91, List.forall_mem_cons.mpr ⟨lw_p92, List.forall_mem_cons.mpr ⟨lw_p93, List.forall_mem_cons.mpr ⟨lw_p94, List.forall_mem_cons.mpr ⟨lw_p95, fun _ h => absurd h List.not_mem_nil⟩⟩⟩⟩⟩⟩⟩⟩⟩⟩⟩⟩⟩⟩⟩⟩
theorem lw_p96 : lw_okq (⟨"ClaimHallModel", "isClaim", "(I)Z"⟩, 61) := ⟨⟨by decide +kernel, by decide +kernel⟩, List.mem_of_getElem? (i := 1028) (by decide +kernel), List.mem_of_getElem? (i := 1476) (by decide +kernel), List.mem_of_getElem? (i := 1477) (by decide +kernel)⟩
theorem lw_p97 : lw_okq (⟨"ClaimHallModel", "makesAgain", "(I)Z"⟩, 61) := ⟨⟨by decide +kernel, by decide +kernel⟩, List.mem_of_getElem? (i := 1028) (by decide +kernel), List.mem_of_getElem? (i := 1492) (by decide +kernel), List.mem_of_getElem? (i := 1493) (by decide +kernel)⟩
theorem lw_p98 : lw_okq (⟨"ClaimHallModel", "namesEarlier", "(I)Z"⟩, 61) := ⟨⟨by decide +kernel, by decide +kernel⟩, List.mem_of_getElem? (i := 1028) (by decide +kernel), List.mem_of_getElem? (i := 1496) (by decide +kernel), List.mem_of_getElem? (i := 1497) (by decide +kernel)⟩
theorem lw_p99 : lw_okq (⟨"ClaimHallModel", "rewritesAgain", "(I)Z"⟩, 61) := ⟨⟨by decide +kernel, by decide +kernel⟩, List.mem_of_getElem? (i := 1028) (by decide +kernel), List.mem_of_getElem? (i := 1500) (by decide +kernel), List.mem_of_getElem? (i := 1501) (by decide +kernel)⟩
theorem lw_p100 : lw_okq (⟨"ClaimHallModel", "isWork", "(I)Z"⟩, 61) := ⟨⟨by decide +kernel, by decide +kernel⟩, List.mem_of_getElem? (i := 1028) (by decide +kernel), List.mem_of_getElem? (i := 1504) (by decide +kernel), List.mem_of_getElem? (i := 1505) (by decide +kernel)⟩
theorem lw_p101 : lw_okq (⟨"ClaimHallModel", "names", "(I)V"⟩, 61) := ⟨⟨by decide +kernel, by decide +kernel⟩, List.mem_of_getElem? (i := 1028) (by decide +kernel), List.mem_of_getElem? (i := 1512) (by decide +kernel), List.mem_of_getElem? (i := 1513) (by decide +kernel)⟩
theorem lw_p102 : lw_okq (⟨"ClaimHallModel", "lettersOf", "(I)I"⟩, 61) := ⟨⟨by decide +kernel, by decide +kernel⟩, List.mem_of_getElem? (i := 1028) (by decide +kernel), List.mem_of_getElem? (i := 1520) (by decide +kernel), List.mem_of_getElem? (i := 1521) (by decide +kernel)⟩
theorem lw_p103 : lw_okq (⟨"ClaimHallModel", "inStatus", "(I)I"⟩, 61) := ⟨⟨by decide +kernel, by decide +kernel⟩, List.mem_of_getElem? (i := 1028) (by decide +kernel), List.mem_of_getElem? (i := 1540) (by decide +kernel), List.mem_of_getElem? (i := 1541) (by decide +kernel)⟩
def lw_privs_7 : List (MethodName × Nat) := [(⟨"ClaimHallModel", "isClaim", "(I)Z"⟩, 61), (⟨"ClaimHallModel", "makesAgain", "(I)Z"⟩, 61), (⟨"ClaimHallModel", "namesEarlier", "(I)Z"⟩, 61), (⟨"ClaimHallModel", "rewritesAgain", "(I)Z"⟩, 61), (⟨"ClaimHallModel", "isWork", "(I)Z"⟩, 61), (⟨"ClaimHallModel", "names", "(I)V"⟩, 61), (⟨"ClaimHallModel", "lettersOf", "(I)I"⟩, 61), (⟨"ClaimHallModel", "inStatus", "(I)I"⟩, 61)]
theorem lw_r7 : ∀ q ∈ lw_privs_7, lw_okq q := List.forall_mem_cons.mpr ⟨lw_p96, List.forall_mem_cons.mpr ⟨lw_p97, List.forall_mem_cons.mpr ⟨lw_p98, List.forall_mem_cons.mpr ⟨lw_p99, List.forall_mem_cons.mpr ⟨lw_p100, List.forall_mem_cons.mpr ⟨lw_p101, List.forall_mem_cons.mpr ⟨lw_p102, List.forall_mem_cons.mpr ⟨lw_p103, fun _ h => absurd h List.not_mem_nil⟩⟩⟩⟩⟩⟩⟩⟩
def lw_privs : List (MethodName × Nat) := lw_privs_1 ++ (lw_privs_2 ++ (lw_privs_3 ++ (lw_privs_4 ++ (lw_privs_5 ++ (lw_privs_6 ++ (lw_privs_7))))))
def lw_tbl : List Cond := k2_sels lw_privs ++ tables_1
theorem lw_privs_ok : ∀ q ∈ lw_privs, lw_okq q := by
  show ∀ q ∈ lw_privs_1 ++ (lw_privs_2 ++ (lw_privs_3 ++ (lw_privs_4 ++ (lw_privs_5 ++ (lw_privs_6 ++ (lw_privs_7)))))), lw_okq q
  exact List.forall_mem_append.mpr ⟨lw_r1, List.forall_mem_append.mpr ⟨lw_r2, List.forall_mem_append.mpr ⟨lw_r3, List.forall_mem_append.mpr ⟨lw_r4, List.forall_mem_append.mpr ⟨lw_r5, List.forall_mem_append.mpr ⟨lw_r6, lw_r7⟩⟩⟩⟩⟩⟩
def RX0 : String := "ClaimHall$Agenda"
def TX0 : u_T := fun k => match k with
  | 0 => ("ClaimHall$Agenda", "signs", "LClaimHall$Signs;", true)
  | 1 => ("ClaimHall$Agenda", "shelf", "LClaimHall$Shelf;", true)
  | 2 => ("ClaimHall$Agenda", "numbers", "[I", true)
  | 3 => ("ClaimHall$Agenda", "it", "LClaimHall$Claim;", false)
  | 4 => ("ClaimHall$Agenda", "partner", "I", false)
  | 5 => ("ClaimHall$Agenda", "phase", "I", false)
  | 6 => ("ClaimHall$Agenda", "from", "LClaimHall$Claim;", false)
  | 7 => ("ClaimHall$Agenda", "into", "LClaimHall$Claim;", false)
  | 8 => ("ClaimHall$Agenda", "i", "I", false)
  | 9 => ("ClaimHall$Agenda", "side", "I", false)
  | 10 => ("ClaimHall$Agenda", "j", "I", false)
  | _ => ("ClaimHall$Agenda", "place", "I", false)
def tyX0 : Nat → FieldType := fun k => match k with
  | 0 => .object "ClaimHall$Signs"
  | 1 => .object "ClaimHall$Shelf"
  | 2 => .array .int
  | 3 => .object "ClaimHall$Claim"
  | 4 => .int
  | 5 => .int
  | 6 => .object "ClaimHall$Claim"
  | 7 => .object "ClaimHall$Claim"
  | 8 => .int
  | 9 => .int
  | 10 => .int
  | _ => .int
theorem nmX0 : ∀ a, a < 12 → ∀ b, b < 12 → a ≠ b → (TX0 a).2.1 ≠ (TX0 b).2.1 := by decide +kernel
theorem tyX0_ok : ∀ k, k < 12 → parseFieldDescriptor (TX0 k).2.2.1 = some (tyX0 k) := by decide +kernel
abbrev cX0_init : ByteArray := prog_2_method_1_code
def yX0_init : MethodName := ⟨RX0, "<init>", "(LClaimHall$Signs;LClaimHall$Shelf;)V"⟩
abbrev cX0_asGiven : ByteArray := prog_2_method_2_code
def yX0_asGiven : MethodName := ⟨RX0, "asGiven", "()[I"⟩
abbrev cX0_begin : ByteArray := prog_2_method_3_code
def yX0_begin : MethodName := ⟨RX0, "begin", "(LClaimHall$Claim;)V"⟩
abbrev cX0_next : ByteArray := prog_2_method_4_code
def yX0_next : MethodName := ⟨RX0, "next", "()Z"⟩
abbrev cX0_nextPhase : ByteArray := prog_2_method_5_code
def yX0_nextPhase : MethodName := ⟨RX0, "nextPhase", "()V"⟩
abbrev cX0_advance : ByteArray := prog_2_method_6_code
def yX0_advance : MethodName := ⟨RX0, "advance", "()Z"⟩
abbrev cX0_advanceFactor : ByteArray := prog_2_method_7_code
def yX0_advanceFactor : MethodName := ⟨RX0, "advanceFactor", "()Z"⟩
abbrev cX0_advanceTurn : ByteArray := prog_2_method_8_code
def yX0_advanceTurn : MethodName := ⟨RX0, "advanceTurn", "()Z"⟩
abbrev cX0_findPlace : ByteArray := prog_2_method_9_code
def yX0_findPlace : MethodName := ⟨RX0, "findPlace", "()Z"⟩
abbrev cX0_tell : ByteArray := prog_2_method_10_code
def yX0_tell : MethodName := ⟨RX0, "tell", "()V"⟩
def RX1 : String := "ClaimHall$Claim"
def TX1 : u_T := fun k => match k with
  | 0 => ("ClaimHall$Claim", "row", "LClaimHall$Row;", true)
  | 1 => ("ClaimHall$Claim", "source", "LClaimHall$Row;", false)
  | 2 => ("ClaimHall$Claim", "numbers", "[I", true)
  | 3 => ("ClaimHall$Claim", "rewriting", "[I", true)
  | 4 => ("ClaimHall$Claim", "rewritings", "I", false)
  | 5 => ("ClaimHall$Claim", "number", "I", false)
  | 6 => ("ClaimHall$Claim", "state", "I", false)
  | 7 => ("ClaimHall$Claim", "awayBy", "I", false)
  | 8 => ("ClaimHall$Claim", "weight", "I", false)
  | 9 => ("ClaimHall$Claim", "chosen", "I", false)
  | 10 => ("ClaimHall$Claim", "letters", "I", false)
  | 11 => ("ClaimHall$Claim", "rule", "Z", false)
  | 12 => ("ClaimHall$Claim", "right", "I", false)
  | _ => ("ClaimHall$Claim", "sorted", "Z", false)
def tyX1 : Nat → FieldType := fun k => match k with
  | 0 => .object "ClaimHall$Row"
  | 1 => .object "ClaimHall$Row"
  | 2 => .array .int
  | 3 => .array .int
  | 4 => .int
  | 5 => .int
  | 6 => .int
  | 7 => .int
  | 8 => .int
  | 9 => .int
  | 10 => .int
  | 11 => .boolean
  | 12 => .int
  | _ => .boolean
theorem nmX1 : ∀ a, a < 14 → ∀ b, b < 14 → a ≠ b → (TX1 a).2.1 ≠ (TX1 b).2.1 := by decide +kernel
theorem tyX1_ok : ∀ k, k < 14 → parseFieldDescriptor (TX1 k).2.2.1 = some (tyX1 k) := by decide +kernel
abbrev cX1_init : ByteArray := prog_3_method_1_code
def yX1_init : MethodName := ⟨RX1, "<init>", "()V"⟩
abbrev cX1_kind : ByteArray := prog_3_method_2_code
def yX1_kind : MethodName := ⟨RX1, "kind", "()I"⟩
abbrev cX1_isThere : ByteArray := prog_3_method_3_code
def yX1_isThere : MethodName := ⟨RX1, "isThere", "()Z"⟩
abbrev cX1_isPositive : ByteArray := prog_3_method_4_code
def yX1_isPositive : MethodName := ⟨RX1, "isPositive", "()Z"⟩
abbrev cX1_hasRewritingNumber : ByteArray := prog_3_method_5_code
def yX1_hasRewritingNumber : MethodName := ⟨RX1, "hasRewritingNumber", "(I)Z"⟩
abbrev cX1_fill : ByteArray := prog_3_method_6_code
def yX1_fill : MethodName := ⟨RX1, "fill", "(LClaimHall$Row;ILClaimHall$Scale;)V"⟩
abbrev cX1_tellRule : ByteArray := prog_3_method_7_code
def yX1_tellRule : MethodName := ⟨RX1, "tellRule", "(LClaimHall$Signs;LClaimHall$Scale;)V"⟩
abbrev cX1_tellStep : ByteArray := prog_3_method_8_code
def yX1_tellStep : MethodName := ⟨RX1, "tellStep", "([ILClaimHall$Rewriter;LClaimHall$Row;)V"⟩
def RX2 : String := "ClaimHall$Cleaner"
def TX2 : u_T := fun k => match k with
  | 0 => ("ClaimHall$Cleaner", "signs", "LClaimHall$Signs;", true)
  | 1 => ("ClaimHall$Cleaner", "scale", "LClaimHall$Scale;", true)
  | 2 => ("ClaimHall$Cleaner", "aside", "[I", true)
  | 3 => ("ClaimHall$Cleaner", "numbered", "[I", true)
  | _ => ("ClaimHall$Cleaner", "letters", "I", false)
def tyX2 : Nat → FieldType := fun k => match k with
  | 0 => .object "ClaimHall$Signs"
  | 1 => .object "ClaimHall$Scale"
  | 2 => .array .int
  | 3 => .array .int
  | _ => .int
theorem nmX2 : ∀ a, a < 5 → ∀ b, b < 5 → a ≠ b → (TX2 a).2.1 ≠ (TX2 b).2.1 := by decide +kernel
theorem tyX2_ok : ∀ k, k < 5 → parseFieldDescriptor (TX2 k).2.2.1 = some (tyX2 k) := by decide +kernel
abbrev cX2_init : ByteArray := prog_4_method_1_code
def yX2_init : MethodName := ⟨RX2, "<init>", "(LClaimHall$Signs;LClaimHall$Scale;)V"⟩
abbrev cX2_clean : ByteArray := prog_4_method_2_code
def yX2_clean : MethodName := ⟨RX2, "clean", "(LClaimHall$Row;)Z"⟩
abbrev cX2_sortSides : ByteArray := prog_4_method_3_code
def yX2_sortSides : MethodName := ⟨RX2, "sortSides", "(LClaimHall$Row;I)V"⟩
abbrev cX2_goes : ByteArray := prog_4_method_4_code
def yX2_goes : MethodName := ⟨RX2, "goes", "(LClaimHall$Row;I)Z"⟩
abbrev cX2_numberLetters : ByteArray := prog_4_method_5_code
def yX2_numberLetters : MethodName := ⟨RX2, "numberLetters", "(LClaimHall$Row;)V"⟩
def RX3 : String := "ClaimHall$Maker"
def TX3 : u_T := fun k => match k with
  | 0 => ("ClaimHall$Maker", "signs", "LClaimHall$Signs;", true)
  | 1 => ("ClaimHall$Maker", "scale", "LClaimHall$Scale;", true)
  | 2 => ("ClaimHall$Maker", "standing", "LClaimHall$Standing;", true)
  | _ => ("ClaimHall$Maker", "shelf", "LClaimHall$Shelf;", true)
def tyX3 : Nat → FieldType := fun k => match k with
  | 0 => .object "ClaimHall$Signs"
  | 1 => .object "ClaimHall$Scale"
  | 2 => .object "ClaimHall$Standing"
  | _ => .object "ClaimHall$Shelf"
theorem nmX3 : ∀ a, a < 4 → ∀ b, b < 4 → a ≠ b → (TX3 a).2.1 ≠ (TX3 b).2.1 := by decide +kernel
theorem tyX3_ok : ∀ k, k < 4 → parseFieldDescriptor (TX3 k).2.2.1 = some (tyX3 k) := by decide +kernel
abbrev cX3_init : ByteArray := prog_5_method_1_code
def yX3_init : MethodName := ⟨RX3, "<init>", "(LClaimHall$Signs;LClaimHall$Scale;LClaimHall$Standing;LClaimHall$Shelf;)V"⟩
abbrev cX3_make : ByteArray := prog_5_method_2_code
def yX3_make : MethodName := ⟨RX3, "make", "([IILClaimHall$Row;)I"⟩
abbrev cX3_makeClash : ByteArray := prog_5_method_3_code
def yX3_makeClash : MethodName := ⟨RX3, "makeClash", "(LClaimHall$Claim;ILClaimHall$Claim;LClaimHall$Row;)I"⟩
abbrev cX3_makeFactor : ByteArray := prog_5_method_4_code
def yX3_makeFactor : MethodName := ⟨RX3, "makeFactor", "(LClaimHall$Claim;IILClaimHall$Row;)I"⟩
abbrev cX3_makeDrop : ByteArray := prog_5_method_5_code
def yX3_makeDrop : MethodName := ⟨RX3, "makeDrop", "(LClaimHall$Claim;LClaimHall$Row;)I"⟩
abbrev cX3_makeTurn : ByteArray := prog_5_method_6_code
def yX3_makeTurn : MethodName := ⟨RX3, "makeTurn", "(LClaimHall$Claim;LClaimHall$Claim;[ILClaimHall$Row;)I"⟩
abbrev cX3_sidesUnderIt : ByteArray := prog_5_method_7_code
def yX3_sidesUnderIt : MethodName := ⟨RX3, "sidesUnderIt", "(IIII)I"⟩
abbrev cX3_writeAllBut : ByteArray := prog_5_method_8_code
def yX3_writeAllBut : MethodName := ⟨RX3, "writeAllBut", "(LClaimHall$Row;IILClaimHall$Row;)Z"⟩
abbrev cX3_writeTurned : ByteArray := prog_5_method_9_code
def yX3_writeTurned : MethodName := ⟨RX3, "writeTurned", "(LClaimHall$Row;IIIILClaimHall$Row;)Z"⟩
def RX4 : String := "ClaimHall$Rewriter"
def TX4 : u_T := fun k => match k with
  | 0 => ("ClaimHall$Rewriter", "signs", "LClaimHall$Signs;", true)
  | 1 => ("ClaimHall$Rewriter", "scale", "LClaimHall$Scale;", true)
  | 2 => ("ClaimHall$Rewriter", "standing", "LClaimHall$Standing;", true)
  | 3 => ("ClaimHall$Rewriter", "shelf", "LClaimHall$Shelf;", true)
  | 4 => ("ClaimHall$Rewriter", "rules", "[I", true)
  | 5 => ("ClaimHall$Rewriter", "sides", "[I", true)
  | 6 => ("ClaimHall$Rewriter", "heads", "[I", true)
  | 7 => ("ClaimHall$Rewriter", "many", "I", false)
  | 8 => ("ClaimHall$Rewriter", "foundIn", "I", false)
  | 9 => ("ClaimHall$Rewriter", "foundAt", "I", false)
  | 10 => ("ClaimHall$Rewriter", "told", "[I", true)
  | _ => ("ClaimHall$Rewriter", "done", "I", false)
def tyX4 : Nat → FieldType := fun k => match k with
  | 0 => .object "ClaimHall$Signs"
  | 1 => .object "ClaimHall$Scale"
  | 2 => .object "ClaimHall$Standing"
  | 3 => .object "ClaimHall$Shelf"
  | 4 => .array .int
  | 5 => .array .int
  | 6 => .array .int
  | 7 => .int
  | 8 => .int
  | 9 => .int
  | 10 => .array .int
  | _ => .int
theorem nmX4 : ∀ a, a < 12 → ∀ b, b < 12 → a ≠ b → (TX4 a).2.1 ≠ (TX4 b).2.1 := by decide +kernel
theorem tyX4_ok : ∀ k, k < 12 → parseFieldDescriptor (TX4 k).2.2.1 = some (tyX4 k) := by decide +kernel
abbrev cX4_init : ByteArray := prog_6_method_1_code
def yX4_init : MethodName := ⟨RX4, "<init>", "(LClaimHall$Signs;LClaimHall$Scale;LClaimHall$Standing;LClaimHall$Shelf;)V"⟩
abbrev cX4_prepare : ByteArray := prog_6_method_2_code
def yX4_prepare : MethodName := ⟨RX4, "prepare", "()V"⟩
abbrev cX4_list : ByteArray := prog_6_method_3_code
def yX4_list : MethodName := ⟨RX4, "list", "(LClaimHall$Claim;I)V"⟩
abbrev cX4_rewrite : ByteArray := prog_6_method_4_code
def yX4_rewrite : MethodName := ⟨RX4, "rewrite", "(LClaimHall$Row;LClaimHall$Cleaner;)Z"⟩
abbrev cX4_findFirst : ByteArray := prog_6_method_5_code
def yX4_findFirst : MethodName := ⟨RX4, "findFirst", "(LClaimHall$Row;)Z"⟩
abbrev cX4_note : ByteArray := prog_6_method_6_code
def yX4_note : MethodName := ⟨RX4, "note", "(ILClaimHall$Row;II)V"⟩
abbrev cX4_replace : ByteArray := prog_6_method_7_code
def yX4_replace : MethodName := ⟨RX4, "replace", "(LClaimHall$Row;II)Z"⟩
abbrev cX4_fits : ByteArray := prog_6_method_8_code
def yX4_fits : MethodName := ⟨RX4, "fits", "(IILClaimHall$Row;I)Z"⟩
abbrev cX4_again : ByteArray := prog_6_method_9_code
def yX4_again : MethodName := ⟨RX4, "again", "(LClaimHall$Claim;IILClaimHall$Row;)Z"⟩
def RX5 : String := "ClaimHall$Row"
def TX5 : u_T := fun k => match k with
  | 0 => ("ClaimHall$Row", "places", "[I", true)
  | 1 => ("ClaimHall$Row", "starts", "[I", true)
  | 2 => ("ClaimHall$Row", "denied", "[Z", true)
  | 3 => ("ClaimHall$Row", "size", "I", false)
  | _ => ("ClaimHall$Row", "marks", "I", false)
def tyX5 : Nat → FieldType := fun k => match k with
  | 0 => .array .int
  | 1 => .array .int
  | 2 => .array .boolean
  | 3 => .int
  | _ => .int
theorem nmX5 : ∀ a, a < 5 → ∀ b, b < 5 → a ≠ b → (TX5 a).2.1 ≠ (TX5 b).2.1 := by decide +kernel
theorem tyX5_ok : ∀ k, k < 5 → parseFieldDescriptor (TX5 k).2.2.1 = some (tyX5 k) := by decide +kernel
abbrev cX5_init : ByteArray := prog_7_method_1_code
def yX5_init : MethodName := ⟨RX5, "<init>", "()V"⟩
abbrev cX5_empty : ByteArray := prog_7_method_2_code
def yX5_empty : MethodName := ⟨RX5, "empty", "()V"⟩
abbrev cX5_has : ByteArray := prog_7_method_3_code
def yX5_has : MethodName := ⟨RX5, "has", "(I)Z"⟩
abbrev cX5_length : ByteArray := prog_7_method_4_code
def yX5_length : MethodName := ⟨RX5, "length", "(I)I"⟩
abbrev cX5_isEqual : ByteArray := prog_7_method_5_code
def yX5_isEqual : MethodName := ⟨RX5, "isEqual", "(I)Z"⟩
abbrev cX5_take : ByteArray := prog_7_method_6_code
def yX5_take : MethodName := ⟨RX5, "take", "(Z[III)Z"⟩
abbrev cX5_remove : ByteArray := prog_7_method_7_code
def yX5_remove : MethodName := ⟨RX5, "remove", "(I)V"⟩
abbrev cX5_replace : ByteArray := prog_7_method_8_code
def yX5_replace : MethodName := ⟨RX5, "replace", "(III[II)Z"⟩
abbrev cX5_saysAlike : ByteArray := prog_7_method_9_code
def yX5_saysAlike : MethodName := ⟨RX5, "saysAlike", "(II)Z"⟩
abbrev cX5_isTrivial : ByteArray := prog_7_method_10_code
def yX5_isTrivial : MethodName := ⟨RX5, "isTrivial", "(LClaimHall$Signs;)Z"⟩
abbrev cX5_hasLikeSides : ByteArray := prog_7_method_11_code
def yX5_hasLikeSides : MethodName := ⟨RX5, "hasLikeSides", "(ILClaimHall$Signs;)Z"⟩
abbrev cX5_mark : ByteArray := prog_7_method_12_code
def yX5_mark : MethodName := ⟨RX5, "mark", "()V"⟩
abbrev cX5_copy : ByteArray := prog_7_method_13_code
def yX5_copy : MethodName := ⟨RX5, "copy", "(LClaimHall$Row;)V"⟩
abbrev cX5_same : ByteArray := prog_7_method_14_code
def yX5_same : MethodName := ⟨RX5, "same", "(LClaimHall$Row;)Z"⟩
def RX6 : String := "ClaimHall$Scale"
def TX6 : u_T := fun k => match k with
  | 0 => ("ClaimHall$Scale", "signs", "LClaimHall$Signs;", true)
  | 1 => ("ClaimHall$Scale", "surplus", "[I", true)
  | 2 => ("ClaimHall$Scale", "heavier", "I", false)
  | 3 => ("ClaimHall$Scale", "firstMay", "Z", false)
  | _ => ("ClaimHall$Scale", "secondMay", "Z", false)
def tyX6 : Nat → FieldType := fun k => match k with
  | 0 => .object "ClaimHall$Signs"
  | 1 => .array .int
  | 2 => .int
  | 3 => .boolean
  | _ => .boolean
theorem nmX6 : ∀ a, a < 5 → ∀ b, b < 5 → a ≠ b → (TX6 a).2.1 ≠ (TX6 b).2.1 := by decide +kernel
theorem tyX6_ok : ∀ k, k < 5 → parseFieldDescriptor (TX6 k).2.2.1 = some (tyX6 k) := by decide +kernel
abbrev cX6_init : ByteArray := prog_8_method_1_code
def yX6_init : MethodName := ⟨RX6, "<init>", "(LClaimHall$Signs;)V"⟩
abbrev cX6_weigh : ByteArray := prog_8_method_2_code
def yX6_weigh : MethodName := ⟨RX6, "weigh", "([III)I"⟩
abbrev cX6_compare : ByteArray := prog_8_method_3_code
def yX6_compare : MethodName := ⟨RX6, "compare", "([II[II)I"⟩
abbrev cX6_tally : ByteArray := prog_8_method_4_code
def yX6_tally : MethodName := ⟨RX6, "tally", "([IIII)V"⟩
abbrev cX6_settleSurplus : ByteArray := prog_8_method_5_code
def yX6_settleSurplus : MethodName := ⟨RX6, "settleSurplus", "([III)V"⟩
abbrev cX6_settled : ByteArray := prog_8_method_6_code
def yX6_settled : MethodName := ⟨RX6, "settled", "(Z)I"⟩
abbrev cX6_likeParts : ByteArray := prog_8_method_7_code
def yX6_likeParts : MethodName := ⟨RX6, "likeParts", "([II[II)I"⟩
def RX7 : String := "ClaimHall$Shelf"
def TX7 : u_T := fun k => match k with
  | 0 => ("ClaimHall$Shelf", "claims", "[LClaimHall$Claim;", true)
  | 1 => ("ClaimHall$Shelf", "inProof", "[Z", true)
  | 2 => ("ClaimHall$Shelf", "found", "[I", true)
  | 3 => ("ClaimHall$Shelf", "finds", "I", false)
  | _ => ("ClaimHall$Shelf", "kept", "I", false)
def tyX7 : Nat → FieldType := fun k => match k with
  | 0 => .array (.object "ClaimHall$Claim")
  | 1 => .array .boolean
  | 2 => .array .int
  | 3 => .int
  | _ => .int
theorem nmX7 : ∀ a, a < 5 → ∀ b, b < 5 → a ≠ b → (TX7 a).2.1 ≠ (TX7 b).2.1 := by decide +kernel
theorem tyX7_ok : ∀ k, k < 5 → parseFieldDescriptor (TX7 k).2.2.1 = some (tyX7 k) := by decide +kernel
abbrev cX7_init : ByteArray := prog_9_method_1_code
def yX7_init : MethodName := ⟨RX7, "<init>", "()V"⟩
abbrev cX7_at : ByteArray := prog_9_method_2_code
def yX7_at : MethodName := ⟨RX7, "at", "(I)LClaimHall$Claim;"⟩
abbrev cX7_add : ByteArray := prog_9_method_3_code
def yX7_add : MethodName := ⟨RX7, "add", "()LClaimHall$Claim;"⟩
abbrev cX7_inState : ByteArray := prog_9_method_4_code
def yX7_inState : MethodName := ⟨RX7, "inState", "(I)I"⟩
abbrev cX7_markProof : ByteArray := prog_9_method_5_code
def yX7_markProof : MethodName := ⟨RX7, "markProof", "()V"⟩
abbrev cX7_findNamed : ByteArray := prog_9_method_6_code
def yX7_findNamed : MethodName := ⟨RX7, "findNamed", "(LClaimHall$Claim;)V"⟩
abbrev cX7_find : ByteArray := prog_9_method_7_code
def yX7_find : MethodName := ⟨RX7, "find", "(I)V"⟩
def RX8 : String := "ClaimHall$Signs"
def TX8 : u_T := fun k => match k with
  | 0 => ("ClaimHall$Signs", "sayings", "[Z", true)
  | 1 => ("ClaimHall$Signs", "parts", "[I", true)
  | 2 => ("ClaimHall$Signs", "weights", "[I", true)
  | _ => ("ClaimHall$Signs", "many", "I", false)
def tyX8 : Nat → FieldType := fun k => match k with
  | 0 => .array .boolean
  | 1 => .array .int
  | 2 => .array .int
  | _ => .int
theorem nmX8 : ∀ a, a < 4 → ∀ b, b < 4 → a ≠ b → (TX8 a).2.1 ≠ (TX8 b).2.1 := by decide +kernel
theorem tyX8_ok : ∀ k, k < 4 → parseFieldDescriptor (TX8 k).2.2.1 = some (tyX8 k) := by decide +kernel
abbrev cX8_init : ByteArray := prog_10_method_1_code
def yX8_init : MethodName := ⟨RX8, "<init>", "()V"⟩
abbrev cX8_add : ByteArray := prog_10_method_2_code
def yX8_add : MethodName := ⟨RX8, "add", "(ZII)I"⟩
abbrev cX8_isSaying : ByteArray := prog_10_method_3_code
def yX8_isSaying : MethodName := ⟨RX8, "isSaying", "(I)Z"⟩
abbrev cX8_isFunction : ByteArray := prog_10_method_4_code
def yX8_isFunction : MethodName := ⟨RX8, "isFunction", "(I)Z"⟩
abbrev cX8_partsOf : ByteArray := prog_10_method_5_code
def yX8_partsOf : MethodName := ⟨RX8, "partsOf", "(I)I"⟩
abbrev cX8_weightOf : ByteArray := prog_10_method_6_code
def yX8_weightOf : MethodName := ⟨RX8, "weightOf", "(I)I"⟩
abbrev cX8_after : ByteArray := prog_10_method_7_code
def yX8_after : MethodName := ⟨RX8, "after", "([II)I"⟩
def RX9 : String := "ClaimHall$Standing"
def TX9 : u_T := fun k => match k with
  | 0 => ("ClaimHall$Standing", "signs", "LClaimHall$Signs;", true)
  | 1 => ("ClaimHall$Standing", "board", "[I", true)
  | 2 => ("ClaimHall$Standing", "stands", "[I", true)
  | 3 => ("ClaimHall$Standing", "told", "[I", true)
  | 4 => ("ClaimHall$Standing", "tellings", "I", false)
  | 5 => ("ClaimHall$Standing", "firstBack", "[I", true)
  | 6 => ("ClaimHall$Standing", "secondBack", "[I", true)
  | 7 => ("ClaimHall$Standing", "openBack", "[I", true)
  | 8 => ("ClaimHall$Standing", "atBack", "[I", true)
  | 9 => ("ClaimHall$Standing", "endBack", "[I", true)
  | 10 => ("ClaimHall$Standing", "wayAt", "I", false)
  | 11 => ("ClaimHall$Standing", "wayEnd", "I", false)
  | 12 => ("ClaimHall$Standing", "wayDepth", "I", false)
  | 13 => ("ClaimHall$Standing", "written", "[I", true)
  | _ => ("ClaimHall$Standing", "length", "I", false)
def tyX9 : Nat → FieldType := fun k => match k with
  | 0 => .object "ClaimHall$Signs"
  | 1 => .array .int
  | 2 => .array .int
  | 3 => .array .int
  | 4 => .int
  | 5 => .array .int
  | 6 => .array .int
  | 7 => .array .int
  | 8 => .array .int
  | 9 => .array .int
  | 10 => .int
  | 11 => .int
  | 12 => .int
  | 13 => .array .int
  | _ => .int
theorem nmX9 : ∀ a, a < 15 → ∀ b, b < 15 → a ≠ b → (TX9 a).2.1 ≠ (TX9 b).2.1 := by decide +kernel
theorem tyX9_ok : ∀ k, k < 15 → parseFieldDescriptor (TX9 k).2.2.1 = some (tyX9 k) := by decide +kernel
abbrev cX9_init : ByteArray := prog_11_method_1_code
def yX9_init : MethodName := ⟨RX9, "<init>", "(LClaimHall$Signs;)V"⟩
abbrev cX9_layFirst : ByteArray := prog_11_method_2_code
def yX9_layFirst : MethodName := ⟨RX9, "layFirst", "(LClaimHall$Row;)V"⟩
abbrev cX9_laySecond : ByteArray := prog_11_method_3_code
def yX9_laySecond : MethodName := ⟨RX9, "laySecond", "(LClaimHall$Row;)V"⟩
abbrev cX9_forget : ByteArray := prog_11_method_4_code
def yX9_forget : MethodName := ⟨RX9, "forget", "(I)V"⟩
abbrev cX9_tell : ByteArray := prog_11_method_5_code
def yX9_tell : MethodName := ⟨RX9, "tell", "(II)V"⟩
abbrev cX9_resting : ByteArray := prog_11_method_6_code
def yX9_resting : MethodName := ⟨RX9, "resting", "(I)I"⟩
abbrev cX9_widen : ByteArray := prog_11_method_7_code
def yX9_widen : MethodName := ⟨RX9, "widen", "(II)Z"⟩
abbrev cX9_meet : ByteArray := prog_11_method_8_code
def yX9_meet : MethodName := ⟨RX9, "meet", "(II)Z"⟩
abbrev cX9_isIn : ByteArray := prog_11_method_9_code
def yX9_isIn : MethodName := ⟨RX9, "isIn", "(II)Z"⟩
abbrev cX9_write : ByteArray := prog_11_method_10_code
def yX9_write : MethodName := ⟨RX9, "write", "(III)Z"⟩
abbrev cX9_beginWay : ByteArray := prog_11_method_11_code
def yX9_beginWay : MethodName := ⟨RX9, "beginWay", "(II)V"⟩
abbrev cX9_nextOnWay : ByteArray := prog_11_method_12_code
def yX9_nextOnWay : MethodName := ⟨RX9, "nextOnWay", "()I"⟩
abbrev cX9_matches : ByteArray := prog_11_method_13_code
def yX9_matches : MethodName := ⟨RX9, "matches", "([II[II)Z"⟩
abbrev cX9_isTold : ByteArray := prog_11_method_14_code
def yX9_isTold : MethodName := ⟨RX9, "isTold", "([III)Z"⟩
def RX10 : String := "ClaimHall$Taker"
def TX10 : u_T := fun k => match k with
  | 0 => ("ClaimHall$Taker", "standing", "LClaimHall$Standing;", true)
  | 1 => ("ClaimHall$Taker", "shelf", "LClaimHall$Shelf;", true)
  | 2 => ("ClaimHall$Taker", "tried", "[I", true)
  | _ => ("ClaimHall$Taker", "toldAhead", "[I", true)
def tyX10 : Nat → FieldType := fun k => match k with
  | 0 => .object "ClaimHall$Standing"
  | 1 => .object "ClaimHall$Shelf"
  | 2 => .array .int
  | _ => .array .int
theorem nmX10 : ∀ a, a < 4 → ∀ b, b < 4 → a ≠ b → (TX10 a).2.1 ≠ (TX10 b).2.1 := by decide +kernel
theorem tyX10_ok : ∀ k, k < 4 → parseFieldDescriptor (TX10 k).2.2.1 = some (tyX10 k) := by decide +kernel
abbrev cX10_init : ByteArray := prog_12_method_1_code
def yX10_init : MethodName := ⟨RX10, "<init>", "(LClaimHall$Standing;LClaimHall$Shelf;)V"⟩
abbrev cX10_takes : ByteArray := prog_12_method_2_code
def yX10_takes : MethodName := ⟨RX10, "takes", "(LClaimHall$Row;LClaimHall$Row;)Z"⟩
abbrev cX10_isTakenIn : ByteArray := prog_12_method_3_code
def yX10_isTakenIn : MethodName := ⟨RX10, "isTakenIn", "(LClaimHall$Row;)Z"⟩
abbrev cX10_putAway : ByteArray := prog_12_method_4_code
def yX10_putAway : MethodName := ⟨RX10, "putAway", "(LClaimHall$Claim;)V"⟩
def RX11 : String := "ClaimHall"
def TX11 : u_T := fun k => match k with
  | 0 => ("ClaimHall", "signs", "LClaimHall$Signs;", true)
  | 1 => ("ClaimHall", "shelf", "LClaimHall$Shelf;", true)
  | 2 => ("ClaimHall", "drafted", "[I", true)
  | 3 => ("ClaimHall", "bench", "LClaimHall$Row;", true)
  | 4 => ("ClaimHall", "source", "LClaimHall$Row;", true)
  | 5 => ("ClaimHall", "scale", "LClaimHall$Scale;", true)
  | 6 => ("ClaimHall", "standing", "LClaimHall$Standing;", true)
  | 7 => ("ClaimHall", "cleaner", "LClaimHall$Cleaner;", true)
  | 8 => ("ClaimHall", "taker", "LClaimHall$Taker;", true)
  | 9 => ("ClaimHall", "rewriter", "LClaimHall$Rewriter;", true)
  | 10 => ("ClaimHall", "maker", "LClaimHall$Maker;", true)
  | 11 => ("ClaimHall", "agenda", "LClaimHall$Agenda;", true)
  | 12 => ("ClaimHall", "drafts", "I", false)
  | 13 => ("ClaimHall", "turnsSet", "I", false)
  | 14 => ("ClaimHall", "fuelSet", "I", false)
  | 15 => ("ClaimHall", "ending", "I", false)
  | 16 => ("ClaimHall", "picked", "I", false)
  | 17 => ("ClaimHall", "awayAtOnce", "I", false)
  | 18 => ("ClaimHall", "lost", "I", false)
  | 19 => ("ClaimHall", "made", "I", false)
  | _ => ("ClaimHall", "rewritten", "I", false)
def tyX11 : Nat → FieldType := fun k => match k with
  | 0 => .object "ClaimHall$Signs"
  | 1 => .object "ClaimHall$Shelf"
  | 2 => .array .int
  | 3 => .object "ClaimHall$Row"
  | 4 => .object "ClaimHall$Row"
  | 5 => .object "ClaimHall$Scale"
  | 6 => .object "ClaimHall$Standing"
  | 7 => .object "ClaimHall$Cleaner"
  | 8 => .object "ClaimHall$Taker"
  | 9 => .object "ClaimHall$Rewriter"
  | 10 => .object "ClaimHall$Maker"
  | 11 => .object "ClaimHall$Agenda"
  | 12 => .int
  | 13 => .int
  | 14 => .int
  | 15 => .int
  | 16 => .int
  | 17 => .int
  | 18 => .int
  | 19 => .int
  | _ => .int
theorem nmX11 : ∀ a, a < 21 → ∀ b, b < 21 → a ≠ b → (TX11 a).2.1 ≠ (TX11 b).2.1 := by decide +kernel
theorem tyX11_ok : ∀ k, k < 21 → parseFieldDescriptor (TX11 k).2.2.1 = some (tyX11 k) := by decide +kernel
abbrev cX11_init : ByteArray := prog_1_method_1_code
def yX11_init : MethodName := ⟨RX11, "<init>", "()V"⟩
abbrev cX11_sign : ByteArray := prog_1_method_2_code
def yX11_sign : MethodName := ⟨RX11, "sign", "(ZII)I"⟩
abbrev cX11_draft : ByteArray := prog_1_method_3_code
def yX11_draft : MethodName := ⟨RX11, "draft", "(I)I"⟩
abbrev cX11_given : ByteArray := prog_1_method_4_code
def yX11_given : MethodName := ⟨RX11, "given", "()I"⟩
abbrev cX11_wipe : ByteArray := prog_1_method_5_code
def yX11_wipe : MethodName := ⟨RX11, "wipe", "()I"⟩
abbrev cX11_turns : ByteArray := prog_1_method_6_code
def yX11_turns : MethodName := ⟨RX11, "turns", "(I)I"⟩
abbrev cX11_fuel : ByteArray := prog_1_method_7_code
def yX11_fuel : MethodName := ⟨RX11, "fuel", "(I)I"⟩
abbrev cX11_run : ByteArray := prog_1_method_8_code
def yX11_run : MethodName := ⟨RX11, "run", "(I)I"⟩
abbrev cX11_clear : ByteArray := prog_1_method_9_code
def yX11_clear : MethodName := ⟨RX11, "clear", "()I"⟩
abbrev cX11_claim : ByteArray := prog_1_method_10_code
def yX11_claim : MethodName := ⟨RX11, "claim", "(II)I"⟩
abbrev cX11_literal : ByteArray := prog_1_method_11_code
def yX11_literal : MethodName := ⟨RX11, "literal", "(III)I"⟩
abbrev cX11_step : ByteArray := prog_1_method_12_code
def yX11_step : MethodName := ⟨RX11, "step", "(II)I"⟩
abbrev cX11_forge : ByteArray := prog_1_method_13_code
def yX11_forge : MethodName := ⟨RX11, "forge", "(III)I"⟩
abbrev cX11_judge : ByteArray := prog_1_method_14_code
def yX11_judge : MethodName := ⟨RX11, "judge", "(I)I"⟩
abbrev cX11_proof : ByteArray := prog_1_method_15_code
def yX11_proof : MethodName := ⟨RX11, "proof", "(I)I"⟩
abbrev cX11_order : ByteArray := prog_1_method_16_code
def yX11_order : MethodName := ⟨RX11, "order", "(IIII)I"⟩
abbrev cX11_takesIn : ByteArray := prog_1_method_17_code
def yX11_takesIn : MethodName := ⟨RX11, "takesIn", "(II)I"⟩
abbrev cX11_count : ByteArray := prog_1_method_18_code
def yX11_count : MethodName := ⟨RX11, "count", "(I)I"⟩
abbrev cX11_digest : ByteArray := prog_1_method_19_code
def yX11_digest : MethodName := ⟨RX11, "digest", "()J"⟩
abbrev cX11_digestLiterals : ByteArray := prog_1_method_20_code
def yX11_digestLiterals : MethodName := ⟨RX11, "digestLiterals", "(JI)J"⟩
abbrev cX11_digestStep : ByteArray := prog_1_method_21_code
def yX11_digestStep : MethodName := ⟨RX11, "digestStep", "(JI)J"⟩
abbrev cX11_readDraft : ByteArray := prog_1_method_22_code
def yX11_readDraft : MethodName := ⟨RX11, "readDraft", "()I"⟩
abbrev cX11_endOfParts : ByteArray := prog_1_method_23_code
def yX11_endOfParts : MethodName := ⟨RX11, "endOfParts", "(II)I"⟩
abbrev cX11_pick : ByteArray := prog_1_method_24_code
def yX11_pick : MethodName := ⟨RX11, "pick", "()LClaimHall$Claim;"⟩
abbrev cX11_hasFuel : ByteArray := prog_1_method_25_code
def yX11_hasFuel : MethodName := ⟨RX11, "hasFuel", "()Z"⟩
abbrev cX11_settle : ByteArray := prog_1_method_26_code
def yX11_settle : MethodName := ⟨RX11, "settle", "(I[I)I"⟩
abbrev cX11_keep : ByteArray := prog_1_method_27_code
def yX11_keep : MethodName := ⟨RX11, "keep", "([I)I"⟩
abbrev cX11_alike : ByteArray := prog_1_method_28_code
def yX11_alike : MethodName := ⟨RX11, "alike", "([II[III)Z"⟩
def RX12 : String := "ClaimHallModel"
def TX12 : u_T := fun k => match k with
  | 0 => ("ClaimHallModel", "signs", "I", false)
  | 1 => ("ClaimHallModel", "isSaying", "[Z", true)
  | 2 => ("ClaimHallModel", "parts", "[I", true)
  | 3 => ("ClaimHallModel", "weights", "[I", true)
  | 4 => ("ClaimHallModel", "drafted", "I", false)
  | 5 => ("ClaimHallModel", "draft", "[I", true)
  | 6 => ("ClaimHallModel", "kept", "I", false)
  | 7 => ("ClaimHallModel", "rows", "[I", true)
  | 8 => ("ClaimHallModel", "sizes", "[I", true)
  | 9 => ("ClaimHallModel", "isDenied", "[Z", true)
  | 10 => ("ClaimHallModel", "many", "[I", true)
  | 11 => ("ClaimHallModel", "status", "[I", true)
  | 12 => ("ClaimHallModel", "awayBy", "[I", true)
  | 13 => ("ClaimHallModel", "wasGiven", "[Z", true)
  | 14 => ("ClaimHallModel", "givenRows", "[I", true)
  | 15 => ("ClaimHallModel", "givenSizes", "[I", true)
  | 16 => ("ClaimHallModel", "givenDenied", "[Z", true)
  | 17 => ("ClaimHallModel", "givenMany", "[I", true)
  | 18 => ("ClaimHallModel", "steps", "[I", true)
  | 19 => ("ClaimHallModel", "rewrites", "[I", true)
  | 20 => ("ClaimHallModel", "rewriteRows", "[I", true)
  | 21 => ("ClaimHallModel", "work", "[I", true)
  | 22 => ("ClaimHallModel", "workSize", "[I", true)
  | 23 => ("ClaimHallModel", "workDenied", "[Z", true)
  | 24 => ("ClaimHallModel", "works", "I", false)
  | 25 => ("ClaimHallModel", "often", "[I", true)
  | 26 => ("ClaimHallModel", "turned", "[I", true)
  | 27 => ("ClaimHallModel", "lettered", "[I", true)
  | 28 => ("ClaimHallModel", "letters", "I", false)
  | 29 => ("ClaimHallModel", "bindAt", "[I", true)
  | 30 => ("ClaimHallModel", "bindSize", "[I", true)
  | 31 => ("ClaimHallModel", "tries", "[I", true)
  | 32 => ("ClaimHallModel", "savedAt", "[I", true)
  | 33 => ("ClaimHallModel", "savedSize", "[I", true)
  | 34 => ("ClaimHallModel", "other", "[I", true)
  | 35 => ("ClaimHallModel", "otherSize", "I", false)
  | 36 => ("ClaimHallModel", "atR", "I", false)
  | 37 => ("ClaimHallModel", "atSide", "I", false)
  | 38 => ("ClaimHallModel", "atLiteral", "I", false)
  | 39 => ("ClaimHallModel", "atPlace", "I", false)
  | 40 => ("ClaimHallModel", "rewritten", "I", false)
  | 41 => ("ClaimHallModel", "rewriteNow", "[I", true)
  | 42 => ("ClaimHallModel", "rewritings", "I", false)
  | 43 => ("ClaimHallModel", "lost", "I", false)
  | 44 => ("ClaimHallModel", "atOnce", "I", false)
  | 45 => ("ClaimHallModel", "made", "I", false)
  | 46 => ("ClaimHallModel", "side", "[I", true)
  | 47 => ("ClaimHallModel", "bound", "[I", true)
  | 48 => ("ClaimHallModel", "stackX", "[I", true)
  | 49 => ("ClaimHallModel", "stackY", "[I", true)
  | 50 => ("ClaimHallModel", "stackLeft", "[I", true)
  | 51 => ("ClaimHallModel", "out", "[I", true)
  | 52 => ("ClaimHallModel", "outs", "I", false)
  | 53 => ("ClaimHallModel", "sideL", "[I", true)
  | 54 => ("ClaimHallModel", "end", "I", false)
  | 55 => ("ClaimHallModel", "picks", "I", false)
  | 56 => ("ClaimHallModel", "misfit", "I", false)
  | 57 => ("ClaimHallModel", "turns", "I", false)
  | 58 => ("ClaimHallModel", "fuel", "I", false)
  | 59 => ("ClaimHallModel", "isNamed", "[Z", true)
  | _ => ("ClaimHallModel", "namesMore", "Z", false)
def tyX12 : Nat → FieldType := fun k => match k with
  | 0 => .int
  | 1 => .array .boolean
  | 2 => .array .int
  | 3 => .array .int
  | 4 => .int
  | 5 => .array .int
  | 6 => .int
  | 7 => .array .int
  | 8 => .array .int
  | 9 => .array .boolean
  | 10 => .array .int
  | 11 => .array .int
  | 12 => .array .int
  | 13 => .array .boolean
  | 14 => .array .int
  | 15 => .array .int
  | 16 => .array .boolean
  | 17 => .array .int
  | 18 => .array .int
  | 19 => .array .int
  | 20 => .array .int
  | 21 => .array .int
  | 22 => .array .int
  | 23 => .array .boolean
  | 24 => .int
  | 25 => .array .int
  | 26 => .array .int
  | 27 => .array .int
  | 28 => .int
  | 29 => .array .int
  | 30 => .array .int
  | 31 => .array .int
  | 32 => .array .int
  | 33 => .array .int
  | 34 => .array .int
  | 35 => .int
  | 36 => .int
  | 37 => .int
  | 38 => .int
  | 39 => .int
  | 40 => .int
  | 41 => .array .int
  | 42 => .int
  | 43 => .int
  | 44 => .int
  | 45 => .int
  | 46 => .array .int
  | 47 => .array .int
  | 48 => .array .int
  | 49 => .array .int
  | 50 => .array .int
  | 51 => .array .int
  | 52 => .int
  | 53 => .array .int
  | 54 => .int
  | 55 => .int
  | 56 => .int
  | 57 => .int
  | 58 => .int
  | 59 => .array .boolean
  | _ => .boolean
theorem nmX12 : ∀ a, a < 61 → ∀ b, b < 61 → a ≠ b → (TX12 a).2.1 ≠ (TX12 b).2.1 := by decide +kernel
theorem tyX12_ok : ∀ k, k < 61 → parseFieldDescriptor (TX12 k).2.2.1 = some (tyX12 k) := by decide +kernel
abbrev cX12_init : ByteArray := prog_14_method_1_code
def yX12_init : MethodName := ⟨RX12, "<init>", "()V"⟩
abbrev cX12_in : ByteArray := prog_14_method_3_code
def yX12_in : MethodName := ⟨RX12, "in", "(III)Z"⟩
abbrev cX12_sign : ByteArray := prog_14_method_4_code
def yX12_sign : MethodName := ⟨RX12, "sign", "(ZII)I"⟩
abbrev cX12_draft : ByteArray := prog_14_method_5_code
def yX12_draft : MethodName := ⟨RX12, "draft", "(I)I"⟩
abbrev cX12_wipe : ByteArray := prog_14_method_6_code
def yX12_wipe : MethodName := ⟨RX12, "wipe", "()I"⟩
abbrev cX12_endOf : ByteArray := prog_14_method_7_code
def yX12_endOf : MethodName := ⟨RX12, "endOf", "([II)I"⟩
abbrev cX12_weightOf : ByteArray := prog_14_method_8_code
def yX12_weightOf : MethodName := ⟨RX12, "weightOf", "([III)I"⟩
abbrev cX12_isLike : ByteArray := prog_14_method_9_code
def yX12_isLike : MethodName := ⟨RX12, "isLike", "([II[III)Z"⟩
abbrev cX12_areLike : ByteArray := prog_14_method_10_code
def yX12_areLike : MethodName := ⟨RX12, "areLike", "([II[II)Z"⟩
abbrev cX12_hasLetters : ByteArray := prog_14_method_11_code
def yX12_hasLetters : MethodName := ⟨RX12, "hasLetters", "([II[II)Z"⟩
abbrev cX12_isGreater : ByteArray := prog_14_method_12_code
def yX12_isGreater : MethodName := ⟨RX12, "isGreater", "([II[II)Z"⟩
abbrev cX12_exchange : ByteArray := prog_14_method_13_code
def yX12_exchange : MethodName := ⟨RX12, "exchange", "(I)V"⟩
abbrev cX12_hasLikeSides : ByteArray := prog_14_method_14_code
def yX12_hasLikeSides : MethodName := ⟨RX12, "hasLikeSides", "(I)Z"⟩
abbrev cX12_areAlike : ByteArray := prog_14_method_15_code
def yX12_areAlike : MethodName := ⟨RX12, "areAlike", "(II)Z"⟩
abbrev cX12_clean : ByteArray := prog_14_method_16_code
def yX12_clean : MethodName := ⟨RX12, "clean", "()V"⟩
abbrev cX12_isTrivial : ByteArray := prog_14_method_17_code
def yX12_isTrivial : MethodName := ⟨RX12, "isTrivial", "()Z"⟩
abbrev cX12_unbind : ByteArray := prog_14_method_18_code
def yX12_unbind : MethodName := ⟨RX12, "unbind", "()V"⟩
abbrev cX12_goesOnMatching : ByteArray := prog_14_method_19_code
def yX12_goesOnMatching : MethodName := ⟨RX12, "goesOnMatching", "([III[II)Z"⟩
abbrev cX12_save : ByteArray := prog_14_method_20_code
def yX12_save : MethodName := ⟨RX12, "save", "(I)V"⟩
abbrev cX12_restore : ByteArray := prog_14_method_21_code
def yX12_restore : MethodName := ⟨RX12, "restore", "(I)V"⟩
abbrev cX12_takes : ByteArray := prog_14_method_22_code
def yX12_takes : MethodName := ⟨RX12, "takes", "([I[I[ZII[I[I[ZII)Z"⟩
abbrev cX12_claimTakes : ByteArray := prog_14_method_23_code
def yX12_claimTakes : MethodName := ⟨RX12, "claimTakes", "(II)Z"⟩
abbrev cX12_claimTakesWork : ByteArray := prog_14_method_24_code
def yX12_claimTakesWork : MethodName := ⟨RX12, "claimTakesWork", "(I)Z"⟩
abbrev cX12_makeOther : ByteArray := prog_14_method_25_code
def yX12_makeOther : MethodName := ⟨RX12, "makeOther", "(II)I"⟩
abbrev cX12_isEquation : ByteArray := prog_14_method_26_code
def yX12_isEquation : MethodName := ⟨RX12, "isEquation", "(I)Z"⟩
abbrev cX12_rewrites : ByteArray := prog_14_method_27_code
def yX12_rewrites : MethodName := ⟨RX12, "rewrites", "(IIII)Z"⟩
abbrev cX12_matchesTerm : ByteArray := prog_14_method_28_code
def yX12_matchesTerm : MethodName := ⟨RX12, "matchesTerm", "(III)Z"⟩
abbrev cX12_lays : ByteArray := prog_14_method_29_code
def yX12_lays : MethodName := ⟨RX12, "lays", "(II)Z"⟩
abbrev cX12_findRewriting : ByteArray := prog_14_method_30_code
def yX12_findRewriting : MethodName := ⟨RX12, "findRewriting", "()Z"⟩
abbrev cX12_finishes : ByteArray := prog_14_method_31_code
def yX12_finishes : MethodName := ⟨RX12, "finishes", "()Z"⟩
abbrev cX12_take : ByteArray := prog_14_method_32_code
def yX12_take : MethodName := ⟨RX12, "take", "(II)V"⟩
abbrev cX12_standsAt : ByteArray := prog_14_method_33_code
def yX12_standsAt : MethodName := ⟨RX12, "standsAt", "(I)I"⟩
abbrev cX12_occurs : ByteArray := prog_14_method_34_code
def yX12_occurs : MethodName := ⟨RX12, "occurs", "(II)Z"⟩
abbrev cX12_unites : ByteArray := prog_14_method_35_code
def yX12_unites : MethodName := ⟨RX12, "unites", "(II)Z"⟩
abbrev cX12_binds : ByteArray := prog_14_method_36_code
def yX12_binds : MethodName := ⟨RX12, "binds", "(II)Z"⟩
abbrev cX12_put : ByteArray := prog_14_method_37_code
def yX12_put : MethodName := ⟨RX12, "put", "(I)V"⟩
abbrev cX12_write : ByteArray := prog_14_method_38_code
def yX12_write : MethodName := ⟨RX12, "write", "(I)V"⟩
abbrev cX12_comes : ByteArray := prog_14_method_39_code
def yX12_comes : MethodName := ⟨RX12, "comes", "(Z)Z"⟩
abbrev cX12_writesAll : ByteArray := prog_14_method_40_code
def yX12_writesAll : MethodName := ⟨RX12, "writesAll", "(III)Z"⟩
abbrev cX12_chosenOf : ByteArray := prog_14_method_41_code
def yX12_chosenOf : MethodName := ⟨RX12, "chosenOf", "(I)I"⟩
abbrev cX12_isPositive : ByteArray := prog_14_method_42_code
def yX12_isPositive : MethodName := ⟨RX12, "isPositive", "(I)Z"⟩
abbrev cX12_isLiteral : ByteArray := prog_14_method_43_code
def yX12_isLiteral : MethodName := ⟨RX12, "isLiteral", "(II)Z"⟩
abbrev cX12_clash : ByteArray := prog_14_method_44_code
def yX12_clash : MethodName := ⟨RX12, "clash", "(III)I"⟩
abbrev cX12_factor : ByteArray := prog_14_method_45_code
def yX12_factor : MethodName := ⟨RX12, "factor", "(III)I"⟩
abbrev cX12_drop : ByteArray := prog_14_method_46_code
def yX12_drop : MethodName := ⟨RX12, "drop", "(I)I"⟩
abbrev cX12_turn : ByteArray := prog_14_method_47_code
def yX12_turn : MethodName := ⟨RX12, "turn", "(IIIIII)I"⟩
abbrev cX12_turnWrites : ByteArray := prog_14_method_48_code
def yX12_turnWrites : MethodName := ⟨RX12, "turnWrites", "(IIIIII)Z"⟩
abbrev cX12_writeTurned : ByteArray := prog_14_method_49_code
def yX12_writeTurned : MethodName := ⟨RX12, "writeTurned", "(IIII)V"⟩
abbrev cX12_makes : ByteArray := prog_14_method_50_code
def yX12_makes : MethodName := ⟨RX12, "makes", "(IIIIIII)I"⟩
abbrev cX12_isTakenIn : ByteArray := prog_14_method_51_code
def yX12_isTakenIn : MethodName := ⟨RX12, "isTakenIn", "()Z"⟩
abbrev cX12_layWork : ByteArray := prog_14_method_52_code
def yX12_layWork : MethodName := ⟨RX12, "layWork", "(I)V"⟩
abbrev cX12_ends : ByteArray := prog_14_method_53_code
def yX12_ends : MethodName := ⟨RX12, "ends", "(IIIIIII)I"⟩
abbrev cX12_reads : ByteArray := prog_14_method_54_code
def yX12_reads : MethodName := ⟨RX12, "reads", "()Z"⟩
abbrev cX12_given : ByteArray := prog_14_method_55_code
def yX12_given : MethodName := ⟨RX12, "given", "()I"⟩
abbrev cX12_turns : ByteArray := prog_14_method_56_code
def yX12_turns : MethodName := ⟨RX12, "turns", "(I)I"⟩
abbrev cX12_fuel : ByteArray := prog_14_method_57_code
def yX12_fuel : MethodName := ⟨RX12, "fuel", "(I)I"⟩
abbrev cX12_tries : ByteArray := prog_14_method_58_code
def yX12_tries : MethodName := ⟨RX12, "tries", "(IIIIIII)V"⟩
abbrev cX12_goesOn : ByteArray := prog_14_method_59_code
def yX12_goesOn : MethodName := ⟨RX12, "goesOn", "(II)Z"⟩
abbrev cX12_clashes : ByteArray := prog_14_method_60_code
def yX12_clashes : MethodName := ⟨RX12, "clashes", "(IIII)V"⟩
abbrev cX12_allTurns : ByteArray := prog_14_method_61_code
def yX12_allTurns : MethodName := ⟨RX12, "allTurns", "(IIII)V"⟩
abbrev cX12_works : ByteArray := prog_14_method_62_code
def yX12_works : MethodName := ⟨RX12, "works", "(I)V"⟩
abbrev cX12_weightOfClaim : ByteArray := prog_14_method_63_code
def yX12_weightOfClaim : MethodName := ⟨RX12, "weightOfClaim", "(I)I"⟩
abbrev cX12_pick : ByteArray := prog_14_method_64_code
def yX12_pick : MethodName := ⟨RX12, "pick", "()I"⟩
abbrev cX12_run : ByteArray := prog_14_method_65_code
def yX12_run : MethodName := ⟨RX12, "run", "(I)I"⟩
abbrev cX12_clear : ByteArray := prog_14_method_66_code
def yX12_clear : MethodName := ⟨RX12, "clear", "()I"⟩
abbrev cX12_hasNumber : ByteArray := prog_14_method_67_code
def yX12_hasNumber : MethodName := ⟨RX12, "hasNumber", "(II)Z"⟩
abbrev cX12_isClaim : ByteArray := prog_14_method_68_code
def yX12_isClaim : MethodName := ⟨RX12, "isClaim", "(I)Z"⟩
abbrev cX12_step : ByteArray := prog_14_method_69_code
def yX12_step : MethodName := ⟨RX12, "step", "(II)I"⟩
abbrev cX12_forge : ByteArray := prog_14_method_70_code
def yX12_forge : MethodName := ⟨RX12, "forge", "(III)I"⟩
abbrev cX12_namesEarlier : ByteArray := prog_14_method_71_code
def yX12_namesEarlier : MethodName := ⟨RX12, "namesEarlier", "(I)Z"⟩
abbrev cX12_makesAgain : ByteArray := prog_14_method_72_code
def yX12_makesAgain : MethodName := ⟨RX12, "makesAgain", "(I)Z"⟩
abbrev cX12_rewritesAgain : ByteArray := prog_14_method_73_code
def yX12_rewritesAgain : MethodName := ⟨RX12, "rewritesAgain", "(I)Z"⟩
abbrev cX12_isWork : ByteArray := prog_14_method_74_code
def yX12_isWork : MethodName := ⟨RX12, "isWork", "(I)Z"⟩
abbrev cX12_judge : ByteArray := prog_14_method_75_code
def yX12_judge : MethodName := ⟨RX12, "judge", "(I)I"⟩
abbrev cX12_names : ByteArray := prog_14_method_76_code
def yX12_names : MethodName := ⟨RX12, "names", "(I)V"⟩
abbrev cX12_proof : ByteArray := prog_14_method_77_code
def yX12_proof : MethodName := ⟨RX12, "proof", "(I)I"⟩
abbrev cX12_lettersOf : ByteArray := prog_14_method_78_code
def yX12_lettersOf : MethodName := ⟨RX12, "lettersOf", "(I)I"⟩
abbrev cX12_claim : ByteArray := prog_14_method_79_code
def yX12_claim : MethodName := ⟨RX12, "claim", "(II)I"⟩
abbrev cX12_literal : ByteArray := prog_14_method_80_code
def yX12_literal : MethodName := ⟨RX12, "literal", "(III)I"⟩
abbrev cX12_order : ByteArray := prog_14_method_81_code
def yX12_order : MethodName := ⟨RX12, "order", "(IIII)I"⟩
abbrev cX12_takesIn : ByteArray := prog_14_method_82_code
def yX12_takesIn : MethodName := ⟨RX12, "takesIn", "(II)I"⟩
abbrev cX12_inStatus : ByteArray := prog_14_method_83_code
def yX12_inStatus : MethodName := ⟨RX12, "inStatus", "(I)I"⟩
abbrev cX12_count : ByteArray := prog_14_method_84_code
def yX12_count : MethodName := ⟨RX12, "count", "(I)I"⟩
abbrev cX12_digest : ByteArray := prog_14_method_85_code
def yX12_digest : MethodName := ⟨RX12, "digest", "()J"⟩
def RJ9 : String := "java/lang/Math"
abbrev cJ9_min_7cf53 : ByteArray := prog_15_method_69_code
def yJ9_min_7cf53 : MethodName := ⟨RJ9, "min", "(II)I"⟩
def RJ10 : String := "java/lang/System"
def RJ7 : String := "java/util/Arrays"
abbrev cJ7_fill_53178 : ByteArray := prog_17_method_103_code
def yJ7_fill_53178 : MethodName := ⟨RJ7, "fill", "([II)V"⟩
def RL : String := "ClaimHallLaw"
abbrev cL_law : ByteArray := code
def yL_law : MethodName := ⟨RL, "law", "([I)Z"⟩
abbrev vwCl : List vw_C := [(RX0, TX0, 12), (RX1, TX1, 14), (RX2, TX2, 5), (RX3, TX3, 4), (RX4, TX4, 12), (RX5, TX5, 5), (RX6, TX6, 5), (RX7, TX7, 5), (RX8, TX8, 4), (RX9, TX9, 15), (RX10, TX10, 4), (RX11, TX11, 21), (RX12, TX12, 61)]
