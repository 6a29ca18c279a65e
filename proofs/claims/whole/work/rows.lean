section
-- ===== PART A: goes FIRST, ahead of the names: the tables' words, and 'selects' of the private methods out of them =====
/-- a private method of a class that the tables say can be made, by its rows of tables_1 -/
def lw_okq (q : MethodName × Nat) : Prop := (q.1.cls ≠ "java/lang/invoke/MethodHandle" ∧ q.1.cls ≠ "java/lang/invoke/VarHandle") ∧ Cond.instantiable q.1.cls q.2 ∈ tables_1 ∧ Cond.privateMethod q.1 ∈ tables_1 ∧ Cond.instanceMethod q.1 ∈ tables_1
theorem lw_p0 : lw_okq (⟨"CallStages$ThreeStages", "forgetCalls", "()V"⟩, 13) := ⟨⟨by decide +kernel, by decide +kernel⟩, List.mem_of_getElem? (i := 23) (by decide +kernel), List.mem_of_getElem? (i := 31) (by decide +kernel), List.mem_of_getElem? (i := 32) (by decide +kernel)⟩
theorem lw_p1 : lw_okq (⟨"CallStages$ThreeStages", "freeAllLinks", "()V"⟩, 13) := ⟨⟨by decide +kernel, by decide +kernel⟩, List.mem_of_getElem? (i := 23) (by decide +kernel), List.mem_of_getElem? (i := 38) (by decide +kernel), List.mem_of_getElem? (i := 39) (by decide +kernel)⟩
theorem lw_p2 : lw_okq (⟨"CallStages$Comparers", "leadAllRows", "()V"⟩, 10) := ⟨⟨by decide +kernel, by decide +kernel⟩, List.mem_of_getElem? (i := 130) (by decide +kernel), List.mem_of_getElem? (i := 138) (by decide +kernel), List.mem_of_getElem? (i := 139) (by decide +kernel)⟩
theorem lw_p3 : lw_okq (⟨"CallStages$Comparers", "layAllRows", "()V"⟩, 10) := ⟨⟨by decide +kernel, by decide +kernel⟩, List.mem_of_getElem? (i := 130) (by decide +kernel), List.mem_of_getElem? (i := 143) (by decide +kernel), List.mem_of_getElem? (i := 144) (by decide +kernel)⟩
theorem lw_p4 : lw_okq (⟨"CallStages$Comparers", "words", "()I"⟩, 10) := ⟨⟨by decide +kernel, by decide +kernel⟩, List.mem_of_getElem? (i := 130) (by decide +kernel), List.mem_of_getElem? (i := 149) (by decide +kernel), List.mem_of_getElem? (i := 150) (by decide +kernel)⟩
theorem lw_p5 : lw_okq (⟨"CallStages$Comparers", "changesRows", "([J[J)Z"⟩, 10) := ⟨⟨by decide +kernel, by decide +kernel⟩, List.mem_of_getElem? (i := 130) (by decide +kernel), List.mem_of_getElem? (i := 156) (by decide +kernel), List.mem_of_getElem? (i := 157) (by decide +kernel)⟩
theorem lw_p6 : lw_okq (⟨"CallStages$Queues", "matchNone", "()V"⟩, 8) := ⟨⟨by decide +kernel, by decide +kernel⟩, List.mem_of_getElem? (i := 243) (by decide +kernel), List.mem_of_getElem? (i := 250) (by decide +kernel), List.mem_of_getElem? (i := 251) (by decide +kernel)⟩
theorem lw_p7 : lw_okq (⟨"CallStages$ThreeStages", "switchOf", "(I)I"⟩, 13) := ⟨⟨by decide +kernel, by decide +kernel⟩, List.mem_of_getElem? (i := 23) (by decide +kernel), List.mem_of_getElem? (i := 373) (by decide +kernel), List.mem_of_getElem? (i := 374) (by decide +kernel)⟩
theorem lw_p8 : lw_okq (⟨"CallStages$ThreeStages", "join", "(II)V"⟩, 13) := ⟨⟨by decide +kernel, by decide +kernel⟩, List.mem_of_getElem? (i := 23) (by decide +kernel), List.mem_of_getElem? (i := 377) (by decide +kernel), List.mem_of_getElem? (i := 378) (by decide +kernel)⟩
theorem lw_p9 : lw_okq (⟨"CallStages$ThreeStages", "goBy", "(II)V"⟩, 13) := ⟨⟨by decide +kernel, by decide +kernel⟩, List.mem_of_getElem? (i := 23) (by decide +kernel), List.mem_of_getElem? (i := 381) (by decide +kernel), List.mem_of_getElem? (i := 382) (by decide +kernel)⟩
theorem lw_p10 : lw_okq (⟨"CallStages$ThreeStages", "followChain", "(III)I"⟩, 13) := ⟨⟨by decide +kernel, by decide +kernel⟩, List.mem_of_getElem? (i := 23) (by decide +kernel), List.mem_of_getElem? (i := 397) (by decide +kernel), List.mem_of_getElem? (i := 398) (by decide +kernel)⟩
theorem lw_p11 : lw_okq (⟨"CallStages$ThreeStages", "goByBest", "(I)V"⟩, 13) := ⟨⟨by decide +kernel, by decide +kernel⟩, List.mem_of_getElem? (i := 23) (by decide +kernel), List.mem_of_getElem? (i := 401) (by decide +kernel), List.mem_of_getElem? (i := 402) (by decide +kernel)⟩
theorem lw_p12 : lw_okq (⟨"CallStages$ThreeStages", "moveChain", "(III)V"⟩, 13) := ⟨⟨by decide +kernel, by decide +kernel⟩, List.mem_of_getElem? (i := 23) (by decide +kernel), List.mem_of_getElem? (i := 405) (by decide +kernel), List.mem_of_getElem? (i := 406) (by decide +kernel)⟩
theorem lw_p13 : lw_okq (⟨"CallStages$ThreeStages", "freeLinks", "(I)V"⟩, 13) := ⟨⟨by decide +kernel, by decide +kernel⟩, List.mem_of_getElem? (i := 23) (by decide +kernel), List.mem_of_getElem? (i := 409) (by decide +kernel), List.mem_of_getElem? (i := 410) (by decide +kernel)⟩
theorem lw_p14 : lw_okq (⟨"CallStages$ThreeStages", "mendAgain", "(I)Z"⟩, 13) := ⟨⟨by decide +kernel, by decide +kernel⟩, List.mem_of_getElem? (i := 23) (by decide +kernel), List.mem_of_getElem? (i := 438) (by decide +kernel), List.mem_of_getElem? (i := 439) (by decide +kernel)⟩
theorem lw_p15 : lw_okq (⟨"CallStages$ThreeStages", "goBackToEarlier", "()V"⟩, 13) := ⟨⟨by decide +kernel, by decide +kernel⟩, List.mem_of_getElem? (i := 23) (by decide +kernel), List.mem_of_getElem? (i := 442) (by decide +kernel), List.mem_of_getElem? (i := 443) (by decide +kernel)⟩
def lw_privs_1 : List (MethodName × Nat) := [(⟨"CallStages$ThreeStages", "forgetCalls", "()V"⟩, 13), (⟨"CallStages$ThreeStages", "freeAllLinks", "()V"⟩, 13), (⟨"CallStages$Comparers", "leadAllRows", "()V"⟩, 10), (⟨"CallStages$Comparers", "layAllRows", "()V"⟩, 10), (⟨"CallStages$Comparers", "words", "()I"⟩, 10), (⟨"CallStages$Comparers", "changesRows", "([J[J)Z"⟩, 10), (⟨"CallStages$Queues", "matchNone", "()V"⟩, 8), (⟨"CallStages$ThreeStages", "switchOf", "(I)I"⟩, 13), (⟨"CallStages$ThreeStages", "join", "(II)V"⟩, 13), (⟨"CallStages$ThreeStages", "goBy", "(II)V"⟩, 13), (⟨"CallStages$ThreeStages", "followChain", "(III)I"⟩, 13), (⟨"CallStages$ThreeStages", "goByBest", "(I)V"⟩, 13), (⟨"CallStages$ThreeStages", "moveChain", "(III)V"⟩, 13), (⟨"CallStages$ThreeStages", "freeLinks", "(I)V"⟩, 13), (⟨"CallStages$ThreeStages", "mendAgain", "(I)Z"⟩, 13), (⟨"CallStages$ThreeStages", "goBackToEarlier", "()V"⟩, 13)]
theorem lw_r1 : ∀ q ∈ lw_privs_1, lw_okq q := List.forall_mem_cons.mpr ⟨lw_p0, List.forall_mem_cons.mpr ⟨lw_p1, List.forall_mem_cons.mpr ⟨lw_p2, List.forall_mem_cons.mpr ⟨lw_p3, List.forall_mem_cons.mpr ⟨lw_p4, List.forall_mem_cons.mpr ⟨lw_p5, List.forall_mem_cons.mpr ⟨lw_p6, List.forall_mem_cons.mpr ⟨lw_p7, List.forall_mem_cons.mpr ⟨lw_p8, List.forall_mem_cons.mpr ⟨lw_p9, List.forall_mem_cons.mpr ⟨lw_p10, List.forall_mem_cons.mpr ⟨lw_p11, List.forall_mem_cons.mpr ⟨lw_p12, List.forall_mem_cons.mpr ⟨lw_p13, List.forall_mem_cons.mpr ⟨lw_p14, List.forall_mem_cons.mpr ⟨lw_p15, fun _ h => absurd h List.not_mem_nil⟩⟩⟩⟩⟩⟩⟩⟩⟩⟩⟩⟩⟩⟩⟩⟩
theorem lw_p16 : lw_okq (⟨"CallStages", "faulted", "(I)I"⟩, 9) := ⟨⟨by decide +kernel, by decide +kernel⟩, List.mem_of_getElem? (i := 15) (by decide +kernel), List.mem_of_getElem? (i := 467) (by decide +kernel), List.mem_of_getElem? (i := 468) (by decide +kernel)⟩
theorem lw_p17 : lw_okq (⟨"CallStages$CrossedNet", "settingsOf", "(II)J"⟩, 3) := ⟨⟨by decide +kernel, by decide +kernel⟩, List.mem_of_getElem? (i := 89) (by decide +kernel), List.mem_of_getElem? (i := 499) (by decide +kernel), List.mem_of_getElem? (i := 500) (by decide +kernel)⟩
theorem lw_p18 : lw_okq (⟨"CallStages$CrossedNet", "splitBy", "(III)I"⟩, 3) := ⟨⟨by decide +kernel, by decide +kernel⟩, List.mem_of_getElem? (i := 89) (by decide +kernel), List.mem_of_getElem? (i := 503) (by decide +kernel), List.mem_of_getElem? (i := 504) (by decide +kernel)⟩
theorem lw_p19 : lw_okq (⟨"CallStages$CrossedNet", "leastOf", "(II)J"⟩, 3) := ⟨⟨by decide +kernel, by decide +kernel⟩, List.mem_of_getElem? (i := 89) (by decide +kernel), List.mem_of_getElem? (i := 518) (by decide +kernel), List.mem_of_getElem? (i := 519) (by decide +kernel)⟩
theorem lw_p20 : lw_okq (⟨"CallStages$HalfNet", "shuffled", "(I)I"⟩, 4) := ⟨⟨by decide +kernel, by decide +kernel⟩, List.mem_of_getElem? (i := 110) (by decide +kernel), List.mem_of_getElem? (i := 545) (by decide +kernel), List.mem_of_getElem? (i := 546) (by decide +kernel)⟩
theorem lw_p21 : lw_okq (⟨"CallStages$HalfNet", "findClashes", "()V"⟩, 4) := ⟨⟨by decide +kernel, by decide +kernel⟩, List.mem_of_getElem? (i := 110) (by decide +kernel), List.mem_of_getElem? (i := 567) (by decide +kernel), List.mem_of_getElem? (i := 568) (by decide +kernel)⟩
theorem lw_p22 : lw_okq (⟨"CallStages$HalfNet", "canPart", "(III)Z"⟩, 4) := ⟨⟨by decide +kernel, by decide +kernel⟩, List.mem_of_getElem? (i := 110) (by decide +kernel), List.mem_of_getElem? (i := 573) (by decide +kernel), List.mem_of_getElem? (i := 574) (by decide +kernel)⟩
theorem lw_p23 : lw_okq (⟨"CallStages$Comparers", "unsortedIn", "(I)J"⟩, 10) := ⟨⟨by decide +kernel, by decide +kernel⟩, List.mem_of_getElem? (i := 130) (by decide +kernel), List.mem_of_getElem? (i := 614) (by decide +kernel), List.mem_of_getElem? (i := 615) (by decide +kernel)⟩
theorem lw_p24 : lw_okq (⟨"CallStages", "isPort", "(I)Z"⟩, 9) := ⟨⟨by decide +kernel, by decide +kernel⟩, List.mem_of_getElem? (i := 15) (by decide +kernel), List.mem_of_getElem? (i := 679) (by decide +kernel), List.mem_of_getElem? (i := 680) (by decide +kernel)⟩
theorem lw_p25 : lw_okq (⟨"CallStages$Parting", "addUp", "([[I)V"⟩, 11) := ⟨⟨by decide +kernel, by decide +kernel⟩, List.mem_of_getElem? (i := 202) (by decide +kernel), List.mem_of_getElem? (i := 695) (by decide +kernel), List.mem_of_getElem? (i := 696) (by decide +kernel)⟩
theorem lw_p26 : lw_okq (⟨"CallStages$Parting", "partIfStale", "()V"⟩, 11) := ⟨⟨by decide +kernel, by decide +kernel⟩, List.mem_of_getElem? (i := 202) (by decide +kernel), List.mem_of_getElem? (i := 708) (by decide +kernel), List.mem_of_getElem? (i := 709) (by decide +kernel)⟩
theorem lw_p27 : lw_okq (⟨"CallStages$Parting", "chooseRow", "([I)V"⟩, 11) := ⟨⟨by decide +kernel, by decide +kernel⟩, List.mem_of_getElem? (i := 202) (by decide +kernel), List.mem_of_getElem? (i := 713) (by decide +kernel), List.mem_of_getElem? (i := 714) (by decide +kernel)⟩
theorem lw_p28 : lw_okq (⟨"CallStages$Parting", "findWhatGoesOn", "()V"⟩, 11) := ⟨⟨by decide +kernel, by decide +kernel⟩, List.mem_of_getElem? (i := 202) (by decide +kernel), List.mem_of_getElem? (i := 717) (by decide +kernel), List.mem_of_getElem? (i := 718) (by decide +kernel)⟩
theorem lw_p29 : lw_okq (⟨"CallStages$Parting", "canGiveAny", "(II)Z"⟩, 11) := ⟨⟨by decide +kernel, by decide +kernel⟩, List.mem_of_getElem? (i := 202) (by decide +kernel), List.mem_of_getElem? (i := 721) (by decide +kernel), List.mem_of_getElem? (i := 722) (by decide +kernel)⟩
theorem lw_p30 : lw_okq (⟨"CallStages$Parting", "canGive", "(III)Z"⟩, 11) := ⟨⟨by decide +kernel, by decide +kernel⟩, List.mem_of_getElem? (i := 202) (by decide +kernel), List.mem_of_getElem? (i := 725) (by decide +kernel), List.mem_of_getElem? (i := 726) (by decide +kernel)⟩
theorem lw_p31 : lw_okq (⟨"CallStages$Parting", "roundsOf", "([I)I"⟩, 11) := ⟨⟨by decide +kernel, by decide +kernel⟩, List.mem_of_getElem? (i := 202) (by decide +kernel), List.mem_of_getElem? (i := 729) (by decide +kernel), List.mem_of_getElem? (i := 730) (by decide +kernel)⟩
def lw_privs_2 : List (MethodName × Nat) := [(⟨"CallStages", "faulted", "(I)I"⟩, 9), (⟨"CallStages$CrossedNet", "settingsOf", "(II)J"⟩, 3), (⟨"CallStages$CrossedNet", "splitBy", "(III)I"⟩, 3), (⟨"CallStages$CrossedNet", "leastOf", "(II)J"⟩, 3), (⟨"CallStages$HalfNet", "shuffled", "(I)I"⟩, 4), (⟨"CallStages$HalfNet", "findClashes", "()V"⟩, 4), (⟨"CallStages$HalfNet", "canPart", "(III)Z"⟩, 4), (⟨"CallStages$Comparers", "unsortedIn", "(I)J"⟩, 10), (⟨"CallStages", "isPort", "(I)Z"⟩, 9), (⟨"CallStages$Parting", "addUp", "([[I)V"⟩, 11), (⟨"CallStages$Parting", "partIfStale", "()V"⟩, 11), (⟨"CallStages$Parting", "chooseRow", "([I)V"⟩, 11), (⟨"CallStages$Parting", "findWhatGoesOn", "()V"⟩, 11), (⟨"CallStages$Parting", "canGiveAny", "(II)Z"⟩, 11), (⟨"CallStages$Parting", "canGive", "(III)Z"⟩, 11), (⟨"CallStages$Parting", "roundsOf", "([I)I"⟩, 11)]
theorem lw_r2 : ∀ q ∈ lw_privs_2, lw_okq q := List.forall_mem_cons.mpr ⟨lw_p16, List.forall_mem_cons.mpr ⟨lw_p17, List.forall_mem_cons.mpr ⟨lw_p18, List.forall_mem_cons.mpr ⟨lw_p19, List.forall_mem_cons.mpr ⟨lw_p20, List.forall_mem_cons.mpr ⟨lw_p21, List.forall_mem_cons.mpr ⟨lw_p22, List.forall_mem_cons.mpr ⟨lw_p23, List.forall_mem_cons.mpr ⟨lw_p24, List.forall_mem_cons.mpr ⟨lw_p25, List.forall_mem_cons.mpr ⟨lw_p26, List.forall_mem_cons.mpr ⟨lw_p27, List.forall_mem_cons.mpr ⟨lw_p28, List.forall_mem_cons.mpr ⟨lw_p29, List.forall_mem_cons.mpr ⟨lw_p30, List.forall_mem_cons.mpr ⟨lw_p31, fun _ h => absurd h List.not_mem_nil⟩⟩⟩⟩⟩⟩⟩⟩⟩⟩⟩⟩⟩⟩⟩⟩
theorem lw_p32 : lw_okq (⟨"CallStages$Parting", "takeOff", "([II)V"⟩, 11) := ⟨⟨by decide +kernel, by decide +kernel⟩, List.mem_of_getElem? (i := 202) (by decide +kernel), List.mem_of_getElem? (i := 734) (by decide +kernel), List.mem_of_getElem? (i := 735) (by decide +kernel)⟩
theorem lw_p33 : lw_okq (⟨"CallStages$Queues", "matchBySum", "()V"⟩, 8) := ⟨⟨by decide +kernel, by decide +kernel⟩, List.mem_of_getElem? (i := 243) (by decide +kernel), List.mem_of_getElem? (i := 759) (by decide +kernel), List.mem_of_getElem? (i := 760) (by decide +kernel)⟩
theorem lw_p34 : lw_okq (⟨"CallStages$Queues", "findBestSums", "()V"⟩, 8) := ⟨⟨by decide +kernel, by decide +kernel⟩, List.mem_of_getElem? (i := 243) (by decide +kernel), List.mem_of_getElem? (i := 763) (by decide +kernel), List.mem_of_getElem? (i := 764) (by decide +kernel)⟩
theorem lw_p35 : lw_okq (⟨"CallStages$Queues", "sumWith", "(III)I"⟩, 8) := ⟨⟨by decide +kernel, by decide +kernel⟩, List.mem_of_getElem? (i := 243) (by decide +kernel), List.mem_of_getElem? (i := 767) (by decide +kernel), List.mem_of_getElem? (i := 768) (by decide +kernel)⟩
theorem lw_p36 : lw_okq (⟨"CallStages$Queues", "canMatch", "(II)Z"⟩, 8) := ⟨⟨by decide +kernel, by decide +kernel⟩, List.mem_of_getElem? (i := 243) (by decide +kernel), List.mem_of_getElem? (i := 772) (by decide +kernel), List.mem_of_getElem? (i := 773) (by decide +kernel)⟩
theorem lw_p37 : lw_okq (⟨"CallStages$Queues", "match", "(II)V"⟩, 8) := ⟨⟨by decide +kernel, by decide +kernel⟩, List.mem_of_getElem? (i := 243) (by decide +kernel), List.mem_of_getElem? (i := 776) (by decide +kernel), List.mem_of_getElem? (i := 777) (by decide +kernel)⟩
theorem lw_p38 : lw_okq (⟨"CallStages$Queues", "matchByTurns", "()V"⟩, 8) := ⟨⟨by decide +kernel, by decide +kernel⟩, List.mem_of_getElem? (i := 243) (by decide +kernel), List.mem_of_getElem? (i := 780) (by decide +kernel), List.mem_of_getElem? (i := 781) (by decide +kernel)⟩
theorem lw_p39 : lw_okq (⟨"CallStages$Queues", "firstThatAsks", "(I)I"⟩, 8) := ⟨⟨by decide +kernel, by decide +kernel⟩, List.mem_of_getElem? (i := 243) (by decide +kernel), List.mem_of_getElem? (i := 784) (by decide +kernel), List.mem_of_getElem? (i := 785) (by decide +kernel)⟩
theorem lw_p40 : lw_okq (⟨"CallStages$Queues", "aroundPorts", "(I)I"⟩, 8) := ⟨⟨by decide +kernel, by decide +kernel⟩, List.mem_of_getElem? (i := 243) (by decide +kernel), List.mem_of_getElem? (i := 788) (by decide +kernel), List.mem_of_getElem? (i := 789) (by decide +kernel)⟩
theorem lw_p41 : lw_okq (⟨"CallStages$Queues", "firstThatTook", "(I)I"⟩, 8) := ⟨⟨by decide +kernel, by decide +kernel⟩, List.mem_of_getElem? (i := 243) (by decide +kernel), List.mem_of_getElem? (i := 792) (by decide +kernel), List.mem_of_getElem? (i := 793) (by decide +kernel)⟩
theorem lw_p42 : lw_okq (⟨"CallStages$Queues", "matchCrosswise", "()V"⟩, 8) := ⟨⟨by decide +kernel, by decide +kernel⟩, List.mem_of_getElem? (i := 243) (by decide +kernel), List.mem_of_getElem? (i := 796) (by decide +kernel), List.mem_of_getElem? (i := 797) (by decide +kernel)⟩
theorem lw_p43 : lw_okq (⟨"CallStages$Comparers", "toldTurned", "(I)I"⟩, 10) := ⟨⟨by decide +kernel, by decide +kernel⟩, List.mem_of_getElem? (i := 130) (by decide +kernel), List.mem_of_getElem? (i := 859) (by decide +kernel), List.mem_of_getElem? (i := 860) (by decide +kernel)⟩
theorem lw_p44 : lw_okq (⟨"CallStages$Comparers", "leaveTrace", "(I)V"⟩, 10) := ⟨⟨by decide +kernel, by decide +kernel⟩, List.mem_of_getElem? (i := 130) (by decide +kernel), List.mem_of_getElem? (i := 863) (by decide +kernel), List.mem_of_getElem? (i := 864) (by decide +kernel)⟩
theorem lw_p45 : lw_okq (⟨"CallStages$Comparers", "toldLong", "(I)I"⟩, 10) := ⟨⟨by decide +kernel, by decide +kernel⟩, List.mem_of_getElem? (i := 130) (by decide +kernel), List.mem_of_getElem? (i := 867) (by decide +kernel), List.mem_of_getElem? (i := 868) (by decide +kernel)⟩
theorem lw_p46 : lw_okq (⟨"CallStages$Comparers", "toldPlain", "(I)I"⟩, 10) := ⟨⟨by decide +kernel, by decide +kernel⟩, List.mem_of_getElem? (i := 130) (by decide +kernel), List.mem_of_getElem? (i := 871) (by decide +kernel), List.mem_of_getElem? (i := 872) (by decide +kernel)⟩
theorem lw_p47 : lw_okq (⟨"CallStagesModel", "lines", "()I"⟩, 41) := ⟨⟨by decide +kernel, by decide +kernel⟩, List.mem_of_getElem? (i := 899) (by decide +kernel), List.mem_of_getElem? (i := 1036) (by decide +kernel), List.mem_of_getElem? (i := 1037) (by decide +kernel)⟩
def lw_privs_3 : List (MethodName × Nat) := [(⟨"CallStages$Parting", "takeOff", "([II)V"⟩, 11), (⟨"CallStages$Queues", "matchBySum", "()V"⟩, 8), (⟨"CallStages$Queues", "findBestSums", "()V"⟩, 8), (⟨"CallStages$Queues", "sumWith", "(III)I"⟩, 8), (⟨"CallStages$Queues", "canMatch", "(II)Z"⟩, 8), (⟨"CallStages$Queues", "match", "(II)V"⟩, 8), (⟨"CallStages$Queues", "matchByTurns", "()V"⟩, 8), (⟨"CallStages$Queues", "firstThatAsks", "(I)I"⟩, 8), (⟨"CallStages$Queues", "aroundPorts", "(I)I"⟩, 8), (⟨"CallStages$Queues", "firstThatTook", "(I)I"⟩, 8), (⟨"CallStages$Queues", "matchCrosswise", "()V"⟩, 8), (⟨"CallStages$Comparers", "toldTurned", "(I)I"⟩, 10), (⟨"CallStages$Comparers", "leaveTrace", "(I)V"⟩, 10), (⟨"CallStages$Comparers", "toldLong", "(I)I"⟩, 10), (⟨"CallStages$Comparers", "toldPlain", "(I)I"⟩, 10), (⟨"CallStagesModel", "lines", "()I"⟩, 41)]
theorem lw_r3 : ∀ q ∈ lw_privs_3, lw_okq q := List.forall_mem_cons.mpr ⟨lw_p32, List.forall_mem_cons.mpr ⟨lw_p33, List.forall_mem_cons.mpr ⟨lw_p34, List.forall_mem_cons.mpr ⟨lw_p35, List.forall_mem_cons.mpr ⟨lw_p36, List.forall_mem_cons.mpr ⟨lw_p37, List.forall_mem_cons.mpr ⟨lw_p38, List.forall_mem_cons.mpr ⟨lw_p39, List.forall_mem_cons.mpr ⟨lw_p40, List.forall_mem_cons.mpr ⟨lw_p41, List.forall_mem_cons.mpr ⟨lw_p42, List.forall_mem_cons.mpr ⟨lw_p43, List.forall_mem_cons.mpr ⟨lw_p44, List.forall_mem_cons.mpr ⟨lw_p45, List.forall_mem_cons.mpr ⟨lw_p46, List.forall_mem_cons.mpr ⟨lw_p47, fun _ h => absurd h List.not_mem_nil⟩⟩⟩⟩⟩⟩⟩⟩⟩⟩⟩⟩⟩⟩⟩⟩
theorem lw_p48 : lw_okq (⟨"CallStagesModel", "calls", "()I"⟩, 41) := ⟨⟨by decide +kernel, by decide +kernel⟩, List.mem_of_getElem? (i := 899) (by decide +kernel), List.mem_of_getElem? (i := 1044) (by decide +kernel), List.mem_of_getElem? (i := 1045) (by decide +kernel)⟩
theorem lw_p49 : lw_okq (⟨"CallStagesModel", "isLine", "(I)Z"⟩, 41) := ⟨⟨by decide +kernel, by decide +kernel⟩, List.mem_of_getElem? (i := 899) (by decide +kernel), List.mem_of_getElem? (i := 1052) (by decide +kernel), List.mem_of_getElem? (i := 1053) (by decide +kernel)⟩
theorem lw_p50 : lw_okq (⟨"CallStagesModel", "isTaken", "(II)Z"⟩, 41) := ⟨⟨by decide +kernel, by decide +kernel⟩, List.mem_of_getElem? (i := 899) (by decide +kernel), List.mem_of_getElem? (i := 1056) (by decide +kernel), List.mem_of_getElem? (i := 1057) (by decide +kernel)⟩
theorem lw_p51 : lw_okq (⟨"CallStagesModel", "atLeft", "(II)I"⟩, 41) := ⟨⟨by decide +kernel, by decide +kernel⟩, List.mem_of_getElem? (i := 899) (by decide +kernel), List.mem_of_getElem? (i := 1060) (by decide +kernel), List.mem_of_getElem? (i := 1061) (by decide +kernel)⟩
theorem lw_p52 : lw_okq (⟨"CallStagesModel", "atRight", "(II)I"⟩, 41) := ⟨⟨by decide +kernel, by decide +kernel⟩, List.mem_of_getElem? (i := 899) (by decide +kernel), List.mem_of_getElem? (i := 1064) (by decide +kernel), List.mem_of_getElem? (i := 1065) (by decide +kernel)⟩
theorem lw_p53 : lw_okq (⟨"CallStagesModel", "setUp", "(III)I"⟩, 41) := ⟨⟨by decide +kernel, by decide +kernel⟩, List.mem_of_getElem? (i := 899) (by decide +kernel), List.mem_of_getElem? (i := 1068) (by decide +kernel), List.mem_of_getElem? (i := 1069) (by decide +kernel)⟩
theorem lw_p54 : lw_okq (⟨"CallStagesModel", "mendOne", "(II)I"⟩, 41) := ⟨⟨by decide +kernel, by decide +kernel⟩, List.mem_of_getElem? (i := 899) (by decide +kernel), List.mem_of_getElem? (i := 1076) (by decide +kernel), List.mem_of_getElem? (i := 1077) (by decide +kernel)⟩
theorem lw_p55 : lw_okq (⟨"CallStagesModel", "fewest", "(II)I"⟩, 41) := ⟨⟨by decide +kernel, by decide +kernel⟩, List.mem_of_getElem? (i := 899) (by decide +kernel), List.mem_of_getElem? (i := 1080) (by decide +kernel), List.mem_of_getElem? (i := 1081) (by decide +kernel)⟩
theorem lw_p56 : lw_okq (⟨"CallStagesModel", "chainOf", "(III)I"⟩, 41) := ⟨⟨by decide +kernel, by decide +kernel⟩, List.mem_of_getElem? (i := 899) (by decide +kernel), List.mem_of_getElem? (i := 1084) (by decide +kernel), List.mem_of_getElem? (i := 1085) (by decide +kernel)⟩
theorem lw_p57 : lw_okq (⟨"CallStagesModel", "find", "()V"⟩, 41) := ⟨⟨by decide +kernel, by decide +kernel⟩, List.mem_of_getElem? (i := 899) (by decide +kernel), List.mem_of_getElem? (i := 1112) (by decide +kernel), List.mem_of_getElem? (i := 1113) (by decide +kernel)⟩
theorem lw_p58 : lw_okq (⟨"CallStagesModel", "findFour", "([II)V"⟩, 41) := ⟨⟨by decide +kernel, by decide +kernel⟩, List.mem_of_getElem? (i := 899) (by decide +kernel), List.mem_of_getElem? (i := 1119) (by decide +kernel), List.mem_of_getElem? (i := 1120) (by decide +kernel)⟩
theorem lw_p59 : lw_okq (⟨"CallStagesModel", "halve", "([IIII[II)Z"⟩, 41) := ⟨⟨by decide +kernel, by decide +kernel⟩, List.mem_of_getElem? (i := 899) (by decide +kernel), List.mem_of_getElem? (i := 1124) (by decide +kernel), List.mem_of_getElem? (i := 1125) (by decide +kernel)⟩
theorem lw_p60 : lw_okq (⟨"CallStagesModel", "findEight", "()V"⟩, 41) := ⟨⟨by decide +kernel, by decide +kernel⟩, List.mem_of_getElem? (i := 899) (by decide +kernel), List.mem_of_getElem? (i := 1128) (by decide +kernel), List.mem_of_getElem? (i := 1129) (by decide +kernel)⟩
theorem lw_p61 : lw_okq (⟨"CallStagesModel", "against", "(IIII)I"⟩, 41) := ⟨⟨by decide +kernel, by decide +kernel⟩, List.mem_of_getElem? (i := 899) (by decide +kernel), List.mem_of_getElem? (i := 1146) (by decide +kernel), List.mem_of_getElem? (i := 1147) (by decide +kernel)⟩
theorem lw_p62 : lw_okq (⟨"CallStagesModel", "fails", "(I)I"⟩, 41) := ⟨⟨by decide +kernel, by decide +kernel⟩, List.mem_of_getElem? (i := 899) (by decide +kernel), List.mem_of_getElem? (i := 1150) (by decide +kernel), List.mem_of_getElem? (i := 1151) (by decide +kernel)⟩
theorem lw_p63 : lw_okq (⟨"CallStagesModel", "isEnd", "(I)Z"⟩, 41) := ⟨⟨by decide +kernel, by decide +kernel⟩, List.mem_of_getElem? (i := 899) (by decide +kernel), List.mem_of_getElem? (i := 1158) (by decide +kernel), List.mem_of_getElem? (i := 1159) (by decide +kernel)⟩
def lw_privs_4 : List (MethodName × Nat) := [(⟨"CallStagesModel", "calls", "()I"⟩, 41), (⟨"CallStagesModel", "isLine", "(I)Z"⟩, 41), (⟨"CallStagesModel", "isTaken", "(II)Z"⟩, 41), (⟨"CallStagesModel", "atLeft", "(II)I"⟩, 41), (⟨"CallStagesModel", "atRight", "(II)I"⟩, 41), (⟨"CallStagesModel", "setUp", "(III)I"⟩, 41), (⟨"CallStagesModel", "mendOne", "(II)I"⟩, 41), (⟨"CallStagesModel", "fewest", "(II)I"⟩, 41), (⟨"CallStagesModel", "chainOf", "(III)I"⟩, 41), (⟨"CallStagesModel", "find", "()V"⟩, 41), (⟨"CallStagesModel", "findFour", "([II)V"⟩, 41), (⟨"CallStagesModel", "halve", "([IIII[II)Z"⟩, 41), (⟨"CallStagesModel", "findEight", "()V"⟩, 41), (⟨"CallStagesModel", "against", "(IIII)I"⟩, 41), (⟨"CallStagesModel", "fails", "(I)I"⟩, 41), (⟨"CallStagesModel", "isEnd", "(I)Z"⟩, 41)]
theorem lw_r4 : ∀ q ∈ lw_privs_4, lw_okq q := List.forall_mem_cons.mpr ⟨lw_p48, List.forall_mem_cons.mpr ⟨lw_p49, List.forall_mem_cons.mpr ⟨lw_p50, List.forall_mem_cons.mpr ⟨lw_p51, List.forall_mem_cons.mpr ⟨lw_p52, List.forall_mem_cons.mpr ⟨lw_p53, List.forall_mem_cons.mpr ⟨lw_p54, List.forall_mem_cons.mpr ⟨lw_p55, List.forall_mem_cons.mpr ⟨lw_p56, List.forall_mem_cons.mpr ⟨lw_p57, List.forall_mem_cons.mpr ⟨lw_p58, List.forall_mem_cons.mpr ⟨lw_p59, List.forall_mem_cons.mpr ⟨lw_p60, List.forall_mem_cons.mpr ⟨lw_p61, List.forall_mem_cons.mpr ⟨lw_p62, List.forall_mem_cons.mpr ⟨lw_p63, fun _ h => absurd h List.not_mem_nil⟩⟩⟩⟩⟩⟩⟩⟩⟩⟩⟩⟩⟩⟩⟩⟩
theorem lw_p64 : lw_okq (⟨"CallStagesModel", "wide", "()I"⟩, 41) := ⟨⟨by decide +kernel, by decide +kernel⟩, List.mem_of_getElem? (i := 899) (by decide +kernel), List.mem_of_getElem? (i := 1162) (by decide +kernel), List.mem_of_getElem? (i := 1163) (by decide +kernel)⟩
theorem lw_p65 : lw_okq (⟨"CallStagesModel", "lineOf", "(II)I"⟩, 41) := ⟨⟨by decide +kernel, by decide +kernel⟩, List.mem_of_getElem? (i := 899) (by decide +kernel), List.mem_of_getElem? (i := 1183) (by decide +kernel), List.mem_of_getElem? (i := 1184) (by decide +kernel)⟩
theorem lw_p66 : lw_okq (⟨"CallStagesModel", "clashOf", "(II)I"⟩, 41) := ⟨⟨by decide +kernel, by decide +kernel⟩, List.mem_of_getElem? (i := 899) (by decide +kernel), List.mem_of_getElem? (i := 1191) (by decide +kernel), List.mem_of_getElem? (i := 1192) (by decide +kernel)⟩
theorem lw_p67 : lw_okq (⟨"CallStagesModel", "findRounds", "()I"⟩, 41) := ⟨⟨by decide +kernel, by decide +kernel⟩, List.mem_of_getElem? (i := 899) (by decide +kernel), List.mem_of_getElem? (i := 1199) (by decide +kernel), List.mem_of_getElem? (i := 1200) (by decide +kernel)⟩
theorem lw_p68 : lw_okq (⟨"CallStagesModel", "areEnough", "(I)Z"⟩, 41) := ⟨⟨by decide +kernel, by decide +kernel⟩, List.mem_of_getElem? (i := 899) (by decide +kernel), List.mem_of_getElem? (i := 1203) (by decide +kernel), List.mem_of_getElem? (i := 1204) (by decide +kernel)⟩
theorem lw_p69 : lw_okq (⟨"CallStagesModel", "setsAhead", "(I)I"⟩, 41) := ⟨⟨by decide +kernel, by decide +kernel⟩, List.mem_of_getElem? (i := 899) (by decide +kernel), List.mem_of_getElem? (i := 1207) (by decide +kernel), List.mem_of_getElem? (i := 1208) (by decide +kernel)⟩
theorem lw_p70 : lw_okq (⟨"CallStagesModel", "mayBe", "(I)Z"⟩, 41) := ⟨⟨by decide +kernel, by decide +kernel⟩, List.mem_of_getElem? (i := 899) (by decide +kernel), List.mem_of_getElem? (i := 1211) (by decide +kernel), List.mem_of_getElem? (i := 1212) (by decide +kernel)⟩
theorem lw_p71 : lw_okq (⟨"CallStagesModel", "isWire", "(I)Z"⟩, 41) := ⟨⟨by decide +kernel, by decide +kernel⟩, List.mem_of_getElem? (i := 899) (by decide +kernel), List.mem_of_getElem? (i := 1227) (by decide +kernel), List.mem_of_getElem? (i := 1228) (by decide +kernel)⟩
theorem lw_p72 : lw_okq (⟨"CallStagesModel", "step", "(I)I"⟩, 41) := ⟨⟨by decide +kernel, by decide +kernel⟩, List.mem_of_getElem? (i := 899) (by decide +kernel), List.mem_of_getElem? (i := 1239) (by decide +kernel), List.mem_of_getElem? (i := 1240) (by decide +kernel)⟩
theorem lw_p73 : lw_okq (⟨"CallStagesModel", "isIdle", "(I)Z"⟩, 41) := ⟨⟨by decide +kernel, by decide +kernel⟩, List.mem_of_getElem? (i := 899) (by decide +kernel), List.mem_of_getElem? (i := 1243) (by decide +kernel), List.mem_of_getElem? (i := 1244) (by decide +kernel)⟩
theorem lw_p74 : lw_okq (⟨"CallStagesModel", "through", "(II)I"⟩, 41) := ⟨⟨by decide +kernel, by decide +kernel⟩, List.mem_of_getElem? (i := 899) (by decide +kernel), List.mem_of_getElem? (i := 1247) (by decide +kernel), List.mem_of_getElem? (i := 1248) (by decide +kernel)⟩
theorem lw_p75 : lw_okq (⟨"CallStagesModel", "isInOrder", "(I)Z"⟩, 41) := ⟨⟨by decide +kernel, by decide +kernel⟩, List.mem_of_getElem? (i := 899) (by decide +kernel), List.mem_of_getElem? (i := 1251) (by decide +kernel), List.mem_of_getElem? (i := 1252) (by decide +kernel)⟩
theorem lw_p76 : lw_okq (⟨"CallStagesModel", "isComparer", "(I)Z"⟩, 41) := ⟨⟨by decide +kernel, by decide +kernel⟩, List.mem_of_getElem? (i := 899) (by decide +kernel), List.mem_of_getElem? (i := 1259) (by decide +kernel), List.mem_of_getElem? (i := 1260) (by decide +kernel)⟩
theorem lw_p77 : lw_okq (⟨"CallStagesModel", "kindOf", "(I)I"⟩, 41) := ⟨⟨by decide +kernel, by decide +kernel⟩, List.mem_of_getElem? (i := 899) (by decide +kernel), List.mem_of_getElem? (i := 1263) (by decide +kernel), List.mem_of_getElem? (i := 1264) (by decide +kernel)⟩
theorem lw_p78 : lw_okq (⟨"CallStagesModel", "isPort", "(I)Z"⟩, 41) := ⟨⟨by decide +kernel, by decide +kernel⟩, List.mem_of_getElem? (i := 899) (by decide +kernel), List.mem_of_getElem? (i := 1279) (by decide +kernel), List.mem_of_getElem? (i := 1280) (by decide +kernel)⟩
theorem lw_p79 : lw_okq (⟨"CallStagesModel", "layLeft", "()V"⟩, 41) := ⟨⟨by decide +kernel, by decide +kernel⟩, List.mem_of_getElem? (i := 899) (by decide +kernel), List.mem_of_getElem? (i := 1287) (by decide +kernel), List.mem_of_getElem? (i := 1288) (by decide +kernel)⟩
def lw_privs_5 : List (MethodName × Nat) := [(⟨"CallStagesModel", "wide", "()I"⟩, 41), (⟨"CallStagesModel", "lineOf", "(II)I"⟩, 41), (⟨"CallStagesModel", "clashOf", "(II)I"⟩, 41), (⟨"CallStagesModel", "findRounds", "()I"⟩, 41), (⟨"CallStagesModel", "areEnough", "(I)Z"⟩, 41), (⟨"CallStagesModel", "setsAhead", "(I)I"⟩, 41), (⟨"CallStagesModel", "mayBe", "(I)Z"⟩, 41), (⟨"CallStagesModel", "isWire", "(I)Z"⟩, 41), (⟨"CallStagesModel", "step", "(I)I"⟩, 41), (⟨"CallStagesModel", "isIdle", "(I)Z"⟩, 41), (⟨"CallStagesModel", "through", "(II)I"⟩, 41), (⟨"CallStagesModel", "isInOrder", "(I)Z"⟩, 41), (⟨"CallStagesModel", "isComparer", "(I)Z"⟩, 41), (⟨"CallStagesModel", "kindOf", "(I)I"⟩, 41), (⟨"CallStagesModel", "isPort", "(I)Z"⟩, 41), (⟨"CallStagesModel", "layLeft", "()V"⟩, 41)]
theorem lw_r5 : ∀ q ∈ lw_privs_5, lw_okq q := List.forall_mem_cons.mpr ⟨lw_p64, List.forall_mem_cons.mpr ⟨lw_p65, List.forall_mem_cons.mpr ⟨lw_p66, List.forall_mem_cons.mpr ⟨lw_p67, List.forall_mem_cons.mpr ⟨lw_p68, List.forall_mem_cons.mpr ⟨lw_p69, List.forall_mem_cons.mpr ⟨lw_p70, List.forall_mem_cons.mpr ⟨lw_p71, List.forall_mem_cons.mpr ⟨lw_p72, List.forall_mem_cons.mpr ⟨lw_p73, List.forall_mem_cons.mpr ⟨lw_p74, List.forall_mem_cons.mpr ⟨lw_p75, List.forall_mem_cons.mpr ⟨lw_p76, List.forall_mem_cons.mpr ⟨lw_p77, List.forall_mem_cons.mpr ⟨lw_p78, List.forall_mem_cons.mpr ⟨lw_p79, fun _ h => absurd h List.not_mem_nil⟩⟩⟩⟩⟩⟩⟩⟩⟩⟩⟩⟩⟩⟩⟩⟩
theorem lw_p80 : lw_okq (⟨"CallStagesModel", "spanLeft", "()I"⟩, 41) := ⟨⟨by decide +kernel, by decide +kernel⟩, List.mem_of_getElem? (i := 899) (by decide +kernel), List.mem_of_getElem? (i := 1291) (by decide +kernel), List.mem_of_getElem? (i := 1292) (by decide +kernel)⟩
theorem lw_p81 : lw_okq (⟨"CallStagesModel", "sumOf", "(ZI)I"⟩, 41) := ⟨⟨by decide +kernel, by decide +kernel⟩, List.mem_of_getElem? (i := 899) (by decide +kernel), List.mem_of_getElem? (i := 1295) (by decide +kernel), List.mem_of_getElem? (i := 1296) (by decide +kernel)⟩
theorem lw_p82 : lw_okq (⟨"CallStagesModel", "takeRound", "()V"⟩, 41) := ⟨⟨by decide +kernel, by decide +kernel⟩, List.mem_of_getElem? (i := 899) (by decide +kernel), List.mem_of_getElem? (i := 1304) (by decide +kernel), List.mem_of_getElem? (i := 1305) (by decide +kernel)⟩
theorem lw_p83 : lw_okq (⟨"CallStagesModel", "begin", "()V"⟩, 41) := ⟨⟨by decide +kernel, by decide +kernel⟩, List.mem_of_getElem? (i := 899) (by decide +kernel), List.mem_of_getElem? (i := 1308) (by decide +kernel), List.mem_of_getElem? (i := 1309) (by decide +kernel)⟩
theorem lw_p84 : lw_okq (⟨"CallStagesModel", "goOn", "([I)Z"⟩, 41) := ⟨⟨by decide +kernel, by decide +kernel⟩, List.mem_of_getElem? (i := 899) (by decide +kernel), List.mem_of_getElem? (i := 1312) (by decide +kernel), List.mem_of_getElem? (i := 1313) (by decide +kernel)⟩
theorem lw_p85 : lw_okq (⟨"CallStagesModel", "isFree", "(I)Z"⟩, 41) := ⟨⟨by decide +kernel, by decide +kernel⟩, List.mem_of_getElem? (i := 899) (by decide +kernel), List.mem_of_getElem? (i := 1316) (by decide +kernel), List.mem_of_getElem? (i := 1317) (by decide +kernel)⟩
theorem lw_p86 : lw_okq (⟨"CallStagesModel", "isTight", "(I)Z"⟩, 41) := ⟨⟨by decide +kernel, by decide +kernel⟩, List.mem_of_getElem? (i := 899) (by decide +kernel), List.mem_of_getElem? (i := 1320) (by decide +kernel), List.mem_of_getElem? (i := 1321) (by decide +kernel)⟩
theorem lw_p87 : lw_okq (⟨"CallStagesModel", "matchGreatest", "()V"⟩, 41) := ⟨⟨by decide +kernel, by decide +kernel⟩, List.mem_of_getElem? (i := 899) (by decide +kernel), List.mem_of_getElem? (i := 1332) (by decide +kernel), List.mem_of_getElem? (i := 1333) (by decide +kernel)⟩
theorem lw_p88 : lw_okq (⟨"CallStagesModel", "matchByTurns", "()V"⟩, 41) := ⟨⟨by decide +kernel, by decide +kernel⟩, List.mem_of_getElem? (i := 899) (by decide +kernel), List.mem_of_getElem? (i := 1336) (by decide +kernel), List.mem_of_getElem? (i := 1337) (by decide +kernel)⟩
theorem lw_p89 : lw_okq (⟨"CallStagesModel", "isMatched", "(I)Z"⟩, 41) := ⟨⟨by decide +kernel, by decide +kernel⟩, List.mem_of_getElem? (i := 899) (by decide +kernel), List.mem_of_getElem? (i := 1340) (by decide +kernel), List.mem_of_getElem? (i := 1341) (by decide +kernel)⟩
theorem lw_p90 : lw_okq (⟨"CallStagesModel", "takenBy", "(I)I"⟩, 41) := ⟨⟨by decide +kernel, by decide +kernel⟩, List.mem_of_getElem? (i := 899) (by decide +kernel), List.mem_of_getElem? (i := 1344) (by decide +kernel), List.mem_of_getElem? (i := 1345) (by decide +kernel)⟩
theorem lw_p91 : lw_okq (⟨"CallStagesModel", "matchCrosswise", "()V"⟩, 41) := ⟨⟨by decide +kernel, by decide +kernel⟩, List.mem_of_getElem? (i := 899) (by decide +kernel), List.mem_of_getElem? (i := 1348) (by decide +kernel), List.mem_of_getElem? (i := 1349) (by decide +kernel)⟩
theorem lw_p92 : lw_okq (⟨"CallStagesModel", "fallsOut", "(I)J"⟩, 41) := ⟨⟨by decide +kernel, by decide +kernel⟩, List.mem_of_getElem? (i := 899) (by decide +kernel), List.mem_of_getElem? (i := 1381) (by decide +kernel), List.mem_of_getElem? (i := 1382) (by decide +kernel)⟩
theorem lw_p93 : lw_okq (⟨"CallStagesModel", "begins", "(I)V"⟩, 41) := ⟨⟨by decide +kernel, by decide +kernel⟩, List.mem_of_getElem? (i := 899) (by decide +kernel), List.mem_of_getElem? (i := 1389) (by decide +kernel), List.mem_of_getElem? (i := 1390) (by decide +kernel)⟩
def lw_privs_6 : List (MethodName × Nat) := [(⟨"CallStagesModel", "spanLeft", "()I"⟩, 41), (⟨"CallStagesModel", "sumOf", "(ZI)I"⟩, 41), (⟨"CallStagesModel", "takeRound", "()V"⟩, 41), (⟨"CallStagesModel", "begin", "()V"⟩, 41), (⟨"CallStagesModel", "goOn", "([I)Z"⟩, 41), (⟨"CallStagesModel", "isFree", "(I)Z"⟩, 41), (⟨"CallStagesModel", "isTight", "(I)Z"⟩, 41), (⟨"CallStagesModel", "matchGreatest", "()V"⟩, 41), (⟨"CallStagesModel", "matchByTurns", "()V"⟩, 41), (⟨"CallStagesModel", "isMatched", "(I)Z"⟩, 41), (⟨"CallStagesModel", "takenBy", "(I)I"⟩, 41), (⟨"CallStagesModel", "matchCrosswise", "()V"⟩, 41), (⟨"CallStagesModel", "fallsOut", "(I)J"⟩, 41), (⟨"CallStagesModel", "begins", "(I)V"⟩, 41)]
theorem lw_r6 : ∀ q ∈ lw_privs_6, lw_okq q := List.forall_mem_cons.mpr ⟨lw_p80, List.forall_mem_cons.mpr ⟨lw_p81, List.forall_mem_cons.mpr ⟨lw_p82, List.forall_mem_cons.mpr ⟨lw_p83, List.forall_mem_cons.mpr ⟨lw_p84, List.forall_mem_cons.mpr ⟨lw_p85, List.forall_mem_cons.mpr ⟨lw_p86, List.forall_mem_cons.mpr ⟨lw_p87, List.forall_mem_cons.mpr ⟨lw_p88, List.forall_mem_cons.mpr ⟨lw_p89, List.forall_mem_cons.mpr ⟨lw_p90, List.forall_mem_cons.mpr ⟨lw_p91, List.forall_mem_cons.mpr ⟨lw_p92, List.forall_mem_cons.mpr ⟨lw_p93, fun _ h => absurd h List.not_mem_nil⟩⟩⟩⟩⟩⟩⟩⟩⟩⟩⟩⟩⟩⟩
def lw_privs : List (MethodName × Nat) := lw_privs_1 ++ (lw_privs_2 ++ (lw_privs_3 ++ (lw_privs_4 ++ (lw_privs_5 ++ (lw_privs_6)))))
def lw_tbl : List Cond := k2_sels lw_privs ++ tables_1
theorem lw_privs_ok : ∀ q ∈ lw_privs, lw_okq q := by
  show ∀ q ∈ lw_privs_1 ++ (lw_privs_2 ++ (lw_privs_3 ++ (lw_privs_4 ++ (lw_privs_5 ++ (lw_privs_6))))), lw_okq q
  exact List.forall_mem_append.mpr ⟨lw_r1, List.forall_mem_append.mpr ⟨lw_r2, List.forall_mem_append.mpr ⟨lw_r3, List.forall_mem_append.mpr ⟨lw_r4, List.forall_mem_append.mpr ⟨lw_r5, lw_r6⟩⟩⟩⟩⟩
end
section
def RX0 : String := "CallStages$Comparers"
def TX0 : u_T := fun k => match k with
  | 0 => ("CallStages$Comparers", "width", "I", false)
  | 1 => ("CallStages$Comparers", "count", "I", false)
  | 2 => ("CallStages$Comparers", "depth", "I", false)
  | 3 => ("CallStages$Comparers", "traced", "I", false)
  | 4 => ("CallStages$Comparers", "lesser", "[I", true)
  | 5 => ("CallStages$Comparers", "greater", "[I", true)
  | 6 => ("CallStages$Comparers", "step", "[I", true)
  | 7 => ("CallStages$Comparers", "idle", "[Z", true)
  | 8 => ("CallStages$Comparers", "stepsOn", "[I", true)
  | _ => ("CallStages$Comparers", "rowsOn", "[[J", true)
def tyX0 : Nat → FieldType := fun k => match k with
  | 0 => .int
  | 1 => .int
  | 2 => .int
  | 3 => .int
  | 4 => .array .int
  | 5 => .array .int
  | 6 => .array .int
  | 7 => .array .boolean
  | 8 => .array .int
  | _ => .array (.array .long)
abbrev wsX00 : List Cond := u_ws RX0 TX0 10
theorem nmX0 : ∀ a, a < 10 → ∀ b, b < 10 → a ≠ b → (TX0 a).2.1 ≠ (TX0 b).2.1 := by decide +kernel
theorem tyX0_ok : ∀ k, k < 10 → parseFieldDescriptor (TX0 k).2.2.1 = some (tyX0 k) := by decide +kernel
abbrev cX0_init : ByteArray := prog_2_method_1_code
def yX0_init : MethodName := ⟨RX0, "<init>", "()V"⟩
abbrev cX0_begin : ByteArray := prog_2_method_2_code
def yX0_begin : MethodName := ⟨RX0, "begin", "(I)V"⟩
abbrev cX0_append : ByteArray := prog_2_method_3_code
def yX0_append : MethodName := ⟨RX0, "append", "(II)I"⟩
abbrev cX0_dropLatest : ByteArray := prog_2_method_4_code
def yX0_dropLatest : MethodName := ⟨RX0, "dropLatest", "()I"⟩
abbrev cX0_lead : ByteArray := prog_2_method_5_code
def yX0_lead : MethodName := ⟨RX0, "lead", "([I)V"⟩
abbrev cX0_firstUnsorted : ByteArray := prog_2_method_6_code
def yX0_firstUnsorted : MethodName := ⟨RX0, "firstUnsorted", "()I"⟩
abbrev cX0_sortedRows : ByteArray := prog_2_method_7_code
def yX0_sortedRows : MethodName := ⟨RX0, "sortedRows", "()I"⟩
abbrev cX0_idleOnes : ByteArray := prog_2_method_8_code
def yX0_idleOnes : MethodName := ⟨RX0, "idleOnes", "()I"⟩
abbrev cX0_kindOf : ByteArray := prog_2_method_9_code
def yX0_kindOf : MethodName := ⟨RX0, "kindOf", "(I)I"⟩
abbrev cX0_told : ByteArray := prog_2_method_10_code
def yX0_told : MethodName := ⟨RX0, "told", "(I)I"⟩
abbrev cX0_shown : ByteArray := prog_2_method_11_code
def yX0_shown : MethodName := ⟨RX0, "shown", "(I)I"⟩
abbrev cX0_toldPlain : ByteArray := prog_2_method_12_code
def yX0_toldPlain : MethodName := ⟨RX0, "toldPlain", "(I)I"⟩
abbrev cX0_toldLong : ByteArray := prog_2_method_13_code
def yX0_toldLong : MethodName := ⟨RX0, "toldLong", "(I)I"⟩
abbrev cX0_toldTurned : ByteArray := prog_2_method_14_code
def yX0_toldTurned : MethodName := ⟨RX0, "toldTurned", "(I)I"⟩
abbrev cX0_leaveTrace : ByteArray := prog_2_method_15_code
def yX0_leaveTrace : MethodName := ⟨RX0, "leaveTrace", "(I)V"⟩
abbrev cX0_words : ByteArray := prog_2_method_16_code
def yX0_words : MethodName := ⟨RX0, "words", "()I"⟩
abbrev cX0_leadAllRows : ByteArray := prog_2_method_17_code
def yX0_leadAllRows : MethodName := ⟨RX0, "leadAllRows", "()V"⟩
abbrev cX0_layAllRows : ByteArray := prog_2_method_18_code
def yX0_layAllRows : MethodName := ⟨RX0, "layAllRows", "()V"⟩
abbrev cX0_changesRows : ByteArray := prog_2_method_19_code
def yX0_changesRows : MethodName := ⟨RX0, "changesRows", "([J[J)Z"⟩
abbrev cX0_unsortedIn : ByteArray := prog_2_method_20_code
def yX0_unsortedIn : MethodName := ⟨RX0, "unsortedIn", "(I)J"⟩
def RX1 : String := "CallStages$CrossedNet"
def TX1 : u_T := fun k => match k with
  | 0 => ("CallStages$CrossedNet", "power", "I", false)
  | 1 => ("CallStages$CrossedNet", "outlets", "[I", true)
  | _ => ("CallStages$CrossedNet", "inner", "[[I", true)
def tyX1 : Nat → FieldType := fun k => match k with
  | 0 => .int
  | 1 => .array .int
  | _ => .array (.array .int)
abbrev wsX10 : List Cond := u_ws RX1 TX1 3
theorem nmX1 : ∀ a, a < 3 → ∀ b, b < 3 → a ≠ b → (TX1 a).2.1 ≠ (TX1 b).2.1 := by decide +kernel
theorem tyX1_ok : ∀ k, k < 3 → parseFieldDescriptor (TX1 k).2.2.1 = some (tyX1 k) := by decide +kernel
abbrev cX1_init : ByteArray := prog_3_method_1_code
def yX1_init : MethodName := ⟨RX1, "<init>", "()V"⟩
abbrev cX1_width : ByteArray := prog_3_method_2_code
def yX1_width : MethodName := ⟨RX1, "width", "()I"⟩
abbrev cX1_takeOrder : ByteArray := prog_3_method_3_code
def yX1_takeOrder : MethodName := ⟨RX1, "takeOrder", "(I[I)Z"⟩
abbrev cX1_carryBy : ByteArray := prog_3_method_4_code
def yX1_carryBy : MethodName := ⟨RX1, "carryBy", "(II)V"⟩
abbrev cX1_countSettings : ByteArray := prog_3_method_5_code
def yX1_countSettings : MethodName := ⟨RX1, "countSettings", "()J"⟩
abbrev cX1_leastSettings : ByteArray := prog_3_method_6_code
def yX1_leastSettings : MethodName := ⟨RX1, "leastSettings", "()J"⟩
abbrev cX1_carried : ByteArray := prog_3_method_7_code
def yX1_carried : MethodName := ⟨RX1, "carried", "(III)I"⟩
abbrev cX1_settingsOf : ByteArray := prog_3_method_8_code
def yX1_settingsOf : MethodName := ⟨RX1, "settingsOf", "(II)J"⟩
abbrev cX1_leastOf : ByteArray := prog_3_method_9_code
def yX1_leastOf : MethodName := ⟨RX1, "leastOf", "(II)J"⟩
abbrev cX1_splitBy : ByteArray := prog_3_method_10_code
def yX1_splitBy : MethodName := ⟨RX1, "splitBy", "(III)I"⟩
abbrev cX1_bit : ByteArray := prog_3_method_11_code
def yX1_bit : MethodName := ⟨RX1, "bit", "(II)I"⟩
def RX2 : String := "CallStages$HalfNet"
def TX2 : u_T := fun k => match k with
  | 0 => ("CallStages$HalfNet", "net", "LCallStages$CrossedNet;", true)
  | 1 => ("CallStages$HalfNet", "setOf", "[I", true)
  | 2 => ("CallStages$HalfNet", "clashing", "[I", true)
  | _ => ("CallStages$HalfNet", "members", "[I", true)
def tyX2 : Nat → FieldType := fun k => match k with
  | 0 => .object "CallStages$CrossedNet"
  | 1 => .array .int
  | 2 => .array .int
  | _ => .array .int
abbrev wsX20 : List Cond := u_ws RX2 TX2 4
theorem nmX2 : ∀ a, a < 4 → ∀ b, b < 4 → a ≠ b → (TX2 a).2.1 ≠ (TX2 b).2.1 := by decide +kernel
theorem tyX2_ok : ∀ k, k < 4 → parseFieldDescriptor (TX2 k).2.2.1 = some (tyX2 k) := by decide +kernel
abbrev cX2_init : ByteArray := prog_4_method_1_code
def yX2_init : MethodName := ⟨RX2, "<init>", "(LCallStages$CrossedNet;)V"⟩
abbrev cX2_lineBehind : ByteArray := prog_4_method_2_code
def yX2_lineBehind : MethodName := ⟨RX2, "lineBehind", "(II)I"⟩
abbrev cX2_rowOfClash : ByteArray := prog_4_method_3_code
def yX2_rowOfClash : MethodName := ⟨RX2, "rowOfClash", "(II)I"⟩
abbrev cX2_partInlets : ByteArray := prog_4_method_4_code
def yX2_partInlets : MethodName := ⟨RX2, "partInlets", "()I"⟩
abbrev cX2_shuffled : ByteArray := prog_4_method_5_code
def yX2_shuffled : MethodName := ⟨RX2, "shuffled", "(I)I"⟩
abbrev cX2_findClashes : ByteArray := prog_4_method_6_code
def yX2_findClashes : MethodName := ⟨RX2, "findClashes", "()V"⟩
abbrev cX2_canPart : ByteArray := prog_4_method_7_code
def yX2_canPart : MethodName := ⟨RX2, "canPart", "(III)Z"⟩
def RX3 : String := "CallStages$Parting"
def TX3 : u_T := fun k => match k with
  | 0 => ("CallStages$Parting", "ports", "I", false)
  | 1 => ("CallStages$Parting", "phases", "I", false)
  | 2 => ("CallStages$Parting", "stale", "Z", false)
  | 3 => ("CallStages$Parting", "spanLeft", "I", false)
  | 4 => ("CallStages$Parting", "table", "[[I", true)
  | 5 => ("CallStages$Parting", "left", "[[I", true)
  | 6 => ("CallStages$Parting", "inletSum", "[I", true)
  | 7 => ("CallStages$Parting", "outletSum", "[I", true)
  | 8 => ("CallStages$Parting", "phaseRow", "[[I", true)
  | 9 => ("CallStages$Parting", "phaseEnd", "[I", true)
  | _ => ("CallStages$Parting", "goesOn", "[I", true)
def tyX3 : Nat → FieldType := fun k => match k with
  | 0 => .int
  | 1 => .int
  | 2 => .boolean
  | 3 => .int
  | 4 => .array (.array .int)
  | 5 => .array (.array .int)
  | 6 => .array .int
  | 7 => .array .int
  | 8 => .array (.array .int)
  | 9 => .array .int
  | _ => .array .int
abbrev wsX30 : List Cond := u_ws RX3 TX3 11
theorem nmX3 : ∀ a, a < 11 → ∀ b, b < 11 → a ≠ b → (TX3 a).2.1 ≠ (TX3 b).2.1 := by decide +kernel
theorem tyX3_ok : ∀ k, k < 11 → parseFieldDescriptor (TX3 k).2.2.1 = some (tyX3 k) := by decide +kernel
abbrev cX3_init : ByteArray := prog_5_method_1_code
def yX3_init : MethodName := ⟨RX3, "<init>", "()V"⟩
abbrev cX3_begin : ByteArray := prog_5_method_2_code
def yX3_begin : MethodName := ⟨RX3, "begin", "(I)V"⟩
abbrev cX3_change : ByteArray := prog_5_method_3_code
def yX3_change : MethodName := ⟨RX3, "change", "(III)I"⟩
abbrev cX3_wholeSpan : ByteArray := prog_5_method_4_code
def yX3_wholeSpan : MethodName := ⟨RX3, "wholeSpan", "()I"⟩
abbrev cX3_phasesInAll : ByteArray := prog_5_method_5_code
def yX3_phasesInAll : MethodName := ⟨RX3, "phasesInAll", "()I"⟩
abbrev cX3_outletIn : ByteArray := prog_5_method_6_code
def yX3_outletIn : MethodName := ⟨RX3, "outletIn", "(II)I"⟩
abbrev cX3_partIfStale : ByteArray := prog_5_method_7_code
def yX3_partIfStale : MethodName := ⟨RX3, "partIfStale", "()V"⟩
abbrev cX3_addUp : ByteArray := prog_5_method_8_code
def yX3_addUp : MethodName := ⟨RX3, "addUp", "([[I)V"⟩
abbrev cX3_chooseRow : ByteArray := prog_5_method_9_code
def yX3_chooseRow : MethodName := ⟨RX3, "chooseRow", "([I)V"⟩
abbrev cX3_findWhatGoesOn : ByteArray := prog_5_method_10_code
def yX3_findWhatGoesOn : MethodName := ⟨RX3, "findWhatGoesOn", "()V"⟩
abbrev cX3_canGiveAny : ByteArray := prog_5_method_11_code
def yX3_canGiveAny : MethodName := ⟨RX3, "canGiveAny", "(II)Z"⟩
abbrev cX3_canGive : ByteArray := prog_5_method_12_code
def yX3_canGive : MethodName := ⟨RX3, "canGive", "(III)Z"⟩
abbrev cX3_roundsOf : ByteArray := prog_5_method_13_code
def yX3_roundsOf : MethodName := ⟨RX3, "roundsOf", "([I)I"⟩
abbrev cX3_takeOff : ByteArray := prog_5_method_14_code
def yX3_takeOff : MethodName := ⟨RX3, "takeOff", "([II)V"⟩
def RX4 : String := "CallStages$Queues"
def TX4 : u_T := fun k => match k with
  | 0 => ("CallStages$Queues", "ports", "I", false)
  | 1 => ("CallStages$Queues", "queued", "[[I", true)
  | 2 => ("CallStages$Queues", "matched", "[I", true)
  | 3 => ("CallStages$Queues", "matchedInlet", "[I", true)
  | 4 => ("CallStages$Queues", "inletPointer", "[I", true)
  | 5 => ("CallStages$Queues", "outletPointer", "[I", true)
  | 6 => ("CallStages$Queues", "takes", "[I", true)
  | _ => ("CallStages$Queues", "best", "[[I", true)
def tyX4 : Nat → FieldType := fun k => match k with
  | 0 => .int
  | 1 => .array (.array .int)
  | 2 => .array .int
  | 3 => .array .int
  | 4 => .array .int
  | 5 => .array .int
  | 6 => .array .int
  | _ => .array (.array .int)
abbrev wsX40 : List Cond := u_ws RX4 TX4 8
theorem nmX4 : ∀ a, a < 8 → ∀ b, b < 8 → a ≠ b → (TX4 a).2.1 ≠ (TX4 b).2.1 := by decide +kernel
theorem tyX4_ok : ∀ k, k < 8 → parseFieldDescriptor (TX4 k).2.2.1 = some (tyX4 k) := by decide +kernel
abbrev cX4_init : ByteArray := prog_6_method_1_code
def yX4_init : MethodName := ⟨RX4, "<init>", "()V"⟩
abbrev cX4_begin : ByteArray := prog_6_method_2_code
def yX4_begin : MethodName := ⟨RX4, "begin", "(I)V"⟩
abbrev cX4_refusalOf : ByteArray := prog_6_method_3_code
def yX4_refusalOf : MethodName := ⟨RX4, "refusalOf", "([I)I"⟩
abbrev cX4_serve : ByteArray := prog_6_method_4_code
def yX4_serve : MethodName := ⟨RX4, "serve", "(I[I)I"⟩
abbrev cX4_inAll : ByteArray := prog_6_method_5_code
def yX4_inAll : MethodName := ⟨RX4, "inAll", "()I"⟩
abbrev cX4_matchNone : ByteArray := prog_6_method_6_code
def yX4_matchNone : MethodName := ⟨RX4, "matchNone", "()V"⟩
abbrev cX4_match : ByteArray := prog_6_method_7_code
def yX4_match : MethodName := ⟨RX4, "match", "(II)V"⟩
abbrev cX4_canMatch : ByteArray := prog_6_method_8_code
def yX4_canMatch : MethodName := ⟨RX4, "canMatch", "(II)Z"⟩
abbrev cX4_matchBySum : ByteArray := prog_6_method_9_code
def yX4_matchBySum : MethodName := ⟨RX4, "matchBySum", "()V"⟩
abbrev cX4_findBestSums : ByteArray := prog_6_method_10_code
def yX4_findBestSums : MethodName := ⟨RX4, "findBestSums", "()V"⟩
abbrev cX4_sumWith : ByteArray := prog_6_method_11_code
def yX4_sumWith : MethodName := ⟨RX4, "sumWith", "(III)I"⟩
abbrev cX4_matchByTurns : ByteArray := prog_6_method_12_code
def yX4_matchByTurns : MethodName := ⟨RX4, "matchByTurns", "()V"⟩
abbrev cX4_firstThatAsks : ByteArray := prog_6_method_13_code
def yX4_firstThatAsks : MethodName := ⟨RX4, "firstThatAsks", "(I)I"⟩
abbrev cX4_firstThatTook : ByteArray := prog_6_method_14_code
def yX4_firstThatTook : MethodName := ⟨RX4, "firstThatTook", "(I)I"⟩
abbrev cX4_matchCrosswise : ByteArray := prog_6_method_15_code
def yX4_matchCrosswise : MethodName := ⟨RX4, "matchCrosswise", "()V"⟩
abbrev cX4_aroundPorts : ByteArray := prog_6_method_16_code
def yX4_aroundPorts : MethodName := ⟨RX4, "aroundPorts", "(I)I"⟩
def RX5 : String := "CallStages$Sheets"
def TX5 : u_T := fun k => match k with
  | 0 => ("CallStages$Sheets", "lanes", "[I", true)
  | 1 => ("CallStages$Sheets", "lengths", "[I", true)
  | _ => ("CallStages$Sheets", "cells", "[[I", true)
def tyX5 : Nat → FieldType := fun k => match k with
  | 0 => .array .int
  | 1 => .array .int
  | _ => .array (.array .int)
abbrev wsX50 : List Cond := u_ws RX5 TX5 3
theorem nmX5 : ∀ a, a < 3 → ∀ b, b < 3 → a ≠ b → (TX5 a).2.1 ≠ (TX5 b).2.1 := by decide +kernel
theorem tyX5_ok : ∀ k, k < 3 → parseFieldDescriptor (TX5 k).2.2.1 = some (tyX5 k) := by decide +kernel
abbrev cX5_init : ByteArray := prog_7_method_1_code
def yX5_init : MethodName := ⟨RX5, "<init>", "()V"⟩
abbrev cX5_layRow : ByteArray := prog_7_method_2_code
def yX5_layRow : MethodName := ⟨RX5, "layRow", "(III)V"⟩
abbrev cX5_clear : ByteArray := prog_7_method_3_code
def yX5_clear : MethodName := ⟨RX5, "clear", "(I)Z"⟩
abbrev cX5_faultOfCells : ByteArray := prog_7_method_4_code
def yX5_faultOfCells : MethodName := ⟨RX5, "faultOfCells", "(IIII)I"⟩
abbrev cX5_change : ByteArray := prog_7_method_5_code
def yX5_change : MethodName := ⟨RX5, "change", "(III)V"⟩
abbrev cX5_read : ByteArray := prog_7_method_6_code
def yX5_read : MethodName := ⟨RX5, "read", "(II[II)V"⟩
abbrev cX5_write : ByteArray := prog_7_method_7_code
def yX5_write : MethodName := ⟨RX5, "write", "(II[II)I"⟩
abbrev cX5_cut : ByteArray := prog_7_method_8_code
def yX5_cut : MethodName := ⟨RX5, "cut", "(II)I"⟩
def RX6 : String := "CallStages$ThreeStages"
def TX6 : u_T := fun k => match k with
  | 0 => ("CallStages$ThreeStages", "outer", "I", false)
  | 1 => ("CallStages$ThreeStages", "each", "I", false)
  | 2 => ("CallStages$ThreeStages", "middles", "I", false)
  | 3 => ("CallStages$ThreeStages", "held", "I", false)
  | 4 => ("CallStages$ThreeStages", "outletOf", "[I", true)
  | 5 => ("CallStages$ThreeStages", "inletOf", "[I", true)
  | 6 => ("CallStages$ThreeStages", "middleOf", "[I", true)
  | 7 => ("CallStages$ThreeStages", "earlierMiddleOf", "[I", true)
  | 8 => ("CallStages$ThreeStages", "inletLinks", "[[I", true)
  | 9 => ("CallStages$ThreeStages", "outletLinks", "[[I", true)
  | 10 => ("CallStages$ThreeStages", "chain", "[I", true)
  | 11 => ("CallStages$ThreeStages", "bestA", "I", false)
  | _ => ("CallStages$ThreeStages", "bestB", "I", false)
def tyX6 : Nat → FieldType := fun k => match k with
  | 0 => .int
  | 1 => .int
  | 2 => .int
  | 3 => .int
  | 4 => .array .int
  | 5 => .array .int
  | 6 => .array .int
  | 7 => .array .int
  | 8 => .array (.array .int)
  | 9 => .array (.array .int)
  | 10 => .array .int
  | 11 => .int
  | _ => .int
abbrev wsX60 : List Cond := u_ws RX6 TX6 13
theorem nmX6 : ∀ a, a < 13 → ∀ b, b < 13 → a ≠ b → (TX6 a).2.1 ≠ (TX6 b).2.1 := by decide +kernel
theorem tyX6_ok : ∀ k, k < 13 → parseFieldDescriptor (TX6 k).2.2.1 = some (tyX6 k) := by decide +kernel
abbrev cX6_init : ByteArray := prog_8_method_1_code
def yX6_init : MethodName := ⟨RX6, "<init>", "()V"⟩
abbrev cX6_build : ByteArray := prog_8_method_2_code
def yX6_build : MethodName := ⟨RX6, "build", "(III)V"⟩
abbrev cX6_inlets : ByteArray := prog_8_method_3_code
def yX6_inlets : MethodName := ⟨RX6, "inlets", "()I"⟩
abbrev cX6_isPlace : ByteArray := prog_8_method_4_code
def yX6_isPlace : MethodName := ⟨RX6, "isPlace", "(I)Z"⟩
abbrev cX6_neverBlocks : ByteArray := prog_8_method_5_code
def yX6_neverBlocks : MethodName := ⟨RX6, "neverBlocks", "()Z"⟩
abbrev cX6_refusalOf : ByteArray := prog_8_method_6_code
def yX6_refusalOf : MethodName := ⟨RX6, "refusalOf", "(II)I"⟩
abbrev cX6_setUpFirst : ByteArray := prog_8_method_7_code
def yX6_setUpFirst : MethodName := ⟨RX6, "setUpFirst", "(II)I"⟩
abbrev cX6_setUpMended : ByteArray := prog_8_method_8_code
def yX6_setUpMended : MethodName := ⟨RX6, "setUpMended", "(II)I"⟩
abbrev cX6_fewestMoves : ByteArray := prog_8_method_9_code
def yX6_fewestMoves : MethodName := ⟨RX6, "fewestMoves", "(II)I"⟩
abbrev cX6_takeOff : ByteArray := prog_8_method_10_code
def yX6_takeOff : MethodName := ⟨RX6, "takeOff", "(I)I"⟩
abbrev cX6_layAllAnew : ByteArray := prog_8_method_11_code
def yX6_layAllAnew : MethodName := ⟨RX6, "layAllAnew", "()I"⟩
abbrev cX6_takenLinks : ByteArray := prog_8_method_12_code
def yX6_takenLinks : MethodName := ⟨RX6, "takenLinks", "(II)I"⟩
abbrev cX6_shareLost : ByteArray := prog_8_method_13_code
def yX6_shareLost : MethodName := ⟨RX6, "shareLost", "(III)J"⟩
abbrev cX6_commonDivisor : ByteArray := prog_8_method_14_code
def yX6_commonDivisor : MethodName := ⟨RX6, "commonDivisor", "(JJ)J"⟩
abbrev cX6_switchOf : ByteArray := prog_8_method_15_code
def yX6_switchOf : MethodName := ⟨RX6, "switchOf", "(I)I"⟩
abbrev cX6_forgetCalls : ByteArray := prog_8_method_16_code
def yX6_forgetCalls : MethodName := ⟨RX6, "forgetCalls", "()V"⟩
abbrev cX6_freeAllLinks : ByteArray := prog_8_method_17_code
def yX6_freeAllLinks : MethodName := ⟨RX6, "freeAllLinks", "()V"⟩
abbrev cX6_join : ByteArray := prog_8_method_18_code
def yX6_join : MethodName := ⟨RX6, "join", "(II)V"⟩
abbrev cX6_goBy : ByteArray := prog_8_method_19_code
def yX6_goBy : MethodName := ⟨RX6, "goBy", "(II)V"⟩
abbrev cX6_freeLinks : ByteArray := prog_8_method_20_code
def yX6_freeLinks : MethodName := ⟨RX6, "freeLinks", "(I)V"⟩
abbrev cX6_followChain : ByteArray := prog_8_method_21_code
def yX6_followChain : MethodName := ⟨RX6, "followChain", "(III)I"⟩
abbrev cX6_moveChain : ByteArray := prog_8_method_22_code
def yX6_moveChain : MethodName := ⟨RX6, "moveChain", "(III)V"⟩
abbrev cX6_mendAgain : ByteArray := prog_8_method_23_code
def yX6_mendAgain : MethodName := ⟨RX6, "mendAgain", "(I)Z"⟩
abbrev cX6_goByBest : ByteArray := prog_8_method_24_code
def yX6_goByBest : MethodName := ⟨RX6, "goByBest", "(I)V"⟩
abbrev cX6_goBackToEarlier : ByteArray := prog_8_method_25_code
def yX6_goBackToEarlier : MethodName := ⟨RX6, "goBackToEarlier", "()V"⟩
def RX7 : String := "CallStages"
def TX7 : u_T := fun k => match k with
  | 0 => ("CallStages", "stages", "LCallStages$ThreeStages;", true)
  | 1 => ("CallStages", "crossed", "LCallStages$CrossedNet;", true)
  | 2 => ("CallStages", "half", "LCallStages$HalfNet;", true)
  | 3 => ("CallStages", "comparers", "LCallStages$Comparers;", true)
  | 4 => ("CallStages", "parting", "LCallStages$Parting;", true)
  | 5 => ("CallStages", "queues", "LCallStages$Queues;", true)
  | 6 => ("CallStages", "sheets", "LCallStages$Sheets;", true)
  | 7 => ("CallStages", "taken", "[I", true)
  | _ => ("CallStages", "latestFault", "I", false)
def tyX7 : Nat → FieldType := fun k => match k with
  | 0 => .object "CallStages$ThreeStages"
  | 1 => .object "CallStages$CrossedNet"
  | 2 => .object "CallStages$HalfNet"
  | 3 => .object "CallStages$Comparers"
  | 4 => .object "CallStages$Parting"
  | 5 => .object "CallStages$Queues"
  | 6 => .object "CallStages$Sheets"
  | 7 => .array .int
  | _ => .int
abbrev wsX70 : List Cond := u_ws RX7 TX7 9
theorem nmX7 : ∀ a, a < 9 → ∀ b, b < 9 → a ≠ b → (TX7 a).2.1 ≠ (TX7 b).2.1 := by decide +kernel
theorem tyX7_ok : ∀ k, k < 9 → parseFieldDescriptor (TX7 k).2.2.1 = some (tyX7 k) := by decide +kernel
abbrev cX7_init : ByteArray := prog_1_method_1_code
def yX7_init : MethodName := ⟨RX7, "<init>", "()V"⟩
abbrev cX7_net : ByteArray := prog_1_method_2_code
def yX7_net : MethodName := ⟨RX7, "net", "(III)I"⟩
abbrev cX7_netOf : ByteArray := prog_1_method_3_code
def yX7_netOf : MethodName := ⟨RX7, "netOf", "(I)I"⟩
abbrev cX7_call : ByteArray := prog_1_method_4_code
def yX7_call : MethodName := ⟨RX7, "call", "(II)I"⟩
abbrev cX7_mend : ByteArray := prog_1_method_5_code
def yX7_mend : MethodName := ⟨RX7, "mend", "(II)I"⟩
abbrev cX7_moves : ByteArray := prog_1_method_6_code
def yX7_moves : MethodName := ⟨RX7, "moves", "(II)I"⟩
abbrev cX7_hang : ByteArray := prog_1_method_7_code
def yX7_hang : MethodName := ⟨RX7, "hang", "(I)I"⟩
abbrev cX7_anew : ByteArray := prog_1_method_8_code
def yX7_anew : MethodName := ⟨RX7, "anew", "()I"⟩
abbrev cX7_callOf : ByteArray := prog_1_method_9_code
def yX7_callOf : MethodName := ⟨RX7, "callOf", "(II)I"⟩
abbrev cX7_links : ByteArray := prog_1_method_10_code
def yX7_links : MethodName := ⟨RX7, "links", "(II)I"⟩
abbrev cX7_order : ByteArray := prog_1_method_11_code
def yX7_order : MethodName := ⟨RX7, "order", "(IIII)I"⟩
abbrev cX7_outlet : ByteArray := prog_1_method_12_code
def yX7_outlet : MethodName := ⟨RX7, "outlet", "(I)I"⟩
abbrev cX7_ways : ByteArray := prog_1_method_13_code
def yX7_ways : MethodName := ⟨RX7, "ways", "()J"⟩
abbrev cX7_first : ByteArray := prog_1_method_14_code
def yX7_first : MethodName := ⟨RX7, "first", "()J"⟩
abbrev cX7_carry : ByteArray := prog_1_method_15_code
def yX7_carry : MethodName := ⟨RX7, "carry", "(IJ)I"⟩
abbrev cX7_line : ByteArray := prog_1_method_16_code
def yX7_line : MethodName := ⟨RX7, "line", "(II)I"⟩
abbrev cX7_clash : ByteArray := prog_1_method_17_code
def yX7_clash : MethodName := ⟨RX7, "clash", "(II)I"⟩
abbrev cX7_rounds : ByteArray := prog_1_method_18_code
def yX7_rounds : MethodName := ⟨RX7, "rounds", "()I"⟩
abbrev cX7_round : ByteArray := prog_1_method_19_code
def yX7_round : MethodName := ⟨RX7, "round", "(I)I"⟩
abbrev cX7_wires : ByteArray := prog_1_method_20_code
def yX7_wires : MethodName := ⟨RX7, "wires", "(I)I"⟩
abbrev cX7_compare : ByteArray := prog_1_method_21_code
def yX7_compare : MethodName := ⟨RX7, "compare", "(II)I"⟩
abbrev cX7_back : ByteArray := prog_1_method_22_code
def yX7_back : MethodName := ⟨RX7, "back", "()I"⟩
abbrev cX7_sorter : ByteArray := prog_1_method_23_code
def yX7_sorter : MethodName := ⟨RX7, "sorter", "(I)I"⟩
abbrev cX7_comparer : ByteArray := prog_1_method_24_code
def yX7_comparer : MethodName := ⟨RX7, "comparer", "(II)I"⟩
abbrev cX7_sort : ByteArray := prog_1_method_25_code
def yX7_sort : MethodName := ⟨RX7, "sort", "(III)I"⟩
abbrev cX7_bar : ByteArray := prog_1_method_26_code
def yX7_bar : MethodName := ⟨RX7, "bar", "(I)I"⟩
abbrev cX7_traffic : ByteArray := prog_1_method_27_code
def yX7_traffic : MethodName := ⟨RX7, "traffic", "(III)I"⟩
abbrev cX7_span : ByteArray := prog_1_method_28_code
def yX7_span : MethodName := ⟨RX7, "span", "()I"⟩
abbrev cX7_parted : ByteArray := prog_1_method_29_code
def yX7_parted : MethodName := ⟨RX7, "parted", "(II)I"⟩
abbrev cX7_changes : ByteArray := prog_1_method_30_code
def yX7_changes : MethodName := ⟨RX7, "changes", "()I"⟩
abbrev cX7_slot : ByteArray := prog_1_method_31_code
def yX7_slot : MethodName := ⟨RX7, "slot", "(IIII)I"⟩
abbrev cX7_queue : ByteArray := prog_1_method_32_code
def yX7_queue : MethodName := ⟨RX7, "queue", "(III)I"⟩
abbrev cX7_waiting : ByteArray := prog_1_method_33_code
def yX7_waiting : MethodName := ⟨RX7, "waiting", "()I"⟩
abbrev cX7_lost : ByteArray := prog_1_method_34_code
def yX7_lost : MethodName := ⟨RX7, "lost", "(III)J"⟩
abbrev cX7_sheet : ByteArray := prog_1_method_35_code
def yX7_sheet : MethodName := ⟨RX7, "sheet", "(III)I"⟩
abbrev cX7_lose : ByteArray := prog_1_method_36_code
def yX7_lose : MethodName := ⟨RX7, "lose", "(I)I"⟩
abbrev cX7_put : ByteArray := prog_1_method_37_code
def yX7_put : MethodName := ⟨RX7, "put", "(III)I"⟩
abbrev cX7_cell : ByteArray := prog_1_method_38_code
def yX7_cell : MethodName := ⟨RX7, "cell", "(III)J"⟩
abbrev cX7_tell : ByteArray := prog_1_method_39_code
def yX7_tell : MethodName := ⟨RX7, "tell", "(I)I"⟩
abbrev cX7_show : ByteArray := prog_1_method_40_code
def yX7_show : MethodName := ⟨RX7, "show", "(I)I"⟩
abbrev cX7_as : ByteArray := prog_1_method_41_code
def yX7_as : MethodName := ⟨RX7, "as", "(II)I"⟩
abbrev cX7_trace : ByteArray := prog_1_method_42_code
def yX7_trace : MethodName := ⟨RX7, "trace", "()I"⟩
abbrev cX7_fault : ByteArray := prog_1_method_43_code
def yX7_fault : MethodName := ⟨RX7, "fault", "()I"⟩
abbrev cX7_many : ByteArray := prog_1_method_44_code
def yX7_many : MethodName := ⟨RX7, "many", "(I)I"⟩
abbrev cX7_within : ByteArray := prog_1_method_45_code
def yX7_within : MethodName := ⟨RX7, "within", "(III)Z"⟩
abbrev cX7_isPort : ByteArray := prog_1_method_46_code
def yX7_isPort : MethodName := ⟨RX7, "isPort", "(I)Z"⟩
abbrev cX7_faulted : ByteArray := prog_1_method_47_code
def yX7_faulted : MethodName := ⟨RX7, "faulted", "(I)I"⟩
def RX8 : String := "CallStagesModel"
def TX8 : u_T := fun k => match k with
  | 0 => ("CallStagesModel", "fault", "I", false)
  | 1 => ("CallStagesModel", "trace", "I", false)
  | 2 => ("CallStagesModel", "outer", "I", false)
  | 3 => ("CallStagesModel", "each", "I", false)
  | 4 => ("CallStagesModel", "middles", "I", false)
  | 5 => ("CallStagesModel", "outletOf", "[I", true)
  | 6 => ("CallStagesModel", "middleOf", "[I", true)
  | 7 => ("CallStagesModel", "moved", "[I", true)
  | 8 => ("CallStagesModel", "bestA", "I", false)
  | 9 => ("CallStagesModel", "bestB", "I", false)
  | 10 => ("CallStagesModel", "wasOutlet", "[I", true)
  | 11 => ("CallStagesModel", "wasMiddle", "[I", true)
  | 12 => ("CallStagesModel", "deep", "I", false)
  | 13 => ("CallStagesModel", "order", "[I", true)
  | 14 => ("CallStagesModel", "outOf", "[I", true)
  | 15 => ("CallStagesModel", "inner", "[I", true)
  | 16 => ("CallStagesModel", "halfTwo", "[I", true)
  | 17 => ("CallStagesModel", "lastBits", "I", false)
  | 18 => ("CallStagesModel", "ways", "J", false)
  | 19 => ("CallStagesModel", "least", "J", false)
  | 20 => ("CallStagesModel", "lanes", "[I", true)
  | 21 => ("CallStagesModel", "sheetLong", "[I", true)
  | 22 => ("CallStagesModel", "cells", "[I", true)
  | 23 => ("CallStagesModel", "setOf", "[I", true)
  | 24 => ("CallStagesModel", "wires", "I", false)
  | 25 => ("CallStagesModel", "comparers", "I", false)
  | 26 => ("CallStagesModel", "first", "[I", true)
  | 27 => ("CallStagesModel", "second", "[I", true)
  | 28 => ("CallStagesModel", "stepOf", "[I", true)
  | 29 => ("CallStagesModel", "was", "[I", true)
  | 30 => ("CallStagesModel", "ends", "I", false)
  | 31 => ("CallStagesModel", "traffic", "[I", true)
  | 32 => ("CallStagesModel", "left", "[I", true)
  | 33 => ("CallStagesModel", "queues", "[I", true)
  | 34 => ("CallStagesModel", "inPointer", "[I", true)
  | 35 => ("CallStagesModel", "outPointer", "[I", true)
  | 36 => ("CallStagesModel", "chosen", "[I", true)
  | 37 => ("CallStagesModel", "matched", "[I", true)
  | 38 => ("CallStagesModel", "depth", "I", false)
  | 39 => ("CallStagesModel", "ahead", "[I", true)
  | _ => ("CallStagesModel", "takes", "[I", true)
def tyX8 : Nat → FieldType := fun k => match k with
  | 0 => .int
  | 1 => .int
  | 2 => .int
  | 3 => .int
  | 4 => .int
  | 5 => .array .int
  | 6 => .array .int
  | 7 => .array .int
  | 8 => .int
  | 9 => .int
  | 10 => .array .int
  | 11 => .array .int
  | 12 => .int
  | 13 => .array .int
  | 14 => .array .int
  | 15 => .array .int
  | 16 => .array .int
  | 17 => .int
  | 18 => .long
  | 19 => .long
  | 20 => .array .int
  | 21 => .array .int
  | 22 => .array .int
  | 23 => .array .int
  | 24 => .int
  | 25 => .int
  | 26 => .array .int
  | 27 => .array .int
  | 28 => .array .int
  | 29 => .array .int
  | 30 => .int
  | 31 => .array .int
  | 32 => .array .int
  | 33 => .array .int
  | 34 => .array .int
  | 35 => .array .int
  | 36 => .array .int
  | 37 => .array .int
  | 38 => .int
  | 39 => .array .int
  | _ => .array .int
abbrev wsX80 : List Cond := u_ws RX8 TX8 41
theorem nmX8 : ∀ a, a < 41 → ∀ b, b < 41 → a ≠ b → (TX8 a).2.1 ≠ (TX8 b).2.1 := by decide +kernel
theorem tyX8_ok : ∀ k, k < 41 → parseFieldDescriptor (TX8 k).2.2.1 = some (tyX8 k) := by decide +kernel
abbrev cX8_init : ByteArray := prog_10_method_1_code
def yX8_init : MethodName := ⟨RX8, "<init>", "()V"⟩
abbrev cX8_fails : ByteArray := prog_10_method_3_code
def yX8_fails : MethodName := ⟨RX8, "fails", "(I)I"⟩
abbrev cX8_fallsOut : ByteArray := prog_10_method_4_code
def yX8_fallsOut : MethodName := ⟨RX8, "fallsOut", "(I)J"⟩
abbrev cX8_within : ByteArray := prog_10_method_5_code
def yX8_within : MethodName := ⟨RX8, "within", "(III)Z"⟩
abbrev cX8_lines : ByteArray := prog_10_method_6_code
def yX8_lines : MethodName := ⟨RX8, "lines", "()I"⟩
abbrev cX8_isLine : ByteArray := prog_10_method_7_code
def yX8_isLine : MethodName := ⟨RX8, "isLine", "(I)Z"⟩
abbrev cX8_calls : ByteArray := prog_10_method_8_code
def yX8_calls : MethodName := ⟨RX8, "calls", "()I"⟩
abbrev cX8_net : ByteArray := prog_10_method_9_code
def yX8_net : MethodName := ⟨RX8, "net", "(III)I"⟩
abbrev cX8_netOf : ByteArray := prog_10_method_10_code
def yX8_netOf : MethodName := ⟨RX8, "netOf", "(I)I"⟩
abbrev cX8_atLeft : ByteArray := prog_10_method_11_code
def yX8_atLeft : MethodName := ⟨RX8, "atLeft", "(II)I"⟩
abbrev cX8_atRight : ByteArray := prog_10_method_12_code
def yX8_atRight : MethodName := ⟨RX8, "atRight", "(II)I"⟩
abbrev cX8_isTaken : ByteArray := prog_10_method_13_code
def yX8_isTaken : MethodName := ⟨RX8, "isTaken", "(II)Z"⟩
abbrev cX8_setUp : ByteArray := prog_10_method_14_code
def yX8_setUp : MethodName := ⟨RX8, "setUp", "(III)I"⟩
abbrev cX8_call : ByteArray := prog_10_method_15_code
def yX8_call : MethodName := ⟨RX8, "call", "(II)I"⟩
abbrev cX8_chainOf : ByteArray := prog_10_method_16_code
def yX8_chainOf : MethodName := ⟨RX8, "chainOf", "(III)I"⟩
abbrev cX8_fewest : ByteArray := prog_10_method_17_code
def yX8_fewest : MethodName := ⟨RX8, "fewest", "(II)I"⟩
abbrev cX8_mendOne : ByteArray := prog_10_method_18_code
def yX8_mendOne : MethodName := ⟨RX8, "mendOne", "(II)I"⟩
abbrev cX8_mend : ByteArray := prog_10_method_19_code
def yX8_mend : MethodName := ⟨RX8, "mend", "(II)I"⟩
abbrev cX8_moves : ByteArray := prog_10_method_20_code
def yX8_moves : MethodName := ⟨RX8, "moves", "(II)I"⟩
abbrev cX8_hang : ByteArray := prog_10_method_21_code
def yX8_hang : MethodName := ⟨RX8, "hang", "(I)I"⟩
abbrev cX8_anew : ByteArray := prog_10_method_22_code
def yX8_anew : MethodName := ⟨RX8, "anew", "()I"⟩
abbrev cX8_callOf : ByteArray := prog_10_method_23_code
def yX8_callOf : MethodName := ⟨RX8, "callOf", "(II)I"⟩
abbrev cX8_links : ByteArray := prog_10_method_24_code
def yX8_links : MethodName := ⟨RX8, "links", "(II)I"⟩
abbrev cX8_wide : ByteArray := prog_10_method_25_code
def yX8_wide : MethodName := ⟨RX8, "wide", "()I"⟩
abbrev cX8_halve : ByteArray := prog_10_method_26_code
def yX8_halve : MethodName := ⟨RX8, "halve", "([IIII[II)Z"⟩
abbrev cX8_firstOfTwo : ByteArray := prog_10_method_27_code
def yX8_firstOfTwo : MethodName := ⟨RX8, "firstOfTwo", "([II)J"⟩
abbrev cX8_findFour : ByteArray := prog_10_method_28_code
def yX8_findFour : MethodName := ⟨RX8, "findFour", "([II)V"⟩
abbrev cX8_findEight : ByteArray := prog_10_method_29_code
def yX8_findEight : MethodName := ⟨RX8, "findEight", "()V"⟩
abbrev cX8_find : ByteArray := prog_10_method_30_code
def yX8_find : MethodName := ⟨RX8, "find", "()V"⟩
abbrev cX8_ways : ByteArray := prog_10_method_31_code
def yX8_ways : MethodName := ⟨RX8, "ways", "()J"⟩
abbrev cX8_first : ByteArray := prog_10_method_32_code
def yX8_first : MethodName := ⟨RX8, "first", "()J"⟩
abbrev cX8_against : ByteArray := prog_10_method_33_code
def yX8_against : MethodName := ⟨RX8, "against", "(IIII)I"⟩
abbrev cX8_isSheet : ByteArray := prog_10_method_34_code
def yX8_isSheet : MethodName := ⟨RX8, "isSheet", "(I)Z"⟩
abbrev cX8_isLane : ByteArray := prog_10_method_35_code
def yX8_isLane : MethodName := ⟨RX8, "isLane", "(I)Z"⟩
abbrev cX8_order : ByteArray := prog_10_method_36_code
def yX8_order : MethodName := ⟨RX8, "order", "(IIII)I"⟩
abbrev cX8_isEnd : ByteArray := prog_10_method_37_code
def yX8_isEnd : MethodName := ⟨RX8, "isEnd", "(I)Z"⟩
abbrev cX8_outlet : ByteArray := prog_10_method_38_code
def yX8_outlet : MethodName := ⟨RX8, "outlet", "(I)I"⟩
abbrev cX8_carriedTwo : ByteArray := prog_10_method_39_code
def yX8_carriedTwo : MethodName := ⟨RX8, "carriedTwo", "(II)I"⟩
abbrev cX8_carriedFour : ByteArray := prog_10_method_40_code
def yX8_carriedFour : MethodName := ⟨RX8, "carriedFour", "(II)I"⟩
abbrev cX8_carriedEight : ByteArray := prog_10_method_41_code
def yX8_carriedEight : MethodName := ⟨RX8, "carriedEight", "(II)I"⟩
abbrev cX8_carry : ByteArray := prog_10_method_42_code
def yX8_carry : MethodName := ⟨RX8, "carry", "(IJ)I"⟩
abbrev cX8_lineOf : ByteArray := prog_10_method_43_code
def yX8_lineOf : MethodName := ⟨RX8, "lineOf", "(II)I"⟩
abbrev cX8_line : ByteArray := prog_10_method_44_code
def yX8_line : MethodName := ⟨RX8, "line", "(II)I"⟩
abbrev cX8_clashOf : ByteArray := prog_10_method_45_code
def yX8_clashOf : MethodName := ⟨RX8, "clashOf", "(II)I"⟩
abbrev cX8_clash : ByteArray := prog_10_method_46_code
def yX8_clash : MethodName := ⟨RX8, "clash", "(II)I"⟩
abbrev cX8_mayBe : ByteArray := prog_10_method_47_code
def yX8_mayBe : MethodName := ⟨RX8, "mayBe", "(I)Z"⟩
abbrev cX8_setsAhead : ByteArray := prog_10_method_48_code
def yX8_setsAhead : MethodName := ⟨RX8, "setsAhead", "(I)I"⟩
abbrev cX8_areEnough : ByteArray := prog_10_method_49_code
def yX8_areEnough : MethodName := ⟨RX8, "areEnough", "(I)Z"⟩
abbrev cX8_findRounds : ByteArray := prog_10_method_50_code
def yX8_findRounds : MethodName := ⟨RX8, "findRounds", "()I"⟩
abbrev cX8_rounds : ByteArray := prog_10_method_51_code
def yX8_rounds : MethodName := ⟨RX8, "rounds", "()I"⟩
abbrev cX8_round : ByteArray := prog_10_method_52_code
def yX8_round : MethodName := ⟨RX8, "round", "(I)I"⟩
abbrev cX8_wires : ByteArray := prog_10_method_53_code
def yX8_wires : MethodName := ⟨RX8, "wires", "(I)I"⟩
abbrev cX8_isWire : ByteArray := prog_10_method_54_code
def yX8_isWire : MethodName := ⟨RX8, "isWire", "(I)Z"⟩
abbrev cX8_compare : ByteArray := prog_10_method_55_code
def yX8_compare : MethodName := ⟨RX8, "compare", "(II)I"⟩
abbrev cX8_back : ByteArray := prog_10_method_56_code
def yX8_back : MethodName := ⟨RX8, "back", "()I"⟩
abbrev cX8_through : ByteArray := prog_10_method_57_code
def yX8_through : MethodName := ⟨RX8, "through", "(II)I"⟩
abbrev cX8_isInOrder : ByteArray := prog_10_method_58_code
def yX8_isInOrder : MethodName := ⟨RX8, "isInOrder", "(I)Z"⟩
abbrev cX8_isIdle : ByteArray := prog_10_method_59_code
def yX8_isIdle : MethodName := ⟨RX8, "isIdle", "(I)Z"⟩
abbrev cX8_step : ByteArray := prog_10_method_60_code
def yX8_step : MethodName := ⟨RX8, "step", "(I)I"⟩
abbrev cX8_sorter : ByteArray := prog_10_method_61_code
def yX8_sorter : MethodName := ⟨RX8, "sorter", "(I)I"⟩
abbrev cX8_isComparer : ByteArray := prog_10_method_62_code
def yX8_isComparer : MethodName := ⟨RX8, "isComparer", "(I)Z"⟩
abbrev cX8_kindOf : ByteArray := prog_10_method_63_code
def yX8_kindOf : MethodName := ⟨RX8, "kindOf", "(I)I"⟩
abbrev cX8_comparer : ByteArray := prog_10_method_64_code
def yX8_comparer : MethodName := ⟨RX8, "comparer", "(II)I"⟩
abbrev cX8_sort : ByteArray := prog_10_method_65_code
def yX8_sort : MethodName := ⟨RX8, "sort", "(III)I"⟩
abbrev cX8_bar : ByteArray := prog_10_method_66_code
def yX8_bar : MethodName := ⟨RX8, "bar", "(I)I"⟩
abbrev cX8_isPort : ByteArray := prog_10_method_67_code
def yX8_isPort : MethodName := ⟨RX8, "isPort", "(I)Z"⟩
abbrev cX8_traffic : ByteArray := prog_10_method_68_code
def yX8_traffic : MethodName := ⟨RX8, "traffic", "(III)I"⟩
abbrev cX8_sumOf : ByteArray := prog_10_method_69_code
def yX8_sumOf : MethodName := ⟨RX8, "sumOf", "(ZI)I"⟩
abbrev cX8_spanLeft : ByteArray := prog_10_method_70_code
def yX8_spanLeft : MethodName := ⟨RX8, "spanLeft", "()I"⟩
abbrev cX8_layLeft : ByteArray := prog_10_method_71_code
def yX8_layLeft : MethodName := ⟨RX8, "layLeft", "()V"⟩
abbrev cX8_span : ByteArray := prog_10_method_72_code
def yX8_span : MethodName := ⟨RX8, "span", "()I"⟩
abbrev cX8_isFree : ByteArray := prog_10_method_73_code
def yX8_isFree : MethodName := ⟨RX8, "isFree", "(I)Z"⟩
abbrev cX8_isTight : ByteArray := prog_10_method_74_code
def yX8_isTight : MethodName := ⟨RX8, "isTight", "(I)Z"⟩
abbrev cX8_goOn : ByteArray := prog_10_method_75_code
def yX8_goOn : MethodName := ⟨RX8, "goOn", "([I)Z"⟩
abbrev cX8_begin : ByteArray := prog_10_method_76_code
def yX8_begin : MethodName := ⟨RX8, "begin", "()V"⟩
abbrev cX8_takeRound : ByteArray := prog_10_method_77_code
def yX8_takeRound : MethodName := ⟨RX8, "takeRound", "()V"⟩
abbrev cX8_parted : ByteArray := prog_10_method_78_code
def yX8_parted : MethodName := ⟨RX8, "parted", "(II)I"⟩
abbrev cX8_changes : ByteArray := prog_10_method_79_code
def yX8_changes : MethodName := ⟨RX8, "changes", "()I"⟩
abbrev cX8_matchGreatest : ByteArray := prog_10_method_80_code
def yX8_matchGreatest : MethodName := ⟨RX8, "matchGreatest", "()V"⟩
abbrev cX8_isMatched : ByteArray := prog_10_method_81_code
def yX8_isMatched : MethodName := ⟨RX8, "isMatched", "(I)Z"⟩
abbrev cX8_takenBy : ByteArray := prog_10_method_82_code
def yX8_takenBy : MethodName := ⟨RX8, "takenBy", "(I)I"⟩
abbrev cX8_matchByTurns : ByteArray := prog_10_method_83_code
def yX8_matchByTurns : MethodName := ⟨RX8, "matchByTurns", "()V"⟩
abbrev cX8_matchCrosswise : ByteArray := prog_10_method_84_code
def yX8_matchCrosswise : MethodName := ⟨RX8, "matchCrosswise", "()V"⟩
abbrev cX8_slot : ByteArray := prog_10_method_85_code
def yX8_slot : MethodName := ⟨RX8, "slot", "(IIII)I"⟩
abbrev cX8_queue : ByteArray := prog_10_method_86_code
def yX8_queue : MethodName := ⟨RX8, "queue", "(III)I"⟩
abbrev cX8_waiting : ByteArray := prog_10_method_87_code
def yX8_waiting : MethodName := ⟨RX8, "waiting", "()I"⟩
abbrev cX8_lost : ByteArray := prog_10_method_88_code
def yX8_lost : MethodName := ⟨RX8, "lost", "(III)J"⟩
abbrev cX8_sheet : ByteArray := prog_10_method_89_code
def yX8_sheet : MethodName := ⟨RX8, "sheet", "(III)I"⟩
abbrev cX8_lose : ByteArray := prog_10_method_90_code
def yX8_lose : MethodName := ⟨RX8, "lose", "(I)I"⟩
abbrev cX8_put : ByteArray := prog_10_method_91_code
def yX8_put : MethodName := ⟨RX8, "put", "(III)I"⟩
abbrev cX8_cell : ByteArray := prog_10_method_92_code
def yX8_cell : MethodName := ⟨RX8, "cell", "(III)J"⟩
abbrev cX8_begins : ByteArray := prog_10_method_93_code
def yX8_begins : MethodName := ⟨RX8, "begins", "(I)V"⟩
abbrev cX8_tell : ByteArray := prog_10_method_94_code
def yX8_tell : MethodName := ⟨RX8, "tell", "(I)I"⟩
abbrev cX8_show : ByteArray := prog_10_method_95_code
def yX8_show : MethodName := ⟨RX8, "show", "(I)I"⟩
abbrev cX8_as : ByteArray := prog_10_method_96_code
def yX8_as : MethodName := ⟨RX8, "as", "(II)I"⟩
abbrev cX8_trace : ByteArray := prog_10_method_97_code
def yX8_trace : MethodName := ⟨RX8, "trace", "()I"⟩
abbrev cX8_fault : ByteArray := prog_10_method_98_code
def yX8_fault : MethodName := ⟨RX8, "fault", "()I"⟩
abbrev cX8_many : ByteArray := prog_10_method_99_code
def yX8_many : MethodName := ⟨RX8, "many", "(I)I"⟩
def RJ13 : String := "java/lang/Long"
def TJ13 : u_T := fun k => match k with
  | _ => ("", "", "", false)
def tyJ13 : Nat → FieldType := fun k => match k with
  | _ => .int
theorem nmJ13 : ∀ a, a < 0 → ∀ b, b < 0 → a ≠ b → (TJ13 a).2.1 ≠ (TJ13 b).2.1 := by decide +kernel
theorem tyJ13_ok : ∀ k, k < 0 → parseFieldDescriptor (TJ13 k).2.2.1 = some (tyJ13 k) := by decide +kernel
abbrev cJ13_bitCount_95d88 : ByteArray := prog_11_method_50_code
def yJ13_bitCount_95d88 : MethodName := ⟨RJ13, "bitCount", "(J)I"⟩
def RJ9 : String := "java/lang/Math"
def TJ9 : u_T := fun k => match k with
  | _ => ("", "", "", false)
def tyJ9 : Nat → FieldType := fun k => match k with
  | _ => .int
theorem nmJ9 : ∀ a, a < 0 → ∀ b, b < 0 → a ≠ b → (TJ9 a).2.1 ≠ (TJ9 b).2.1 := by decide +kernel
theorem tyJ9_ok : ∀ k, k < 0 → parseFieldDescriptor (TJ9 k).2.2.1 = some (tyJ9 k) := by decide +kernel
abbrev cJ9_max_7cf53 : ByteArray := prog_12_method_65_code
def yJ9_max_7cf53 : MethodName := ⟨RJ9, "max", "(II)I"⟩
abbrev cJ9_min_7cf53 : ByteArray := prog_12_method_69_code
def yJ9_min_7cf53 : MethodName := ⟨RJ9, "min", "(II)I"⟩
def RJ10 : String := "java/lang/System"
def TJ10 : u_T := fun k => match k with
  | _ => ("", "", "", false)
def tyJ10 : Nat → FieldType := fun k => match k with
  | _ => .int
theorem nmJ10 : ∀ a, a < 0 → ∀ b, b < 0 → a ≠ b → (TJ10 a).2.1 ≠ (TJ10 b).2.1 := by decide +kernel
theorem tyJ10_ok : ∀ k, k < 0 → parseFieldDescriptor (TJ10 k).2.2.1 = some (tyJ10 k) := by decide +kernel
def RJ7 : String := "java/util/Arrays"
def TJ7 : u_T := fun k => match k with
  | _ => ("", "", "", false)
def tyJ7 : Nat → FieldType := fun k => match k with
  | _ => .int
theorem nmJ7 : ∀ a, a < 0 → ∀ b, b < 0 → a ≠ b → (TJ7 a).2.1 ≠ (TJ7 b).2.1 := by decide +kernel
theorem tyJ7_ok : ∀ k, k < 0 → parseFieldDescriptor (TJ7 k).2.2.1 = some (tyJ7 k) := by decide +kernel
abbrev cJ7_fill_53178 : ByteArray := prog_14_method_103_code
def yJ7_fill_53178 : MethodName := ⟨RJ7, "fill", "([II)V"⟩
def RL : String := "CallStagesLaw"
abbrev cL_law : ByteArray := code
def yL_law : MethodName := ⟨RL, "law", "([I)Z"⟩
abbrev vwCl : List vw_C := [(RX0, TX0, 10), (RX1, TX1, 3), (RX2, TX2, 4), (RX3, TX3, 11), (RX4, TX4, 8), (RX5, TX5, 3), (RX6, TX6, 13), (RX7, TX7, 9), (RX8, TX8, 41)]
end
section
theorem dJ13_bitCount_95d88_0 : decode cJ13_bitCount_95d88 0 = .ok (.lload_n 0, 1) := by decide +kernel
theorem dJ13_bitCount_95d88_1 : decode cJ13_bitCount_95d88 1 = .ok (.lload_n 0, 1) := by decide +kernel
theorem dJ13_bitCount_95d88_2 : decode cJ13_bitCount_95d88 2 = .ok (.iconst 1, 1) := by decide +kernel
theorem dJ13_bitCount_95d88_3 : decode cJ13_bitCount_95d88 3 = .ok (.lushr, 1) := by decide +kernel
theorem dJ13_bitCount_95d88_4 : decode cJ13_bitCount_95d88 4 = .ok (.ldc2_w 314, 3) := by decide +kernel
theorem dJ13_bitCount_95d88_7 : decode cJ13_bitCount_95d88 7 = .ok (.land, 1) := by decide +kernel
theorem dJ13_bitCount_95d88_8 : decode cJ13_bitCount_95d88 8 = .ok (.lsub, 1) := by decide +kernel
theorem dJ13_bitCount_95d88_9 : decode cJ13_bitCount_95d88 9 = .ok (.lstore_n 0, 1) := by decide +kernel
theorem dJ13_bitCount_95d88_10 : decode cJ13_bitCount_95d88 10 = .ok (.lload_n 0, 1) := by decide +kernel
theorem dJ13_bitCount_95d88_11 : decode cJ13_bitCount_95d88 11 = .ok (.ldc2_w 316, 3) := by decide +kernel
theorem dJ13_bitCount_95d88_14 : decode cJ13_bitCount_95d88 14 = .ok (.land, 1) := by decide +kernel
theorem dJ13_bitCount_95d88_15 : decode cJ13_bitCount_95d88 15 = .ok (.lload_n 0, 1) := by decide +kernel
theorem dJ13_bitCount_95d88_16 : decode cJ13_bitCount_95d88 16 = .ok (.iconst 2, 1) := by decide +kernel
theorem dJ13_bitCount_95d88_17 : decode cJ13_bitCount_95d88 17 = .ok (.lushr, 1) := by decide +kernel
theorem dJ13_bitCount_95d88_18 : decode cJ13_bitCount_95d88 18 = .ok (.ldc2_w 316, 3) := by decide +kernel
theorem dJ13_bitCount_95d88_21 : decode cJ13_bitCount_95d88 21 = .ok (.land, 1) := by decide +kernel
theorem dJ13_bitCount_95d88_22 : decode cJ13_bitCount_95d88 22 = .ok (.ladd, 1) := by decide +kernel
theorem dJ13_bitCount_95d88_23 : decode cJ13_bitCount_95d88 23 = .ok (.lstore_n 0, 1) := by decide +kernel
theorem dJ13_bitCount_95d88_24 : decode cJ13_bitCount_95d88 24 = .ok (.lload_n 0, 1) := by decide +kernel
theorem dJ13_bitCount_95d88_25 : decode cJ13_bitCount_95d88 25 = .ok (.lload_n 0, 1) := by decide +kernel
theorem dJ13_bitCount_95d88_26 : decode cJ13_bitCount_95d88 26 = .ok (.iconst 4, 1) := by decide +kernel
theorem dJ13_bitCount_95d88_27 : decode cJ13_bitCount_95d88 27 = .ok (.lushr, 1) := by decide +kernel
theorem dJ13_bitCount_95d88_28 : decode cJ13_bitCount_95d88 28 = .ok (.ladd, 1) := by decide +kernel
theorem dJ13_bitCount_95d88_29 : decode cJ13_bitCount_95d88 29 = .ok (.ldc2_w 318, 3) := by decide +kernel
theorem dJ13_bitCount_95d88_32 : decode cJ13_bitCount_95d88 32 = .ok (.land, 1) := by decide +kernel
theorem dJ13_bitCount_95d88_33 : decode cJ13_bitCount_95d88 33 = .ok (.lstore_n 0, 1) := by decide +kernel
theorem dJ13_bitCount_95d88_34 : decode cJ13_bitCount_95d88 34 = .ok (.lload_n 0, 1) := by decide +kernel
theorem dJ13_bitCount_95d88_35 : decode cJ13_bitCount_95d88 35 = .ok (.lload_n 0, 1) := by decide +kernel
theorem dJ13_bitCount_95d88_36 : decode cJ13_bitCount_95d88 36 = .ok (.bipush 8, 2) := by decide +kernel
theorem dJ13_bitCount_95d88_38 : decode cJ13_bitCount_95d88 38 = .ok (.lushr, 1) := by decide +kernel
theorem dJ13_bitCount_95d88_39 : decode cJ13_bitCount_95d88 39 = .ok (.ladd, 1) := by decide +kernel
theorem dJ13_bitCount_95d88_40 : decode cJ13_bitCount_95d88 40 = .ok (.lstore_n 0, 1) := by decide +kernel
theorem dJ13_bitCount_95d88_41 : decode cJ13_bitCount_95d88 41 = .ok (.lload_n 0, 1) := by decide +kernel
theorem dJ13_bitCount_95d88_42 : decode cJ13_bitCount_95d88 42 = .ok (.lload_n 0, 1) := by decide +kernel
theorem dJ13_bitCount_95d88_43 : decode cJ13_bitCount_95d88 43 = .ok (.bipush 16, 2) := by decide +kernel
theorem dJ13_bitCount_95d88_45 : decode cJ13_bitCount_95d88 45 = .ok (.lushr, 1) := by decide +kernel
theorem dJ13_bitCount_95d88_46 : decode cJ13_bitCount_95d88 46 = .ok (.ladd, 1) := by decide +kernel
theorem dJ13_bitCount_95d88_47 : decode cJ13_bitCount_95d88 47 = .ok (.lstore_n 0, 1) := by decide +kernel
theorem dJ13_bitCount_95d88_48 : decode cJ13_bitCount_95d88 48 = .ok (.lload_n 0, 1) := by decide +kernel
theorem dJ13_bitCount_95d88_49 : decode cJ13_bitCount_95d88 49 = .ok (.lload_n 0, 1) := by decide +kernel
theorem dJ13_bitCount_95d88_50 : decode cJ13_bitCount_95d88 50 = .ok (.bipush 32, 2) := by decide +kernel
theorem dJ13_bitCount_95d88_52 : decode cJ13_bitCount_95d88 52 = .ok (.lushr, 1) := by decide +kernel
theorem dJ13_bitCount_95d88_53 : decode cJ13_bitCount_95d88 53 = .ok (.ladd, 1) := by decide +kernel
theorem dJ13_bitCount_95d88_54 : decode cJ13_bitCount_95d88 54 = .ok (.lstore_n 0, 1) := by decide +kernel
theorem dJ13_bitCount_95d88_55 : decode cJ13_bitCount_95d88 55 = .ok (.lload_n 0, 1) := by decide +kernel
theorem dJ13_bitCount_95d88_56 : decode cJ13_bitCount_95d88 56 = .ok (.l2i, 1) := by decide +kernel
theorem dJ13_bitCount_95d88_57 : decode cJ13_bitCount_95d88 57 = .ok (.bipush 127, 2) := by decide +kernel
theorem dJ13_bitCount_95d88_59 : decode cJ13_bitCount_95d88 59 = .ok (.iand, 1) := by decide +kernel
theorem dJ13_bitCount_95d88_60 : decode cJ13_bitCount_95d88 60 = .ok (.ireturn, 1) := by decide +kernel
theorem dJ7_fill_53178_0 : decode cJ7_fill_53178 0 = .ok (.iconst 0, 1) := by decide +kernel
theorem dJ7_fill_53178_1 : decode cJ7_fill_53178 1 = .ok (.istore_n 2, 1) := by decide +kernel
theorem dJ7_fill_53178_2 : decode cJ7_fill_53178 2 = .ok (.aload_n 0, 1) := by decide +kernel
theorem dJ7_fill_53178_3 : decode cJ7_fill_53178 3 = .ok (.arraylength, 1) := by decide +kernel
theorem dJ7_fill_53178_4 : decode cJ7_fill_53178 4 = .ok (.istore_n 3, 1) := by decide +kernel
theorem dJ7_fill_53178_5 : decode cJ7_fill_53178 5 = .ok (.iload_n 2, 1) := by decide +kernel
theorem dJ7_fill_53178_6 : decode cJ7_fill_53178 6 = .ok (.iload_n 3, 1) := by decide +kernel
theorem dJ7_fill_53178_7 : decode cJ7_fill_53178 7 = .ok (.if_icmp .ge 13, 3) := by decide +kernel
theorem dJ7_fill_53178_10 : decode cJ7_fill_53178 10 = .ok (.aload_n 0, 1) := by decide +kernel
theorem dJ7_fill_53178_11 : decode cJ7_fill_53178 11 = .ok (.iload_n 2, 1) := by decide +kernel
theorem dJ7_fill_53178_12 : decode cJ7_fill_53178 12 = .ok (.iload_n 1, 1) := by decide +kernel
theorem dJ7_fill_53178_13 : decode cJ7_fill_53178 13 = .ok (.iastore, 1) := by decide +kernel
theorem dJ7_fill_53178_14 : decode cJ7_fill_53178 14 = .ok (.iinc 2 1, 3) := by decide +kernel
theorem dJ7_fill_53178_17 : decode cJ7_fill_53178 17 = .ok (.goto (-12), 3) := by decide +kernel
theorem dJ7_fill_53178_20 : decode cJ7_fill_53178 20 = .ok (.return_, 1) := by decide +kernel
theorem dJ9_max_7cf53_0 : decode cJ9_max_7cf53 0 = .ok (.iload_n 0, 1) := by decide +kernel
theorem dJ9_max_7cf53_1 : decode cJ9_max_7cf53 1 = .ok (.iload_n 1, 1) := by decide +kernel
theorem dJ9_max_7cf53_2 : decode cJ9_max_7cf53 2 = .ok (.if_icmp .lt 7, 3) := by decide +kernel
theorem dJ9_max_7cf53_5 : decode cJ9_max_7cf53 5 = .ok (.iload_n 0, 1) := by decide +kernel
theorem dJ9_max_7cf53_6 : decode cJ9_max_7cf53 6 = .ok (.goto 4, 3) := by decide +kernel
theorem dJ9_max_7cf53_9 : decode cJ9_max_7cf53 9 = .ok (.iload_n 1, 1) := by decide +kernel
theorem dJ9_max_7cf53_10 : decode cJ9_max_7cf53 10 = .ok (.ireturn, 1) := by decide +kernel
theorem dJ9_min_7cf53_0 : decode cJ9_min_7cf53 0 = .ok (.iload_n 0, 1) := by decide +kernel
theorem dJ9_min_7cf53_1 : decode cJ9_min_7cf53 1 = .ok (.iload_n 1, 1) := by decide +kernel
theorem dJ9_min_7cf53_2 : decode cJ9_min_7cf53 2 = .ok (.if_icmp .gt 7, 3) := by decide +kernel
theorem dJ9_min_7cf53_5 : decode cJ9_min_7cf53 5 = .ok (.iload_n 0, 1) := by decide +kernel
theorem dJ9_min_7cf53_6 : decode cJ9_min_7cf53 6 = .ok (.goto 4, 3) := by decide +kernel
theorem dJ9_min_7cf53_9 : decode cJ9_min_7cf53 9 = .ok (.iload_n 1, 1) := by decide +kernel
theorem dJ9_min_7cf53_10 : decode cJ9_min_7cf53 10 = .ok (.ireturn, 1) := by decide +kernel
theorem dL_law_0 : decode cL_law 0 = .ok (.new 7, 3) := by decide +kernel
theorem dL_law_3 : decode cL_law 3 = .ok (.dup, 1) := by decide +kernel
theorem dL_law_4 : decode cL_law 4 = .ok (.invokespecial 9, 3) := by decide +kernel
theorem dL_law_7 : decode cL_law 7 = .ok (.astore_n 1, 1) := by decide +kernel
theorem dL_law_8 : decode cL_law 8 = .ok (.new 10, 3) := by decide +kernel
theorem dL_law_11 : decode cL_law 11 = .ok (.dup, 1) := by decide +kernel
theorem dL_law_12 : decode cL_law 12 = .ok (.invokespecial 12, 3) := by decide +kernel
theorem dL_law_15 : decode cL_law 15 = .ok (.astore_n 2, 1) := by decide +kernel
theorem dL_law_16 : decode cL_law 16 = .ok (.iconst 0, 1) := by decide +kernel
theorem dL_law_17 : decode cL_law 17 = .ok (.istore_n 3, 1) := by decide +kernel
theorem dL_law_18 : decode cL_law 18 = .ok (.iload_n 3, 1) := by decide +kernel
theorem dL_law_19 : decode cL_law 19 = .ok (.aload_n 0, 1) := by decide +kernel
theorem dL_law_20 : decode cL_law 20 = .ok (.arraylength, 1) := by decide +kernel
theorem dL_law_21 : decode cL_law 21 = .ok (.iconst 5, 1) := by decide +kernel
theorem dL_law_22 : decode cL_law 22 = .ok (.isub, 1) := by decide +kernel
theorem dL_law_23 : decode cL_law 23 = .ok (.if_icmp .gt 1466, 3) := by decide +kernel
theorem dL_law_26 : decode cL_law 26 = .ok (.aload_n 0, 1) := by decide +kernel
theorem dL_law_27 : decode cL_law 27 = .ok (.iload_n 3, 1) := by decide +kernel
theorem dL_law_28 : decode cL_law 28 = .ok (.iaload, 1) := by decide +kernel
theorem dL_law_29 : decode cL_law 29 = .ok (.bipush 63, 2) := by decide +kernel
theorem dL_law_31 : decode cL_law 31 = .ok (.iand, 1) := by decide +kernel
theorem dL_law_32 : decode cL_law 32 = .ok (.tableswitch 1451 0 42 #[188, 231, 254, 287, 320, 353, 376, 389, 422, 455, 508, 531, 545, 559, 622, 655, 688, 701, 724, 747, 780, 793, 816, 849, 892, 915, 958, 971, 1004, 1017, 1070, 1113, 1126, 1170, 1213, 1236, 1279, 1323, 1346, 1369, 1402, 1415, 1428], 188) := by decide +kernel
theorem dL_law_220 : decode cL_law 220 = .ok (.aload_n 1, 1) := by decide +kernel
theorem dL_law_221 : decode cL_law 221 = .ok (.aload_n 0, 1) := by decide +kernel
theorem dL_law_222 : decode cL_law 222 = .ok (.iload_n 3, 1) := by decide +kernel
theorem dL_law_223 : decode cL_law 223 = .ok (.iconst 1, 1) := by decide +kernel
theorem dL_law_224 : decode cL_law 224 = .ok (.iadd, 1) := by decide +kernel
theorem dL_law_225 : decode cL_law 225 = .ok (.iaload, 1) := by decide +kernel
theorem dL_law_226 : decode cL_law 226 = .ok (.aload_n 0, 1) := by decide +kernel
theorem dL_law_227 : decode cL_law 227 = .ok (.iload_n 3, 1) := by decide +kernel
theorem dL_law_228 : decode cL_law 228 = .ok (.iconst 2, 1) := by decide +kernel
theorem dL_law_229 : decode cL_law 229 = .ok (.iadd, 1) := by decide +kernel
theorem dL_law_230 : decode cL_law 230 = .ok (.iaload, 1) := by decide +kernel
theorem dL_law_231 : decode cL_law 231 = .ok (.aload_n 0, 1) := by decide +kernel
theorem dL_law_232 : decode cL_law 232 = .ok (.iload_n 3, 1) := by decide +kernel
theorem dL_law_233 : decode cL_law 233 = .ok (.iconst 3, 1) := by decide +kernel
theorem dL_law_234 : decode cL_law 234 = .ok (.iadd, 1) := by decide +kernel
theorem dL_law_235 : decode cL_law 235 = .ok (.iaload, 1) := by decide +kernel
theorem dL_law_236 : decode cL_law 236 = .ok (.invokevirtual 13, 3) := by decide +kernel
theorem dL_law_239 : decode cL_law 239 = .ok (.aload_n 2, 1) := by decide +kernel
theorem dL_law_240 : decode cL_law 240 = .ok (.aload_n 0, 1) := by decide +kernel
theorem dL_law_241 : decode cL_law 241 = .ok (.iload_n 3, 1) := by decide +kernel
theorem dL_law_242 : decode cL_law 242 = .ok (.iconst 1, 1) := by decide +kernel
theorem dL_law_243 : decode cL_law 243 = .ok (.iadd, 1) := by decide +kernel
theorem dL_law_244 : decode cL_law 244 = .ok (.iaload, 1) := by decide +kernel
theorem dL_law_245 : decode cL_law 245 = .ok (.aload_n 0, 1) := by decide +kernel
theorem dL_law_246 : decode cL_law 246 = .ok (.iload_n 3, 1) := by decide +kernel
theorem dL_law_247 : decode cL_law 247 = .ok (.iconst 2, 1) := by decide +kernel
theorem dL_law_248 : decode cL_law 248 = .ok (.iadd, 1) := by decide +kernel
theorem dL_law_249 : decode cL_law 249 = .ok (.iaload, 1) := by decide +kernel
theorem dL_law_250 : decode cL_law 250 = .ok (.aload_n 0, 1) := by decide +kernel
theorem dL_law_251 : decode cL_law 251 = .ok (.iload_n 3, 1) := by decide +kernel
theorem dL_law_252 : decode cL_law 252 = .ok (.iconst 3, 1) := by decide +kernel
theorem dL_law_253 : decode cL_law 253 = .ok (.iadd, 1) := by decide +kernel
theorem dL_law_254 : decode cL_law 254 = .ok (.iaload, 1) := by decide +kernel
theorem dL_law_255 : decode cL_law 255 = .ok (.invokevirtual 17, 3) := by decide +kernel
theorem dL_law_258 : decode cL_law 258 = .ok (.if_icmp .eq 1225, 3) := by decide +kernel
theorem dL_law_261 : decode cL_law 261 = .ok (.iconst 0, 1) := by decide +kernel
theorem dL_law_262 : decode cL_law 262 = .ok (.ireturn, 1) := by decide +kernel
theorem dL_law_263 : decode cL_law 263 = .ok (.aload_n 1, 1) := by decide +kernel
theorem dL_law_264 : decode cL_law 264 = .ok (.aload_n 0, 1) := by decide +kernel
theorem dL_law_265 : decode cL_law 265 = .ok (.iload_n 3, 1) := by decide +kernel
theorem dL_law_266 : decode cL_law 266 = .ok (.iconst 1, 1) := by decide +kernel
theorem dL_law_267 : decode cL_law 267 = .ok (.iadd, 1) := by decide +kernel
theorem dL_law_268 : decode cL_law 268 = .ok (.iaload, 1) := by decide +kernel
theorem dL_law_269 : decode cL_law 269 = .ok (.invokevirtual 18, 3) := by decide +kernel
theorem dL_law_272 : decode cL_law 272 = .ok (.aload_n 2, 1) := by decide +kernel
theorem dL_law_273 : decode cL_law 273 = .ok (.aload_n 0, 1) := by decide +kernel
theorem dL_law_274 : decode cL_law 274 = .ok (.iload_n 3, 1) := by decide +kernel
theorem dL_law_275 : decode cL_law 275 = .ok (.iconst 1, 1) := by decide +kernel
theorem dL_law_276 : decode cL_law 276 = .ok (.iadd, 1) := by decide +kernel
theorem dL_law_277 : decode cL_law 277 = .ok (.iaload, 1) := by decide +kernel
theorem dL_law_278 : decode cL_law 278 = .ok (.invokevirtual 22, 3) := by decide +kernel
theorem dL_law_281 : decode cL_law 281 = .ok (.if_icmp .eq 1202, 3) := by decide +kernel
theorem dL_law_284 : decode cL_law 284 = .ok (.iconst 0, 1) := by decide +kernel
theorem dL_law_285 : decode cL_law 285 = .ok (.ireturn, 1) := by decide +kernel
theorem dL_law_286 : decode cL_law 286 = .ok (.aload_n 1, 1) := by decide +kernel
theorem dL_law_287 : decode cL_law 287 = .ok (.aload_n 0, 1) := by decide +kernel
theorem dL_law_288 : decode cL_law 288 = .ok (.iload_n 3, 1) := by decide +kernel
theorem dL_law_289 : decode cL_law 289 = .ok (.iconst 1, 1) := by decide +kernel
theorem dL_law_290 : decode cL_law 290 = .ok (.iadd, 1) := by decide +kernel
theorem dL_law_291 : decode cL_law 291 = .ok (.iaload, 1) := by decide +kernel
theorem dL_law_292 : decode cL_law 292 = .ok (.aload_n 0, 1) := by decide +kernel
theorem dL_law_293 : decode cL_law 293 = .ok (.iload_n 3, 1) := by decide +kernel
theorem dL_law_294 : decode cL_law 294 = .ok (.iconst 2, 1) := by decide +kernel
theorem dL_law_295 : decode cL_law 295 = .ok (.iadd, 1) := by decide +kernel
theorem dL_law_296 : decode cL_law 296 = .ok (.iaload, 1) := by decide +kernel
theorem dL_law_297 : decode cL_law 297 = .ok (.invokevirtual 23, 3) := by decide +kernel
theorem dL_law_300 : decode cL_law 300 = .ok (.aload_n 2, 1) := by decide +kernel
theorem dL_law_301 : decode cL_law 301 = .ok (.aload_n 0, 1) := by decide +kernel
theorem dL_law_302 : decode cL_law 302 = .ok (.iload_n 3, 1) := by decide +kernel
theorem dL_law_303 : decode cL_law 303 = .ok (.iconst 1, 1) := by decide +kernel
theorem dL_law_304 : decode cL_law 304 = .ok (.iadd, 1) := by decide +kernel
theorem dL_law_305 : decode cL_law 305 = .ok (.iaload, 1) := by decide +kernel
theorem dL_law_306 : decode cL_law 306 = .ok (.aload_n 0, 1) := by decide +kernel
theorem dL_law_307 : decode cL_law 307 = .ok (.iload_n 3, 1) := by decide +kernel
theorem dL_law_308 : decode cL_law 308 = .ok (.iconst 2, 1) := by decide +kernel
theorem dL_law_309 : decode cL_law 309 = .ok (.iadd, 1) := by decide +kernel
theorem dL_law_310 : decode cL_law 310 = .ok (.iaload, 1) := by decide +kernel
theorem dL_law_311 : decode cL_law 311 = .ok (.invokevirtual 27, 3) := by decide +kernel
theorem dL_law_314 : decode cL_law 314 = .ok (.if_icmp .eq 1169, 3) := by decide +kernel
theorem dL_law_317 : decode cL_law 317 = .ok (.iconst 0, 1) := by decide +kernel
theorem dL_law_318 : decode cL_law 318 = .ok (.ireturn, 1) := by decide +kernel
theorem dL_law_319 : decode cL_law 319 = .ok (.aload_n 1, 1) := by decide +kernel
theorem dL_law_320 : decode cL_law 320 = .ok (.aload_n 0, 1) := by decide +kernel
theorem dL_law_321 : decode cL_law 321 = .ok (.iload_n 3, 1) := by decide +kernel
theorem dL_law_322 : decode cL_law 322 = .ok (.iconst 1, 1) := by decide +kernel
theorem dL_law_323 : decode cL_law 323 = .ok (.iadd, 1) := by decide +kernel
theorem dL_law_324 : decode cL_law 324 = .ok (.iaload, 1) := by decide +kernel
theorem dL_law_325 : decode cL_law 325 = .ok (.aload_n 0, 1) := by decide +kernel
theorem dL_law_326 : decode cL_law 326 = .ok (.iload_n 3, 1) := by decide +kernel
theorem dL_law_327 : decode cL_law 327 = .ok (.iconst 2, 1) := by decide +kernel
theorem dL_law_328 : decode cL_law 328 = .ok (.iadd, 1) := by decide +kernel
theorem dL_law_329 : decode cL_law 329 = .ok (.iaload, 1) := by decide +kernel
theorem dL_law_330 : decode cL_law 330 = .ok (.invokevirtual 28, 3) := by decide +kernel
theorem dL_law_333 : decode cL_law 333 = .ok (.aload_n 2, 1) := by decide +kernel
theorem dL_law_334 : decode cL_law 334 = .ok (.aload_n 0, 1) := by decide +kernel
theorem dL_law_335 : decode cL_law 335 = .ok (.iload_n 3, 1) := by decide +kernel
theorem dL_law_336 : decode cL_law 336 = .ok (.iconst 1, 1) := by decide +kernel
theorem dL_law_337 : decode cL_law 337 = .ok (.iadd, 1) := by decide +kernel
theorem dL_law_338 : decode cL_law 338 = .ok (.iaload, 1) := by decide +kernel
theorem dL_law_339 : decode cL_law 339 = .ok (.aload_n 0, 1) := by decide +kernel
theorem dL_law_340 : decode cL_law 340 = .ok (.iload_n 3, 1) := by decide +kernel
theorem dL_law_341 : decode cL_law 341 = .ok (.iconst 2, 1) := by decide +kernel
theorem dL_law_342 : decode cL_law 342 = .ok (.iadd, 1) := by decide +kernel
theorem dL_law_343 : decode cL_law 343 = .ok (.iaload, 1) := by decide +kernel
theorem dL_law_344 : decode cL_law 344 = .ok (.invokevirtual 31, 3) := by decide +kernel
theorem dL_law_347 : decode cL_law 347 = .ok (.if_icmp .eq 1136, 3) := by decide +kernel
theorem dL_law_350 : decode cL_law 350 = .ok (.iconst 0, 1) := by decide +kernel
theorem dL_law_351 : decode cL_law 351 = .ok (.ireturn, 1) := by decide +kernel
theorem dL_law_352 : decode cL_law 352 = .ok (.aload_n 1, 1) := by decide +kernel
theorem dL_law_353 : decode cL_law 353 = .ok (.aload_n 0, 1) := by decide +kernel
theorem dL_law_354 : decode cL_law 354 = .ok (.iload_n 3, 1) := by decide +kernel
theorem dL_law_355 : decode cL_law 355 = .ok (.iconst 1, 1) := by decide +kernel
theorem dL_law_356 : decode cL_law 356 = .ok (.iadd, 1) := by decide +kernel
theorem dL_law_357 : decode cL_law 357 = .ok (.iaload, 1) := by decide +kernel
theorem dL_law_358 : decode cL_law 358 = .ok (.aload_n 0, 1) := by decide +kernel
theorem dL_law_359 : decode cL_law 359 = .ok (.iload_n 3, 1) := by decide +kernel
theorem dL_law_360 : decode cL_law 360 = .ok (.iconst 2, 1) := by decide +kernel
theorem dL_law_361 : decode cL_law 361 = .ok (.iadd, 1) := by decide +kernel
theorem dL_law_362 : decode cL_law 362 = .ok (.iaload, 1) := by decide +kernel
theorem dL_law_363 : decode cL_law 363 = .ok (.invokevirtual 32, 3) := by decide +kernel
theorem dL_law_366 : decode cL_law 366 = .ok (.aload_n 2, 1) := by decide +kernel
theorem dL_law_367 : decode cL_law 367 = .ok (.aload_n 0, 1) := by decide +kernel
theorem dL_law_368 : decode cL_law 368 = .ok (.iload_n 3, 1) := by decide +kernel
theorem dL_law_369 : decode cL_law 369 = .ok (.iconst 1, 1) := by decide +kernel
theorem dL_law_370 : decode cL_law 370 = .ok (.iadd, 1) := by decide +kernel
theorem dL_law_371 : decode cL_law 371 = .ok (.iaload, 1) := by decide +kernel
theorem dL_law_372 : decode cL_law 372 = .ok (.aload_n 0, 1) := by decide +kernel
theorem dL_law_373 : decode cL_law 373 = .ok (.iload_n 3, 1) := by decide +kernel
theorem dL_law_374 : decode cL_law 374 = .ok (.iconst 2, 1) := by decide +kernel
theorem dL_law_375 : decode cL_law 375 = .ok (.iadd, 1) := by decide +kernel
theorem dL_law_376 : decode cL_law 376 = .ok (.iaload, 1) := by decide +kernel
theorem dL_law_377 : decode cL_law 377 = .ok (.invokevirtual 35, 3) := by decide +kernel
theorem dL_law_380 : decode cL_law 380 = .ok (.if_icmp .eq 1103, 3) := by decide +kernel
theorem dL_law_383 : decode cL_law 383 = .ok (.iconst 0, 1) := by decide +kernel
theorem dL_law_384 : decode cL_law 384 = .ok (.ireturn, 1) := by decide +kernel
theorem dL_law_385 : decode cL_law 385 = .ok (.aload_n 1, 1) := by decide +kernel
theorem dL_law_386 : decode cL_law 386 = .ok (.aload_n 0, 1) := by decide +kernel
theorem dL_law_387 : decode cL_law 387 = .ok (.iload_n 3, 1) := by decide +kernel
theorem dL_law_388 : decode cL_law 388 = .ok (.iconst 1, 1) := by decide +kernel
theorem dL_law_389 : decode cL_law 389 = .ok (.iadd, 1) := by decide +kernel
theorem dL_law_390 : decode cL_law 390 = .ok (.iaload, 1) := by decide +kernel
theorem dL_law_391 : decode cL_law 391 = .ok (.invokevirtual 36, 3) := by decide +kernel
theorem dL_law_394 : decode cL_law 394 = .ok (.aload_n 2, 1) := by decide +kernel
theorem dL_law_395 : decode cL_law 395 = .ok (.aload_n 0, 1) := by decide +kernel
theorem dL_law_396 : decode cL_law 396 = .ok (.iload_n 3, 1) := by decide +kernel
theorem dL_law_397 : decode cL_law 397 = .ok (.iconst 1, 1) := by decide +kernel
theorem dL_law_398 : decode cL_law 398 = .ok (.iadd, 1) := by decide +kernel
theorem dL_law_399 : decode cL_law 399 = .ok (.iaload, 1) := by decide +kernel
theorem dL_law_400 : decode cL_law 400 = .ok (.invokevirtual 39, 3) := by decide +kernel
theorem dL_law_403 : decode cL_law 403 = .ok (.if_icmp .eq 1080, 3) := by decide +kernel
theorem dL_law_406 : decode cL_law 406 = .ok (.iconst 0, 1) := by decide +kernel
theorem dL_law_407 : decode cL_law 407 = .ok (.ireturn, 1) := by decide +kernel
theorem dL_law_408 : decode cL_law 408 = .ok (.aload_n 1, 1) := by decide +kernel
theorem dL_law_409 : decode cL_law 409 = .ok (.invokevirtual 40, 3) := by decide +kernel
theorem dL_law_412 : decode cL_law 412 = .ok (.aload_n 2, 1) := by decide +kernel
theorem dL_law_413 : decode cL_law 413 = .ok (.invokevirtual 44, 3) := by decide +kernel
theorem dL_law_416 : decode cL_law 416 = .ok (.if_icmp .eq 1067, 3) := by decide +kernel
theorem dL_law_419 : decode cL_law 419 = .ok (.iconst 0, 1) := by decide +kernel
theorem dL_law_420 : decode cL_law 420 = .ok (.ireturn, 1) := by decide +kernel
theorem dL_law_421 : decode cL_law 421 = .ok (.aload_n 1, 1) := by decide +kernel
theorem dL_law_422 : decode cL_law 422 = .ok (.aload_n 0, 1) := by decide +kernel
theorem dL_law_423 : decode cL_law 423 = .ok (.iload_n 3, 1) := by decide +kernel
theorem dL_law_424 : decode cL_law 424 = .ok (.iconst 1, 1) := by decide +kernel
theorem dL_law_425 : decode cL_law 425 = .ok (.iadd, 1) := by decide +kernel
theorem dL_law_426 : decode cL_law 426 = .ok (.iaload, 1) := by decide +kernel
theorem dL_law_427 : decode cL_law 427 = .ok (.aload_n 0, 1) := by decide +kernel
theorem dL_law_428 : decode cL_law 428 = .ok (.iload_n 3, 1) := by decide +kernel
theorem dL_law_429 : decode cL_law 429 = .ok (.iconst 2, 1) := by decide +kernel
theorem dL_law_430 : decode cL_law 430 = .ok (.iadd, 1) := by decide +kernel
theorem dL_law_431 : decode cL_law 431 = .ok (.iaload, 1) := by decide +kernel
theorem dL_law_432 : decode cL_law 432 = .ok (.invokevirtual 45, 3) := by decide +kernel
theorem dL_law_435 : decode cL_law 435 = .ok (.aload_n 2, 1) := by decide +kernel
theorem dL_law_436 : decode cL_law 436 = .ok (.aload_n 0, 1) := by decide +kernel
theorem dL_law_437 : decode cL_law 437 = .ok (.iload_n 3, 1) := by decide +kernel
theorem dL_law_438 : decode cL_law 438 = .ok (.iconst 1, 1) := by decide +kernel
theorem dL_law_439 : decode cL_law 439 = .ok (.iadd, 1) := by decide +kernel
theorem dL_law_440 : decode cL_law 440 = .ok (.iaload, 1) := by decide +kernel
theorem dL_law_441 : decode cL_law 441 = .ok (.aload_n 0, 1) := by decide +kernel
theorem dL_law_442 : decode cL_law 442 = .ok (.iload_n 3, 1) := by decide +kernel
theorem dL_law_443 : decode cL_law 443 = .ok (.iconst 2, 1) := by decide +kernel
theorem dL_law_444 : decode cL_law 444 = .ok (.iadd, 1) := by decide +kernel
theorem dL_law_445 : decode cL_law 445 = .ok (.iaload, 1) := by decide +kernel
theorem dL_law_446 : decode cL_law 446 = .ok (.invokevirtual 48, 3) := by decide +kernel
theorem dL_law_449 : decode cL_law 449 = .ok (.if_icmp .eq 1034, 3) := by decide +kernel
theorem dL_law_452 : decode cL_law 452 = .ok (.iconst 0, 1) := by decide +kernel
theorem dL_law_453 : decode cL_law 453 = .ok (.ireturn, 1) := by decide +kernel
theorem dL_law_454 : decode cL_law 454 = .ok (.aload_n 1, 1) := by decide +kernel
theorem dL_law_455 : decode cL_law 455 = .ok (.aload_n 0, 1) := by decide +kernel
theorem dL_law_456 : decode cL_law 456 = .ok (.iload_n 3, 1) := by decide +kernel
theorem dL_law_457 : decode cL_law 457 = .ok (.iconst 1, 1) := by decide +kernel
theorem dL_law_458 : decode cL_law 458 = .ok (.iadd, 1) := by decide +kernel
theorem dL_law_459 : decode cL_law 459 = .ok (.iaload, 1) := by decide +kernel
theorem dL_law_460 : decode cL_law 460 = .ok (.aload_n 0, 1) := by decide +kernel
theorem dL_law_461 : decode cL_law 461 = .ok (.iload_n 3, 1) := by decide +kernel
theorem dL_law_462 : decode cL_law 462 = .ok (.iconst 2, 1) := by decide +kernel
theorem dL_law_463 : decode cL_law 463 = .ok (.iadd, 1) := by decide +kernel
theorem dL_law_464 : decode cL_law 464 = .ok (.iaload, 1) := by decide +kernel
theorem dL_law_465 : decode cL_law 465 = .ok (.invokevirtual 49, 3) := by decide +kernel
theorem dL_law_468 : decode cL_law 468 = .ok (.aload_n 2, 1) := by decide +kernel
theorem dL_law_469 : decode cL_law 469 = .ok (.aload_n 0, 1) := by decide +kernel
theorem dL_law_470 : decode cL_law 470 = .ok (.iload_n 3, 1) := by decide +kernel
theorem dL_law_471 : decode cL_law 471 = .ok (.iconst 1, 1) := by decide +kernel
theorem dL_law_472 : decode cL_law 472 = .ok (.iadd, 1) := by decide +kernel
theorem dL_law_473 : decode cL_law 473 = .ok (.iaload, 1) := by decide +kernel
theorem dL_law_474 : decode cL_law 474 = .ok (.aload_n 0, 1) := by decide +kernel
theorem dL_law_475 : decode cL_law 475 = .ok (.iload_n 3, 1) := by decide +kernel
theorem dL_law_476 : decode cL_law 476 = .ok (.iconst 2, 1) := by decide +kernel
theorem dL_law_477 : decode cL_law 477 = .ok (.iadd, 1) := by decide +kernel
theorem dL_law_478 : decode cL_law 478 = .ok (.iaload, 1) := by decide +kernel
theorem dL_law_479 : decode cL_law 479 = .ok (.invokevirtual 52, 3) := by decide +kernel
theorem dL_law_482 : decode cL_law 482 = .ok (.if_icmp .eq 1001, 3) := by decide +kernel
theorem dL_law_485 : decode cL_law 485 = .ok (.iconst 0, 1) := by decide +kernel
theorem dL_law_486 : decode cL_law 486 = .ok (.ireturn, 1) := by decide +kernel
theorem dL_law_487 : decode cL_law 487 = .ok (.aload_n 1, 1) := by decide +kernel
theorem dL_law_488 : decode cL_law 488 = .ok (.aload_n 0, 1) := by decide +kernel
theorem dL_law_489 : decode cL_law 489 = .ok (.iload_n 3, 1) := by decide +kernel
theorem dL_law_490 : decode cL_law 490 = .ok (.iconst 1, 1) := by decide +kernel
theorem dL_law_491 : decode cL_law 491 = .ok (.iadd, 1) := by decide +kernel
theorem dL_law_492 : decode cL_law 492 = .ok (.iaload, 1) := by decide +kernel
theorem dL_law_493 : decode cL_law 493 = .ok (.aload_n 0, 1) := by decide +kernel
theorem dL_law_494 : decode cL_law 494 = .ok (.iload_n 3, 1) := by decide +kernel
theorem dL_law_495 : decode cL_law 495 = .ok (.iconst 2, 1) := by decide +kernel
theorem dL_law_496 : decode cL_law 496 = .ok (.iadd, 1) := by decide +kernel
theorem dL_law_497 : decode cL_law 497 = .ok (.iaload, 1) := by decide +kernel
theorem dL_law_498 : decode cL_law 498 = .ok (.aload_n 0, 1) := by decide +kernel
theorem dL_law_499 : decode cL_law 499 = .ok (.iload_n 3, 1) := by decide +kernel
theorem dL_law_500 : decode cL_law 500 = .ok (.iconst 3, 1) := by decide +kernel
theorem dL_law_501 : decode cL_law 501 = .ok (.iadd, 1) := by decide +kernel
theorem dL_law_502 : decode cL_law 502 = .ok (.iaload, 1) := by decide +kernel
theorem dL_law_503 : decode cL_law 503 = .ok (.aload_n 0, 1) := by decide +kernel
theorem dL_law_504 : decode cL_law 504 = .ok (.iload_n 3, 1) := by decide +kernel
theorem dL_law_505 : decode cL_law 505 = .ok (.iconst 4, 1) := by decide +kernel
theorem dL_law_506 : decode cL_law 506 = .ok (.iadd, 1) := by decide +kernel
theorem dL_law_507 : decode cL_law 507 = .ok (.iaload, 1) := by decide +kernel
theorem dL_law_508 : decode cL_law 508 = .ok (.invokevirtual 53, 3) := by decide +kernel
theorem dL_law_511 : decode cL_law 511 = .ok (.aload_n 2, 1) := by decide +kernel
theorem dL_law_512 : decode cL_law 512 = .ok (.aload_n 0, 1) := by decide +kernel
theorem dL_law_513 : decode cL_law 513 = .ok (.iload_n 3, 1) := by decide +kernel
theorem dL_law_514 : decode cL_law 514 = .ok (.iconst 1, 1) := by decide +kernel
theorem dL_law_515 : decode cL_law 515 = .ok (.iadd, 1) := by decide +kernel
theorem dL_law_516 : decode cL_law 516 = .ok (.iaload, 1) := by decide +kernel
theorem dL_law_517 : decode cL_law 517 = .ok (.aload_n 0, 1) := by decide +kernel
theorem dL_law_518 : decode cL_law 518 = .ok (.iload_n 3, 1) := by decide +kernel
theorem dL_law_519 : decode cL_law 519 = .ok (.iconst 2, 1) := by decide +kernel
theorem dL_law_520 : decode cL_law 520 = .ok (.iadd, 1) := by decide +kernel
theorem dL_law_521 : decode cL_law 521 = .ok (.iaload, 1) := by decide +kernel
theorem dL_law_522 : decode cL_law 522 = .ok (.aload_n 0, 1) := by decide +kernel
theorem dL_law_523 : decode cL_law 523 = .ok (.iload_n 3, 1) := by decide +kernel
theorem dL_law_524 : decode cL_law 524 = .ok (.iconst 3, 1) := by decide +kernel
theorem dL_law_525 : decode cL_law 525 = .ok (.iadd, 1) := by decide +kernel
theorem dL_law_526 : decode cL_law 526 = .ok (.iaload, 1) := by decide +kernel
theorem dL_law_527 : decode cL_law 527 = .ok (.aload_n 0, 1) := by decide +kernel
theorem dL_law_528 : decode cL_law 528 = .ok (.iload_n 3, 1) := by decide +kernel
theorem dL_law_529 : decode cL_law 529 = .ok (.iconst 4, 1) := by decide +kernel
theorem dL_law_530 : decode cL_law 530 = .ok (.iadd, 1) := by decide +kernel
theorem dL_law_531 : decode cL_law 531 = .ok (.iaload, 1) := by decide +kernel
theorem dL_law_532 : decode cL_law 532 = .ok (.invokevirtual 57, 3) := by decide +kernel
theorem dL_law_535 : decode cL_law 535 = .ok (.if_icmp .eq 948, 3) := by decide +kernel
theorem dL_law_538 : decode cL_law 538 = .ok (.iconst 0, 1) := by decide +kernel
theorem dL_law_539 : decode cL_law 539 = .ok (.ireturn, 1) := by decide +kernel
theorem dL_law_540 : decode cL_law 540 = .ok (.aload_n 1, 1) := by decide +kernel
theorem dL_law_541 : decode cL_law 541 = .ok (.aload_n 0, 1) := by decide +kernel
theorem dL_law_542 : decode cL_law 542 = .ok (.iload_n 3, 1) := by decide +kernel
theorem dL_law_543 : decode cL_law 543 = .ok (.iconst 1, 1) := by decide +kernel
theorem dL_law_544 : decode cL_law 544 = .ok (.iadd, 1) := by decide +kernel
theorem dL_law_545 : decode cL_law 545 = .ok (.iaload, 1) := by decide +kernel
theorem dL_law_546 : decode cL_law 546 = .ok (.invokevirtual 58, 3) := by decide +kernel
theorem dL_law_549 : decode cL_law 549 = .ok (.aload_n 2, 1) := by decide +kernel
theorem dL_law_550 : decode cL_law 550 = .ok (.aload_n 0, 1) := by decide +kernel
theorem dL_law_551 : decode cL_law 551 = .ok (.iload_n 3, 1) := by decide +kernel
theorem dL_law_552 : decode cL_law 552 = .ok (.iconst 1, 1) := by decide +kernel
theorem dL_law_553 : decode cL_law 553 = .ok (.iadd, 1) := by decide +kernel
theorem dL_law_554 : decode cL_law 554 = .ok (.iaload, 1) := by decide +kernel
theorem dL_law_555 : decode cL_law 555 = .ok (.invokevirtual 61, 3) := by decide +kernel
theorem dL_law_558 : decode cL_law 558 = .ok (.if_icmp .eq 925, 3) := by decide +kernel
theorem dL_law_561 : decode cL_law 561 = .ok (.iconst 0, 1) := by decide +kernel
theorem dL_law_562 : decode cL_law 562 = .ok (.ireturn, 1) := by decide +kernel
theorem dL_law_563 : decode cL_law 563 = .ok (.aload_n 1, 1) := by decide +kernel
theorem dL_law_564 : decode cL_law 564 = .ok (.invokevirtual 62, 3) := by decide +kernel
theorem dL_law_567 : decode cL_law 567 = .ok (.aload_n 2, 1) := by decide +kernel
theorem dL_law_568 : decode cL_law 568 = .ok (.invokevirtual 66, 3) := by decide +kernel
theorem dL_law_571 : decode cL_law 571 = .ok (.lcmp, 1) := by decide +kernel
theorem dL_law_572 : decode cL_law 572 = .ok (.ifCond .eq 911, 3) := by decide +kernel
theorem dL_law_575 : decode cL_law 575 = .ok (.iconst 0, 1) := by decide +kernel
theorem dL_law_576 : decode cL_law 576 = .ok (.ireturn, 1) := by decide +kernel
theorem dL_law_577 : decode cL_law 577 = .ok (.aload_n 1, 1) := by decide +kernel
theorem dL_law_578 : decode cL_law 578 = .ok (.invokevirtual 67, 3) := by decide +kernel
theorem dL_law_581 : decode cL_law 581 = .ok (.aload_n 2, 1) := by decide +kernel
theorem dL_law_582 : decode cL_law 582 = .ok (.invokevirtual 70, 3) := by decide +kernel
theorem dL_law_585 : decode cL_law 585 = .ok (.lcmp, 1) := by decide +kernel
theorem dL_law_586 : decode cL_law 586 = .ok (.ifCond .eq 897, 3) := by decide +kernel
theorem dL_law_589 : decode cL_law 589 = .ok (.iconst 0, 1) := by decide +kernel
theorem dL_law_590 : decode cL_law 590 = .ok (.ireturn, 1) := by decide +kernel
theorem dL_law_591 : decode cL_law 591 = .ok (.aload_n 1, 1) := by decide +kernel
theorem dL_law_592 : decode cL_law 592 = .ok (.aload_n 0, 1) := by decide +kernel
theorem dL_law_593 : decode cL_law 593 = .ok (.iload_n 3, 1) := by decide +kernel
theorem dL_law_594 : decode cL_law 594 = .ok (.iconst 1, 1) := by decide +kernel
theorem dL_law_595 : decode cL_law 595 = .ok (.iadd, 1) := by decide +kernel
theorem dL_law_596 : decode cL_law 596 = .ok (.iaload, 1) := by decide +kernel
theorem dL_law_597 : decode cL_law 597 = .ok (.aload_n 0, 1) := by decide +kernel
theorem dL_law_598 : decode cL_law 598 = .ok (.iload_n 3, 1) := by decide +kernel
theorem dL_law_599 : decode cL_law 599 = .ok (.iconst 2, 1) := by decide +kernel
theorem dL_law_600 : decode cL_law 600 = .ok (.iadd, 1) := by decide +kernel
theorem dL_law_601 : decode cL_law 601 = .ok (.iaload, 1) := by decide +kernel
theorem dL_law_602 : decode cL_law 602 = .ok (.i2l, 1) := by decide +kernel
theorem dL_law_603 : decode cL_law 603 = .ok (.bipush 32, 2) := by decide +kernel
theorem dL_law_605 : decode cL_law 605 = .ok (.lshl, 1) := by decide +kernel
theorem dL_law_606 : decode cL_law 606 = .ok (.aload_n 0, 1) := by decide +kernel
theorem dL_law_607 : decode cL_law 607 = .ok (.iload_n 3, 1) := by decide +kernel
theorem dL_law_608 : decode cL_law 608 = .ok (.iconst 3, 1) := by decide +kernel
theorem dL_law_609 : decode cL_law 609 = .ok (.iadd, 1) := by decide +kernel
theorem dL_law_610 : decode cL_law 610 = .ok (.iaload, 1) := by decide +kernel
theorem dL_law_611 : decode cL_law 611 = .ok (.i2l, 1) := by decide +kernel
theorem dL_law_612 : decode cL_law 612 = .ok (.ldc2_w 71, 3) := by decide +kernel
theorem dL_law_615 : decode cL_law 615 = .ok (.land, 1) := by decide +kernel
theorem dL_law_616 : decode cL_law 616 = .ok (.lor, 1) := by decide +kernel
theorem dL_law_617 : decode cL_law 617 = .ok (.invokevirtual 73, 3) := by decide +kernel
theorem dL_law_620 : decode cL_law 620 = .ok (.aload_n 2, 1) := by decide +kernel
theorem dL_law_621 : decode cL_law 621 = .ok (.aload_n 0, 1) := by decide +kernel
theorem dL_law_622 : decode cL_law 622 = .ok (.iload_n 3, 1) := by decide +kernel
theorem dL_law_623 : decode cL_law 623 = .ok (.iconst 1, 1) := by decide +kernel
theorem dL_law_624 : decode cL_law 624 = .ok (.iadd, 1) := by decide +kernel
theorem dL_law_625 : decode cL_law 625 = .ok (.iaload, 1) := by decide +kernel
theorem dL_law_626 : decode cL_law 626 = .ok (.aload_n 0, 1) := by decide +kernel
theorem dL_law_627 : decode cL_law 627 = .ok (.iload_n 3, 1) := by decide +kernel
theorem dL_law_628 : decode cL_law 628 = .ok (.iconst 2, 1) := by decide +kernel
theorem dL_law_629 : decode cL_law 629 = .ok (.iadd, 1) := by decide +kernel
theorem dL_law_630 : decode cL_law 630 = .ok (.iaload, 1) := by decide +kernel
theorem dL_law_631 : decode cL_law 631 = .ok (.i2l, 1) := by decide +kernel
theorem dL_law_632 : decode cL_law 632 = .ok (.bipush 32, 2) := by decide +kernel
theorem dL_law_634 : decode cL_law 634 = .ok (.lshl, 1) := by decide +kernel
theorem dL_law_635 : decode cL_law 635 = .ok (.aload_n 0, 1) := by decide +kernel
theorem dL_law_636 : decode cL_law 636 = .ok (.iload_n 3, 1) := by decide +kernel
theorem dL_law_637 : decode cL_law 637 = .ok (.iconst 3, 1) := by decide +kernel
theorem dL_law_638 : decode cL_law 638 = .ok (.iadd, 1) := by decide +kernel
theorem dL_law_639 : decode cL_law 639 = .ok (.iaload, 1) := by decide +kernel
theorem dL_law_640 : decode cL_law 640 = .ok (.i2l, 1) := by decide +kernel
theorem dL_law_641 : decode cL_law 641 = .ok (.ldc2_w 71, 3) := by decide +kernel
theorem dL_law_644 : decode cL_law 644 = .ok (.land, 1) := by decide +kernel
theorem dL_law_645 : decode cL_law 645 = .ok (.lor, 1) := by decide +kernel
theorem dL_law_646 : decode cL_law 646 = .ok (.invokevirtual 77, 3) := by decide +kernel
theorem dL_law_649 : decode cL_law 649 = .ok (.if_icmp .eq 834, 3) := by decide +kernel
theorem dL_law_652 : decode cL_law 652 = .ok (.iconst 0, 1) := by decide +kernel
theorem dL_law_653 : decode cL_law 653 = .ok (.ireturn, 1) := by decide +kernel
theorem dL_law_654 : decode cL_law 654 = .ok (.aload_n 1, 1) := by decide +kernel
theorem dL_law_655 : decode cL_law 655 = .ok (.aload_n 0, 1) := by decide +kernel
theorem dL_law_656 : decode cL_law 656 = .ok (.iload_n 3, 1) := by decide +kernel
theorem dL_law_657 : decode cL_law 657 = .ok (.iconst 1, 1) := by decide +kernel
theorem dL_law_658 : decode cL_law 658 = .ok (.iadd, 1) := by decide +kernel
theorem dL_law_659 : decode cL_law 659 = .ok (.iaload, 1) := by decide +kernel
theorem dL_law_660 : decode cL_law 660 = .ok (.aload_n 0, 1) := by decide +kernel
theorem dL_law_661 : decode cL_law 661 = .ok (.iload_n 3, 1) := by decide +kernel
theorem dL_law_662 : decode cL_law 662 = .ok (.iconst 2, 1) := by decide +kernel
theorem dL_law_663 : decode cL_law 663 = .ok (.iadd, 1) := by decide +kernel
theorem dL_law_664 : decode cL_law 664 = .ok (.iaload, 1) := by decide +kernel
theorem dL_law_665 : decode cL_law 665 = .ok (.invokevirtual 78, 3) := by decide +kernel
theorem dL_law_668 : decode cL_law 668 = .ok (.aload_n 2, 1) := by decide +kernel
theorem dL_law_669 : decode cL_law 669 = .ok (.aload_n 0, 1) := by decide +kernel
theorem dL_law_670 : decode cL_law 670 = .ok (.iload_n 3, 1) := by decide +kernel
theorem dL_law_671 : decode cL_law 671 = .ok (.iconst 1, 1) := by decide +kernel
theorem dL_law_672 : decode cL_law 672 = .ok (.iadd, 1) := by decide +kernel
theorem dL_law_673 : decode cL_law 673 = .ok (.iaload, 1) := by decide +kernel
theorem dL_law_674 : decode cL_law 674 = .ok (.aload_n 0, 1) := by decide +kernel
theorem dL_law_675 : decode cL_law 675 = .ok (.iload_n 3, 1) := by decide +kernel
theorem dL_law_676 : decode cL_law 676 = .ok (.iconst 2, 1) := by decide +kernel
theorem dL_law_677 : decode cL_law 677 = .ok (.iadd, 1) := by decide +kernel
theorem dL_law_678 : decode cL_law 678 = .ok (.iaload, 1) := by decide +kernel
theorem dL_law_679 : decode cL_law 679 = .ok (.invokevirtual 81, 3) := by decide +kernel
theorem dL_law_682 : decode cL_law 682 = .ok (.if_icmp .eq 801, 3) := by decide +kernel
theorem dL_law_685 : decode cL_law 685 = .ok (.iconst 0, 1) := by decide +kernel
theorem dL_law_686 : decode cL_law 686 = .ok (.ireturn, 1) := by decide +kernel
theorem dL_law_687 : decode cL_law 687 = .ok (.aload_n 1, 1) := by decide +kernel
theorem dL_law_688 : decode cL_law 688 = .ok (.aload_n 0, 1) := by decide +kernel
theorem dL_law_689 : decode cL_law 689 = .ok (.iload_n 3, 1) := by decide +kernel
theorem dL_law_690 : decode cL_law 690 = .ok (.iconst 1, 1) := by decide +kernel
theorem dL_law_691 : decode cL_law 691 = .ok (.iadd, 1) := by decide +kernel
theorem dL_law_692 : decode cL_law 692 = .ok (.iaload, 1) := by decide +kernel
theorem dL_law_693 : decode cL_law 693 = .ok (.aload_n 0, 1) := by decide +kernel
theorem dL_law_694 : decode cL_law 694 = .ok (.iload_n 3, 1) := by decide +kernel
theorem dL_law_695 : decode cL_law 695 = .ok (.iconst 2, 1) := by decide +kernel
theorem dL_law_696 : decode cL_law 696 = .ok (.iadd, 1) := by decide +kernel
theorem dL_law_697 : decode cL_law 697 = .ok (.iaload, 1) := by decide +kernel
theorem dL_law_698 : decode cL_law 698 = .ok (.invokevirtual 82, 3) := by decide +kernel
theorem dL_law_701 : decode cL_law 701 = .ok (.aload_n 2, 1) := by decide +kernel
theorem dL_law_702 : decode cL_law 702 = .ok (.aload_n 0, 1) := by decide +kernel
theorem dL_law_703 : decode cL_law 703 = .ok (.iload_n 3, 1) := by decide +kernel
theorem dL_law_704 : decode cL_law 704 = .ok (.iconst 1, 1) := by decide +kernel
theorem dL_law_705 : decode cL_law 705 = .ok (.iadd, 1) := by decide +kernel
theorem dL_law_706 : decode cL_law 706 = .ok (.iaload, 1) := by decide +kernel
theorem dL_law_707 : decode cL_law 707 = .ok (.aload_n 0, 1) := by decide +kernel
theorem dL_law_708 : decode cL_law 708 = .ok (.iload_n 3, 1) := by decide +kernel
theorem dL_law_709 : decode cL_law 709 = .ok (.iconst 2, 1) := by decide +kernel
theorem dL_law_710 : decode cL_law 710 = .ok (.iadd, 1) := by decide +kernel
theorem dL_law_711 : decode cL_law 711 = .ok (.iaload, 1) := by decide +kernel
theorem dL_law_712 : decode cL_law 712 = .ok (.invokevirtual 85, 3) := by decide +kernel
theorem dL_law_715 : decode cL_law 715 = .ok (.if_icmp .eq 768, 3) := by decide +kernel
theorem dL_law_718 : decode cL_law 718 = .ok (.iconst 0, 1) := by decide +kernel
theorem dL_law_719 : decode cL_law 719 = .ok (.ireturn, 1) := by decide +kernel
theorem dL_law_720 : decode cL_law 720 = .ok (.aload_n 1, 1) := by decide +kernel
theorem dL_law_721 : decode cL_law 721 = .ok (.invokevirtual 86, 3) := by decide +kernel
theorem dL_law_724 : decode cL_law 724 = .ok (.aload_n 2, 1) := by decide +kernel
theorem dL_law_725 : decode cL_law 725 = .ok (.invokevirtual 89, 3) := by decide +kernel
theorem dL_law_728 : decode cL_law 728 = .ok (.if_icmp .eq 755, 3) := by decide +kernel
theorem dL_law_731 : decode cL_law 731 = .ok (.iconst 0, 1) := by decide +kernel
theorem dL_law_732 : decode cL_law 732 = .ok (.ireturn, 1) := by decide +kernel
theorem dL_law_733 : decode cL_law 733 = .ok (.aload_n 1, 1) := by decide +kernel
theorem dL_law_734 : decode cL_law 734 = .ok (.aload_n 0, 1) := by decide +kernel
theorem dL_law_735 : decode cL_law 735 = .ok (.iload_n 3, 1) := by decide +kernel
theorem dL_law_736 : decode cL_law 736 = .ok (.iconst 1, 1) := by decide +kernel
theorem dL_law_737 : decode cL_law 737 = .ok (.iadd, 1) := by decide +kernel
theorem dL_law_738 : decode cL_law 738 = .ok (.iaload, 1) := by decide +kernel
theorem dL_law_739 : decode cL_law 739 = .ok (.invokevirtual 90, 3) := by decide +kernel
theorem dL_law_742 : decode cL_law 742 = .ok (.aload_n 2, 1) := by decide +kernel
theorem dL_law_743 : decode cL_law 743 = .ok (.aload_n 0, 1) := by decide +kernel
theorem dL_law_744 : decode cL_law 744 = .ok (.iload_n 3, 1) := by decide +kernel
theorem dL_law_745 : decode cL_law 745 = .ok (.iconst 1, 1) := by decide +kernel
theorem dL_law_746 : decode cL_law 746 = .ok (.iadd, 1) := by decide +kernel
theorem dL_law_747 : decode cL_law 747 = .ok (.iaload, 1) := by decide +kernel
theorem dL_law_748 : decode cL_law 748 = .ok (.invokevirtual 93, 3) := by decide +kernel
theorem dL_law_751 : decode cL_law 751 = .ok (.if_icmp .eq 732, 3) := by decide +kernel
theorem dL_law_754 : decode cL_law 754 = .ok (.iconst 0, 1) := by decide +kernel
theorem dL_law_755 : decode cL_law 755 = .ok (.ireturn, 1) := by decide +kernel
theorem dL_law_756 : decode cL_law 756 = .ok (.aload_n 1, 1) := by decide +kernel
theorem dL_law_757 : decode cL_law 757 = .ok (.aload_n 0, 1) := by decide +kernel
theorem dL_law_758 : decode cL_law 758 = .ok (.iload_n 3, 1) := by decide +kernel
theorem dL_law_759 : decode cL_law 759 = .ok (.iconst 1, 1) := by decide +kernel
theorem dL_law_760 : decode cL_law 760 = .ok (.iadd, 1) := by decide +kernel
theorem dL_law_761 : decode cL_law 761 = .ok (.iaload, 1) := by decide +kernel
theorem dL_law_762 : decode cL_law 762 = .ok (.invokevirtual 94, 3) := by decide +kernel
theorem dL_law_765 : decode cL_law 765 = .ok (.aload_n 2, 1) := by decide +kernel
theorem dL_law_766 : decode cL_law 766 = .ok (.aload_n 0, 1) := by decide +kernel
theorem dL_law_767 : decode cL_law 767 = .ok (.iload_n 3, 1) := by decide +kernel
theorem dL_law_768 : decode cL_law 768 = .ok (.iconst 1, 1) := by decide +kernel
theorem dL_law_769 : decode cL_law 769 = .ok (.iadd, 1) := by decide +kernel
theorem dL_law_770 : decode cL_law 770 = .ok (.iaload, 1) := by decide +kernel
theorem dL_law_771 : decode cL_law 771 = .ok (.invokevirtual 97, 3) := by decide +kernel
theorem dL_law_774 : decode cL_law 774 = .ok (.if_icmp .eq 709, 3) := by decide +kernel
theorem dL_law_777 : decode cL_law 777 = .ok (.iconst 0, 1) := by decide +kernel
theorem dL_law_778 : decode cL_law 778 = .ok (.ireturn, 1) := by decide +kernel
theorem dL_law_779 : decode cL_law 779 = .ok (.aload_n 1, 1) := by decide +kernel
theorem dL_law_780 : decode cL_law 780 = .ok (.aload_n 0, 1) := by decide +kernel
theorem dL_law_781 : decode cL_law 781 = .ok (.iload_n 3, 1) := by decide +kernel
theorem dL_law_782 : decode cL_law 782 = .ok (.iconst 1, 1) := by decide +kernel
theorem dL_law_783 : decode cL_law 783 = .ok (.iadd, 1) := by decide +kernel
theorem dL_law_784 : decode cL_law 784 = .ok (.iaload, 1) := by decide +kernel
theorem dL_law_785 : decode cL_law 785 = .ok (.aload_n 0, 1) := by decide +kernel
theorem dL_law_786 : decode cL_law 786 = .ok (.iload_n 3, 1) := by decide +kernel
theorem dL_law_787 : decode cL_law 787 = .ok (.iconst 2, 1) := by decide +kernel
theorem dL_law_788 : decode cL_law 788 = .ok (.iadd, 1) := by decide +kernel
theorem dL_law_789 : decode cL_law 789 = .ok (.iaload, 1) := by decide +kernel
theorem dL_law_790 : decode cL_law 790 = .ok (.invokevirtual 98, 3) := by decide +kernel
theorem dL_law_793 : decode cL_law 793 = .ok (.aload_n 2, 1) := by decide +kernel
theorem dL_law_794 : decode cL_law 794 = .ok (.aload_n 0, 1) := by decide +kernel
theorem dL_law_795 : decode cL_law 795 = .ok (.iload_n 3, 1) := by decide +kernel
theorem dL_law_796 : decode cL_law 796 = .ok (.iconst 1, 1) := by decide +kernel
theorem dL_law_797 : decode cL_law 797 = .ok (.iadd, 1) := by decide +kernel
theorem dL_law_798 : decode cL_law 798 = .ok (.iaload, 1) := by decide +kernel
theorem dL_law_799 : decode cL_law 799 = .ok (.aload_n 0, 1) := by decide +kernel
theorem dL_law_800 : decode cL_law 800 = .ok (.iload_n 3, 1) := by decide +kernel
theorem dL_law_801 : decode cL_law 801 = .ok (.iconst 2, 1) := by decide +kernel
theorem dL_law_802 : decode cL_law 802 = .ok (.iadd, 1) := by decide +kernel
theorem dL_law_803 : decode cL_law 803 = .ok (.iaload, 1) := by decide +kernel
theorem dL_law_804 : decode cL_law 804 = .ok (.invokevirtual 101, 3) := by decide +kernel
theorem dL_law_807 : decode cL_law 807 = .ok (.if_icmp .eq 676, 3) := by decide +kernel
theorem dL_law_810 : decode cL_law 810 = .ok (.iconst 0, 1) := by decide +kernel
theorem dL_law_811 : decode cL_law 811 = .ok (.ireturn, 1) := by decide +kernel
theorem dL_law_812 : decode cL_law 812 = .ok (.aload_n 1, 1) := by decide +kernel
theorem dL_law_813 : decode cL_law 813 = .ok (.invokevirtual 102, 3) := by decide +kernel
theorem dL_law_816 : decode cL_law 816 = .ok (.aload_n 2, 1) := by decide +kernel
theorem dL_law_817 : decode cL_law 817 = .ok (.invokevirtual 105, 3) := by decide +kernel
theorem dL_law_820 : decode cL_law 820 = .ok (.if_icmp .eq 663, 3) := by decide +kernel
theorem dL_law_823 : decode cL_law 823 = .ok (.iconst 0, 1) := by decide +kernel
theorem dL_law_824 : decode cL_law 824 = .ok (.ireturn, 1) := by decide +kernel
theorem dL_law_825 : decode cL_law 825 = .ok (.aload_n 1, 1) := by decide +kernel
theorem dL_law_826 : decode cL_law 826 = .ok (.aload_n 0, 1) := by decide +kernel
theorem dL_law_827 : decode cL_law 827 = .ok (.iload_n 3, 1) := by decide +kernel
theorem dL_law_828 : decode cL_law 828 = .ok (.iconst 1, 1) := by decide +kernel
theorem dL_law_829 : decode cL_law 829 = .ok (.iadd, 1) := by decide +kernel
theorem dL_law_830 : decode cL_law 830 = .ok (.iaload, 1) := by decide +kernel
theorem dL_law_831 : decode cL_law 831 = .ok (.invokevirtual 106, 3) := by decide +kernel
theorem dL_law_834 : decode cL_law 834 = .ok (.aload_n 2, 1) := by decide +kernel
theorem dL_law_835 : decode cL_law 835 = .ok (.aload_n 0, 1) := by decide +kernel
theorem dL_law_836 : decode cL_law 836 = .ok (.iload_n 3, 1) := by decide +kernel
theorem dL_law_837 : decode cL_law 837 = .ok (.iconst 1, 1) := by decide +kernel
theorem dL_law_838 : decode cL_law 838 = .ok (.iadd, 1) := by decide +kernel
theorem dL_law_839 : decode cL_law 839 = .ok (.iaload, 1) := by decide +kernel
theorem dL_law_840 : decode cL_law 840 = .ok (.invokevirtual 109, 3) := by decide +kernel
theorem dL_law_843 : decode cL_law 843 = .ok (.if_icmp .eq 640, 3) := by decide +kernel
theorem dL_law_846 : decode cL_law 846 = .ok (.iconst 0, 1) := by decide +kernel
theorem dL_law_847 : decode cL_law 847 = .ok (.ireturn, 1) := by decide +kernel
theorem dL_law_848 : decode cL_law 848 = .ok (.aload_n 1, 1) := by decide +kernel
theorem dL_law_849 : decode cL_law 849 = .ok (.aload_n 0, 1) := by decide +kernel
theorem dL_law_850 : decode cL_law 850 = .ok (.iload_n 3, 1) := by decide +kernel
theorem dL_law_851 : decode cL_law 851 = .ok (.iconst 1, 1) := by decide +kernel
theorem dL_law_852 : decode cL_law 852 = .ok (.iadd, 1) := by decide +kernel
theorem dL_law_853 : decode cL_law 853 = .ok (.iaload, 1) := by decide +kernel
theorem dL_law_854 : decode cL_law 854 = .ok (.aload_n 0, 1) := by decide +kernel
theorem dL_law_855 : decode cL_law 855 = .ok (.iload_n 3, 1) := by decide +kernel
theorem dL_law_856 : decode cL_law 856 = .ok (.iconst 2, 1) := by decide +kernel
theorem dL_law_857 : decode cL_law 857 = .ok (.iadd, 1) := by decide +kernel
theorem dL_law_858 : decode cL_law 858 = .ok (.iaload, 1) := by decide +kernel
theorem dL_law_859 : decode cL_law 859 = .ok (.invokevirtual 110, 3) := by decide +kernel
theorem dL_law_862 : decode cL_law 862 = .ok (.aload_n 2, 1) := by decide +kernel
theorem dL_law_863 : decode cL_law 863 = .ok (.aload_n 0, 1) := by decide +kernel
theorem dL_law_864 : decode cL_law 864 = .ok (.iload_n 3, 1) := by decide +kernel
theorem dL_law_865 : decode cL_law 865 = .ok (.iconst 1, 1) := by decide +kernel
theorem dL_law_866 : decode cL_law 866 = .ok (.iadd, 1) := by decide +kernel
theorem dL_law_867 : decode cL_law 867 = .ok (.iaload, 1) := by decide +kernel
theorem dL_law_868 : decode cL_law 868 = .ok (.aload_n 0, 1) := by decide +kernel
theorem dL_law_869 : decode cL_law 869 = .ok (.iload_n 3, 1) := by decide +kernel
theorem dL_law_870 : decode cL_law 870 = .ok (.iconst 2, 1) := by decide +kernel
theorem dL_law_871 : decode cL_law 871 = .ok (.iadd, 1) := by decide +kernel
theorem dL_law_872 : decode cL_law 872 = .ok (.iaload, 1) := by decide +kernel
theorem dL_law_873 : decode cL_law 873 = .ok (.invokevirtual 113, 3) := by decide +kernel
theorem dL_law_876 : decode cL_law 876 = .ok (.if_icmp .eq 607, 3) := by decide +kernel
theorem dL_law_879 : decode cL_law 879 = .ok (.iconst 0, 1) := by decide +kernel
theorem dL_law_880 : decode cL_law 880 = .ok (.ireturn, 1) := by decide +kernel
theorem dL_law_881 : decode cL_law 881 = .ok (.aload_n 1, 1) := by decide +kernel
theorem dL_law_882 : decode cL_law 882 = .ok (.aload_n 0, 1) := by decide +kernel
theorem dL_law_883 : decode cL_law 883 = .ok (.iload_n 3, 1) := by decide +kernel
theorem dL_law_884 : decode cL_law 884 = .ok (.iconst 1, 1) := by decide +kernel
theorem dL_law_885 : decode cL_law 885 = .ok (.iadd, 1) := by decide +kernel
theorem dL_law_886 : decode cL_law 886 = .ok (.iaload, 1) := by decide +kernel
theorem dL_law_887 : decode cL_law 887 = .ok (.aload_n 0, 1) := by decide +kernel
theorem dL_law_888 : decode cL_law 888 = .ok (.iload_n 3, 1) := by decide +kernel
theorem dL_law_889 : decode cL_law 889 = .ok (.iconst 2, 1) := by decide +kernel
theorem dL_law_890 : decode cL_law 890 = .ok (.iadd, 1) := by decide +kernel
theorem dL_law_891 : decode cL_law 891 = .ok (.iaload, 1) := by decide +kernel
theorem dL_law_892 : decode cL_law 892 = .ok (.aload_n 0, 1) := by decide +kernel
theorem dL_law_893 : decode cL_law 893 = .ok (.iload_n 3, 1) := by decide +kernel
theorem dL_law_894 : decode cL_law 894 = .ok (.iconst 3, 1) := by decide +kernel
theorem dL_law_895 : decode cL_law 895 = .ok (.iadd, 1) := by decide +kernel
theorem dL_law_896 : decode cL_law 896 = .ok (.iaload, 1) := by decide +kernel
theorem dL_law_897 : decode cL_law 897 = .ok (.invokevirtual 114, 3) := by decide +kernel
theorem dL_law_900 : decode cL_law 900 = .ok (.aload_n 2, 1) := by decide +kernel
theorem dL_law_901 : decode cL_law 901 = .ok (.aload_n 0, 1) := by decide +kernel
theorem dL_law_902 : decode cL_law 902 = .ok (.iload_n 3, 1) := by decide +kernel
theorem dL_law_903 : decode cL_law 903 = .ok (.iconst 1, 1) := by decide +kernel
theorem dL_law_904 : decode cL_law 904 = .ok (.iadd, 1) := by decide +kernel
theorem dL_law_905 : decode cL_law 905 = .ok (.iaload, 1) := by decide +kernel
theorem dL_law_906 : decode cL_law 906 = .ok (.aload_n 0, 1) := by decide +kernel
theorem dL_law_907 : decode cL_law 907 = .ok (.iload_n 3, 1) := by decide +kernel
theorem dL_law_908 : decode cL_law 908 = .ok (.iconst 2, 1) := by decide +kernel
theorem dL_law_909 : decode cL_law 909 = .ok (.iadd, 1) := by decide +kernel
theorem dL_law_910 : decode cL_law 910 = .ok (.iaload, 1) := by decide +kernel
theorem dL_law_911 : decode cL_law 911 = .ok (.aload_n 0, 1) := by decide +kernel
theorem dL_law_912 : decode cL_law 912 = .ok (.iload_n 3, 1) := by decide +kernel
theorem dL_law_913 : decode cL_law 913 = .ok (.iconst 3, 1) := by decide +kernel
theorem dL_law_914 : decode cL_law 914 = .ok (.iadd, 1) := by decide +kernel
theorem dL_law_915 : decode cL_law 915 = .ok (.iaload, 1) := by decide +kernel
theorem dL_law_916 : decode cL_law 916 = .ok (.invokevirtual 117, 3) := by decide +kernel
theorem dL_law_919 : decode cL_law 919 = .ok (.if_icmp .eq 564, 3) := by decide +kernel
theorem dL_law_922 : decode cL_law 922 = .ok (.iconst 0, 1) := by decide +kernel
theorem dL_law_923 : decode cL_law 923 = .ok (.ireturn, 1) := by decide +kernel
theorem dL_law_924 : decode cL_law 924 = .ok (.aload_n 1, 1) := by decide +kernel
theorem dL_law_925 : decode cL_law 925 = .ok (.aload_n 0, 1) := by decide +kernel
theorem dL_law_926 : decode cL_law 926 = .ok (.iload_n 3, 1) := by decide +kernel
theorem dL_law_927 : decode cL_law 927 = .ok (.iconst 1, 1) := by decide +kernel
theorem dL_law_928 : decode cL_law 928 = .ok (.iadd, 1) := by decide +kernel
theorem dL_law_929 : decode cL_law 929 = .ok (.iaload, 1) := by decide +kernel
theorem dL_law_930 : decode cL_law 930 = .ok (.invokevirtual 118, 3) := by decide +kernel
theorem dL_law_933 : decode cL_law 933 = .ok (.aload_n 2, 1) := by decide +kernel
theorem dL_law_934 : decode cL_law 934 = .ok (.aload_n 0, 1) := by decide +kernel
theorem dL_law_935 : decode cL_law 935 = .ok (.iload_n 3, 1) := by decide +kernel
theorem dL_law_936 : decode cL_law 936 = .ok (.iconst 1, 1) := by decide +kernel
theorem dL_law_937 : decode cL_law 937 = .ok (.iadd, 1) := by decide +kernel
theorem dL_law_938 : decode cL_law 938 = .ok (.iaload, 1) := by decide +kernel
theorem dL_law_939 : decode cL_law 939 = .ok (.invokevirtual 121, 3) := by decide +kernel
theorem dL_law_942 : decode cL_law 942 = .ok (.if_icmp .eq 541, 3) := by decide +kernel
theorem dL_law_945 : decode cL_law 945 = .ok (.iconst 0, 1) := by decide +kernel
theorem dL_law_946 : decode cL_law 946 = .ok (.ireturn, 1) := by decide +kernel
theorem dL_law_947 : decode cL_law 947 = .ok (.aload_n 1, 1) := by decide +kernel
theorem dL_law_948 : decode cL_law 948 = .ok (.aload_n 0, 1) := by decide +kernel
theorem dL_law_949 : decode cL_law 949 = .ok (.iload_n 3, 1) := by decide +kernel
theorem dL_law_950 : decode cL_law 950 = .ok (.iconst 1, 1) := by decide +kernel
theorem dL_law_951 : decode cL_law 951 = .ok (.iadd, 1) := by decide +kernel
theorem dL_law_952 : decode cL_law 952 = .ok (.iaload, 1) := by decide +kernel
theorem dL_law_953 : decode cL_law 953 = .ok (.aload_n 0, 1) := by decide +kernel
theorem dL_law_954 : decode cL_law 954 = .ok (.iload_n 3, 1) := by decide +kernel
theorem dL_law_955 : decode cL_law 955 = .ok (.iconst 2, 1) := by decide +kernel
theorem dL_law_956 : decode cL_law 956 = .ok (.iadd, 1) := by decide +kernel
theorem dL_law_957 : decode cL_law 957 = .ok (.iaload, 1) := by decide +kernel
theorem dL_law_958 : decode cL_law 958 = .ok (.aload_n 0, 1) := by decide +kernel
theorem dL_law_959 : decode cL_law 959 = .ok (.iload_n 3, 1) := by decide +kernel
theorem dL_law_960 : decode cL_law 960 = .ok (.iconst 3, 1) := by decide +kernel
theorem dL_law_961 : decode cL_law 961 = .ok (.iadd, 1) := by decide +kernel
theorem dL_law_962 : decode cL_law 962 = .ok (.iaload, 1) := by decide +kernel
theorem dL_law_963 : decode cL_law 963 = .ok (.invokevirtual 122, 3) := by decide +kernel
theorem dL_law_966 : decode cL_law 966 = .ok (.aload_n 2, 1) := by decide +kernel
theorem dL_law_967 : decode cL_law 967 = .ok (.aload_n 0, 1) := by decide +kernel
theorem dL_law_968 : decode cL_law 968 = .ok (.iload_n 3, 1) := by decide +kernel
theorem dL_law_969 : decode cL_law 969 = .ok (.iconst 1, 1) := by decide +kernel
theorem dL_law_970 : decode cL_law 970 = .ok (.iadd, 1) := by decide +kernel
theorem dL_law_971 : decode cL_law 971 = .ok (.iaload, 1) := by decide +kernel
theorem dL_law_972 : decode cL_law 972 = .ok (.aload_n 0, 1) := by decide +kernel
theorem dL_law_973 : decode cL_law 973 = .ok (.iload_n 3, 1) := by decide +kernel
theorem dL_law_974 : decode cL_law 974 = .ok (.iconst 2, 1) := by decide +kernel
theorem dL_law_975 : decode cL_law 975 = .ok (.iadd, 1) := by decide +kernel
theorem dL_law_976 : decode cL_law 976 = .ok (.iaload, 1) := by decide +kernel
theorem dL_law_977 : decode cL_law 977 = .ok (.aload_n 0, 1) := by decide +kernel
theorem dL_law_978 : decode cL_law 978 = .ok (.iload_n 3, 1) := by decide +kernel
theorem dL_law_979 : decode cL_law 979 = .ok (.iconst 3, 1) := by decide +kernel
theorem dL_law_980 : decode cL_law 980 = .ok (.iadd, 1) := by decide +kernel
theorem dL_law_981 : decode cL_law 981 = .ok (.iaload, 1) := by decide +kernel
theorem dL_law_982 : decode cL_law 982 = .ok (.invokevirtual 125, 3) := by decide +kernel
theorem dL_law_985 : decode cL_law 985 = .ok (.if_icmp .eq 498, 3) := by decide +kernel
theorem dL_law_988 : decode cL_law 988 = .ok (.iconst 0, 1) := by decide +kernel
theorem dL_law_989 : decode cL_law 989 = .ok (.ireturn, 1) := by decide +kernel
theorem dL_law_990 : decode cL_law 990 = .ok (.aload_n 1, 1) := by decide +kernel
theorem dL_law_991 : decode cL_law 991 = .ok (.invokevirtual 126, 3) := by decide +kernel
theorem dL_law_994 : decode cL_law 994 = .ok (.aload_n 2, 1) := by decide +kernel
theorem dL_law_995 : decode cL_law 995 = .ok (.invokevirtual 129, 3) := by decide +kernel
theorem dL_law_998 : decode cL_law 998 = .ok (.if_icmp .eq 485, 3) := by decide +kernel
theorem dL_law_1001 : decode cL_law 1001 = .ok (.iconst 0, 1) := by decide +kernel
theorem dL_law_1002 : decode cL_law 1002 = .ok (.ireturn, 1) := by decide +kernel
theorem dL_law_1003 : decode cL_law 1003 = .ok (.aload_n 1, 1) := by decide +kernel
theorem dL_law_1004 : decode cL_law 1004 = .ok (.aload_n 0, 1) := by decide +kernel
theorem dL_law_1005 : decode cL_law 1005 = .ok (.iload_n 3, 1) := by decide +kernel
theorem dL_law_1006 : decode cL_law 1006 = .ok (.iconst 1, 1) := by decide +kernel
theorem dL_law_1007 : decode cL_law 1007 = .ok (.iadd, 1) := by decide +kernel
theorem dL_law_1008 : decode cL_law 1008 = .ok (.iaload, 1) := by decide +kernel
theorem dL_law_1009 : decode cL_law 1009 = .ok (.aload_n 0, 1) := by decide +kernel
theorem dL_law_1010 : decode cL_law 1010 = .ok (.iload_n 3, 1) := by decide +kernel
theorem dL_law_1011 : decode cL_law 1011 = .ok (.iconst 2, 1) := by decide +kernel
theorem dL_law_1012 : decode cL_law 1012 = .ok (.iadd, 1) := by decide +kernel
theorem dL_law_1013 : decode cL_law 1013 = .ok (.iaload, 1) := by decide +kernel
theorem dL_law_1014 : decode cL_law 1014 = .ok (.invokevirtual 130, 3) := by decide +kernel
theorem dL_law_1017 : decode cL_law 1017 = .ok (.aload_n 2, 1) := by decide +kernel
theorem dL_law_1018 : decode cL_law 1018 = .ok (.aload_n 0, 1) := by decide +kernel
theorem dL_law_1019 : decode cL_law 1019 = .ok (.iload_n 3, 1) := by decide +kernel
theorem dL_law_1020 : decode cL_law 1020 = .ok (.iconst 1, 1) := by decide +kernel
theorem dL_law_1021 : decode cL_law 1021 = .ok (.iadd, 1) := by decide +kernel
theorem dL_law_1022 : decode cL_law 1022 = .ok (.iaload, 1) := by decide +kernel
theorem dL_law_1023 : decode cL_law 1023 = .ok (.aload_n 0, 1) := by decide +kernel
theorem dL_law_1024 : decode cL_law 1024 = .ok (.iload_n 3, 1) := by decide +kernel
theorem dL_law_1025 : decode cL_law 1025 = .ok (.iconst 2, 1) := by decide +kernel
theorem dL_law_1026 : decode cL_law 1026 = .ok (.iadd, 1) := by decide +kernel
theorem dL_law_1027 : decode cL_law 1027 = .ok (.iaload, 1) := by decide +kernel
theorem dL_law_1028 : decode cL_law 1028 = .ok (.invokevirtual 133, 3) := by decide +kernel
theorem dL_law_1031 : decode cL_law 1031 = .ok (.if_icmp .eq 452, 3) := by decide +kernel
theorem dL_law_1034 : decode cL_law 1034 = .ok (.iconst 0, 1) := by decide +kernel
theorem dL_law_1035 : decode cL_law 1035 = .ok (.ireturn, 1) := by decide +kernel
theorem dL_law_1036 : decode cL_law 1036 = .ok (.aload_n 1, 1) := by decide +kernel
theorem dL_law_1037 : decode cL_law 1037 = .ok (.invokevirtual 134, 3) := by decide +kernel
theorem dL_law_1040 : decode cL_law 1040 = .ok (.aload_n 2, 1) := by decide +kernel
theorem dL_law_1041 : decode cL_law 1041 = .ok (.invokevirtual 137, 3) := by decide +kernel
theorem dL_law_1044 : decode cL_law 1044 = .ok (.if_icmp .eq 439, 3) := by decide +kernel
theorem dL_law_1047 : decode cL_law 1047 = .ok (.iconst 0, 1) := by decide +kernel
theorem dL_law_1048 : decode cL_law 1048 = .ok (.ireturn, 1) := by decide +kernel
theorem dL_law_1049 : decode cL_law 1049 = .ok (.aload_n 1, 1) := by decide +kernel
theorem dL_law_1050 : decode cL_law 1050 = .ok (.aload_n 0, 1) := by decide +kernel
theorem dL_law_1051 : decode cL_law 1051 = .ok (.iload_n 3, 1) := by decide +kernel
theorem dL_law_1052 : decode cL_law 1052 = .ok (.iconst 1, 1) := by decide +kernel
theorem dL_law_1053 : decode cL_law 1053 = .ok (.iadd, 1) := by decide +kernel
theorem dL_law_1054 : decode cL_law 1054 = .ok (.iaload, 1) := by decide +kernel
theorem dL_law_1055 : decode cL_law 1055 = .ok (.aload_n 0, 1) := by decide +kernel
theorem dL_law_1056 : decode cL_law 1056 = .ok (.iload_n 3, 1) := by decide +kernel
theorem dL_law_1057 : decode cL_law 1057 = .ok (.iconst 2, 1) := by decide +kernel
theorem dL_law_1058 : decode cL_law 1058 = .ok (.iadd, 1) := by decide +kernel
theorem dL_law_1059 : decode cL_law 1059 = .ok (.iaload, 1) := by decide +kernel
theorem dL_law_1060 : decode cL_law 1060 = .ok (.aload_n 0, 1) := by decide +kernel
theorem dL_law_1061 : decode cL_law 1061 = .ok (.iload_n 3, 1) := by decide +kernel
theorem dL_law_1062 : decode cL_law 1062 = .ok (.iconst 3, 1) := by decide +kernel
theorem dL_law_1063 : decode cL_law 1063 = .ok (.iadd, 1) := by decide +kernel
theorem dL_law_1064 : decode cL_law 1064 = .ok (.iaload, 1) := by decide +kernel
theorem dL_law_1065 : decode cL_law 1065 = .ok (.aload_n 0, 1) := by decide +kernel
theorem dL_law_1066 : decode cL_law 1066 = .ok (.iload_n 3, 1) := by decide +kernel
theorem dL_law_1067 : decode cL_law 1067 = .ok (.iconst 4, 1) := by decide +kernel
theorem dL_law_1068 : decode cL_law 1068 = .ok (.iadd, 1) := by decide +kernel
theorem dL_law_1069 : decode cL_law 1069 = .ok (.iaload, 1) := by decide +kernel
theorem dL_law_1070 : decode cL_law 1070 = .ok (.invokevirtual 138, 3) := by decide +kernel
theorem dL_law_1073 : decode cL_law 1073 = .ok (.aload_n 2, 1) := by decide +kernel
theorem dL_law_1074 : decode cL_law 1074 = .ok (.aload_n 0, 1) := by decide +kernel
theorem dL_law_1075 : decode cL_law 1075 = .ok (.iload_n 3, 1) := by decide +kernel
theorem dL_law_1076 : decode cL_law 1076 = .ok (.iconst 1, 1) := by decide +kernel
theorem dL_law_1077 : decode cL_law 1077 = .ok (.iadd, 1) := by decide +kernel
theorem dL_law_1078 : decode cL_law 1078 = .ok (.iaload, 1) := by decide +kernel
theorem dL_law_1079 : decode cL_law 1079 = .ok (.aload_n 0, 1) := by decide +kernel
theorem dL_law_1080 : decode cL_law 1080 = .ok (.iload_n 3, 1) := by decide +kernel
theorem dL_law_1081 : decode cL_law 1081 = .ok (.iconst 2, 1) := by decide +kernel
theorem dL_law_1082 : decode cL_law 1082 = .ok (.iadd, 1) := by decide +kernel
theorem dL_law_1083 : decode cL_law 1083 = .ok (.iaload, 1) := by decide +kernel
theorem dL_law_1084 : decode cL_law 1084 = .ok (.aload_n 0, 1) := by decide +kernel
theorem dL_law_1085 : decode cL_law 1085 = .ok (.iload_n 3, 1) := by decide +kernel
theorem dL_law_1086 : decode cL_law 1086 = .ok (.iconst 3, 1) := by decide +kernel
theorem dL_law_1087 : decode cL_law 1087 = .ok (.iadd, 1) := by decide +kernel
theorem dL_law_1088 : decode cL_law 1088 = .ok (.iaload, 1) := by decide +kernel
theorem dL_law_1089 : decode cL_law 1089 = .ok (.aload_n 0, 1) := by decide +kernel
theorem dL_law_1090 : decode cL_law 1090 = .ok (.iload_n 3, 1) := by decide +kernel
theorem dL_law_1091 : decode cL_law 1091 = .ok (.iconst 4, 1) := by decide +kernel
theorem dL_law_1092 : decode cL_law 1092 = .ok (.iadd, 1) := by decide +kernel
theorem dL_law_1093 : decode cL_law 1093 = .ok (.iaload, 1) := by decide +kernel
theorem dL_law_1094 : decode cL_law 1094 = .ok (.invokevirtual 141, 3) := by decide +kernel
theorem dL_law_1097 : decode cL_law 1097 = .ok (.if_icmp .eq 386, 3) := by decide +kernel
theorem dL_law_1100 : decode cL_law 1100 = .ok (.iconst 0, 1) := by decide +kernel
theorem dL_law_1101 : decode cL_law 1101 = .ok (.ireturn, 1) := by decide +kernel
theorem dL_law_1102 : decode cL_law 1102 = .ok (.aload_n 1, 1) := by decide +kernel
theorem dL_law_1103 : decode cL_law 1103 = .ok (.aload_n 0, 1) := by decide +kernel
theorem dL_law_1104 : decode cL_law 1104 = .ok (.iload_n 3, 1) := by decide +kernel
theorem dL_law_1105 : decode cL_law 1105 = .ok (.iconst 1, 1) := by decide +kernel
theorem dL_law_1106 : decode cL_law 1106 = .ok (.iadd, 1) := by decide +kernel
theorem dL_law_1107 : decode cL_law 1107 = .ok (.iaload, 1) := by decide +kernel
theorem dL_law_1108 : decode cL_law 1108 = .ok (.aload_n 0, 1) := by decide +kernel
theorem dL_law_1109 : decode cL_law 1109 = .ok (.iload_n 3, 1) := by decide +kernel
theorem dL_law_1110 : decode cL_law 1110 = .ok (.iconst 2, 1) := by decide +kernel
theorem dL_law_1111 : decode cL_law 1111 = .ok (.iadd, 1) := by decide +kernel
theorem dL_law_1112 : decode cL_law 1112 = .ok (.iaload, 1) := by decide +kernel
theorem dL_law_1113 : decode cL_law 1113 = .ok (.aload_n 0, 1) := by decide +kernel
theorem dL_law_1114 : decode cL_law 1114 = .ok (.iload_n 3, 1) := by decide +kernel
theorem dL_law_1115 : decode cL_law 1115 = .ok (.iconst 3, 1) := by decide +kernel
theorem dL_law_1116 : decode cL_law 1116 = .ok (.iadd, 1) := by decide +kernel
theorem dL_law_1117 : decode cL_law 1117 = .ok (.iaload, 1) := by decide +kernel
theorem dL_law_1118 : decode cL_law 1118 = .ok (.invokevirtual 142, 3) := by decide +kernel
theorem dL_law_1121 : decode cL_law 1121 = .ok (.aload_n 2, 1) := by decide +kernel
theorem dL_law_1122 : decode cL_law 1122 = .ok (.aload_n 0, 1) := by decide +kernel
theorem dL_law_1123 : decode cL_law 1123 = .ok (.iload_n 3, 1) := by decide +kernel
theorem dL_law_1124 : decode cL_law 1124 = .ok (.iconst 1, 1) := by decide +kernel
theorem dL_law_1125 : decode cL_law 1125 = .ok (.iadd, 1) := by decide +kernel
theorem dL_law_1126 : decode cL_law 1126 = .ok (.iaload, 1) := by decide +kernel
theorem dL_law_1127 : decode cL_law 1127 = .ok (.aload_n 0, 1) := by decide +kernel
theorem dL_law_1128 : decode cL_law 1128 = .ok (.iload_n 3, 1) := by decide +kernel
theorem dL_law_1129 : decode cL_law 1129 = .ok (.iconst 2, 1) := by decide +kernel
theorem dL_law_1130 : decode cL_law 1130 = .ok (.iadd, 1) := by decide +kernel
theorem dL_law_1131 : decode cL_law 1131 = .ok (.iaload, 1) := by decide +kernel
theorem dL_law_1132 : decode cL_law 1132 = .ok (.aload_n 0, 1) := by decide +kernel
theorem dL_law_1133 : decode cL_law 1133 = .ok (.iload_n 3, 1) := by decide +kernel
theorem dL_law_1134 : decode cL_law 1134 = .ok (.iconst 3, 1) := by decide +kernel
theorem dL_law_1135 : decode cL_law 1135 = .ok (.iadd, 1) := by decide +kernel
theorem dL_law_1136 : decode cL_law 1136 = .ok (.iaload, 1) := by decide +kernel
theorem dL_law_1137 : decode cL_law 1137 = .ok (.invokevirtual 145, 3) := by decide +kernel
theorem dL_law_1140 : decode cL_law 1140 = .ok (.if_icmp .eq 343, 3) := by decide +kernel
theorem dL_law_1143 : decode cL_law 1143 = .ok (.iconst 0, 1) := by decide +kernel
theorem dL_law_1144 : decode cL_law 1144 = .ok (.ireturn, 1) := by decide +kernel
theorem dL_law_1145 : decode cL_law 1145 = .ok (.aload_n 1, 1) := by decide +kernel
theorem dL_law_1146 : decode cL_law 1146 = .ok (.invokevirtual 146, 3) := by decide +kernel
theorem dL_law_1149 : decode cL_law 1149 = .ok (.aload_n 2, 1) := by decide +kernel
theorem dL_law_1150 : decode cL_law 1150 = .ok (.invokevirtual 149, 3) := by decide +kernel
theorem dL_law_1153 : decode cL_law 1153 = .ok (.if_icmp .eq 330, 3) := by decide +kernel
theorem dL_law_1156 : decode cL_law 1156 = .ok (.iconst 0, 1) := by decide +kernel
theorem dL_law_1157 : decode cL_law 1157 = .ok (.ireturn, 1) := by decide +kernel
theorem dL_law_1158 : decode cL_law 1158 = .ok (.aload_n 1, 1) := by decide +kernel
theorem dL_law_1159 : decode cL_law 1159 = .ok (.aload_n 0, 1) := by decide +kernel
theorem dL_law_1160 : decode cL_law 1160 = .ok (.iload_n 3, 1) := by decide +kernel
theorem dL_law_1161 : decode cL_law 1161 = .ok (.iconst 1, 1) := by decide +kernel
theorem dL_law_1162 : decode cL_law 1162 = .ok (.iadd, 1) := by decide +kernel
theorem dL_law_1163 : decode cL_law 1163 = .ok (.iaload, 1) := by decide +kernel
theorem dL_law_1164 : decode cL_law 1164 = .ok (.aload_n 0, 1) := by decide +kernel
theorem dL_law_1165 : decode cL_law 1165 = .ok (.iload_n 3, 1) := by decide +kernel
theorem dL_law_1166 : decode cL_law 1166 = .ok (.iconst 2, 1) := by decide +kernel
theorem dL_law_1167 : decode cL_law 1167 = .ok (.iadd, 1) := by decide +kernel
theorem dL_law_1168 : decode cL_law 1168 = .ok (.iaload, 1) := by decide +kernel
theorem dL_law_1169 : decode cL_law 1169 = .ok (.aload_n 0, 1) := by decide +kernel
theorem dL_law_1170 : decode cL_law 1170 = .ok (.iload_n 3, 1) := by decide +kernel
theorem dL_law_1171 : decode cL_law 1171 = .ok (.iconst 3, 1) := by decide +kernel
theorem dL_law_1172 : decode cL_law 1172 = .ok (.iadd, 1) := by decide +kernel
theorem dL_law_1173 : decode cL_law 1173 = .ok (.iaload, 1) := by decide +kernel
theorem dL_law_1174 : decode cL_law 1174 = .ok (.invokevirtual 150, 3) := by decide +kernel
theorem dL_law_1177 : decode cL_law 1177 = .ok (.aload_n 2, 1) := by decide +kernel
theorem dL_law_1178 : decode cL_law 1178 = .ok (.aload_n 0, 1) := by decide +kernel
theorem dL_law_1179 : decode cL_law 1179 = .ok (.iload_n 3, 1) := by decide +kernel
theorem dL_law_1180 : decode cL_law 1180 = .ok (.iconst 1, 1) := by decide +kernel
theorem dL_law_1181 : decode cL_law 1181 = .ok (.iadd, 1) := by decide +kernel
theorem dL_law_1182 : decode cL_law 1182 = .ok (.iaload, 1) := by decide +kernel
theorem dL_law_1183 : decode cL_law 1183 = .ok (.aload_n 0, 1) := by decide +kernel
theorem dL_law_1184 : decode cL_law 1184 = .ok (.iload_n 3, 1) := by decide +kernel
theorem dL_law_1185 : decode cL_law 1185 = .ok (.iconst 2, 1) := by decide +kernel
theorem dL_law_1186 : decode cL_law 1186 = .ok (.iadd, 1) := by decide +kernel
theorem dL_law_1187 : decode cL_law 1187 = .ok (.iaload, 1) := by decide +kernel
theorem dL_law_1188 : decode cL_law 1188 = .ok (.aload_n 0, 1) := by decide +kernel
theorem dL_law_1189 : decode cL_law 1189 = .ok (.iload_n 3, 1) := by decide +kernel
theorem dL_law_1190 : decode cL_law 1190 = .ok (.iconst 3, 1) := by decide +kernel
theorem dL_law_1191 : decode cL_law 1191 = .ok (.iadd, 1) := by decide +kernel
theorem dL_law_1192 : decode cL_law 1192 = .ok (.iaload, 1) := by decide +kernel
theorem dL_law_1193 : decode cL_law 1193 = .ok (.invokevirtual 154, 3) := by decide +kernel
theorem dL_law_1196 : decode cL_law 1196 = .ok (.lcmp, 1) := by decide +kernel
theorem dL_law_1197 : decode cL_law 1197 = .ok (.ifCond .eq 286, 3) := by decide +kernel
theorem dL_law_1200 : decode cL_law 1200 = .ok (.iconst 0, 1) := by decide +kernel
theorem dL_law_1201 : decode cL_law 1201 = .ok (.ireturn, 1) := by decide +kernel
theorem dL_law_1202 : decode cL_law 1202 = .ok (.aload_n 1, 1) := by decide +kernel
theorem dL_law_1203 : decode cL_law 1203 = .ok (.aload_n 0, 1) := by decide +kernel
theorem dL_law_1204 : decode cL_law 1204 = .ok (.iload_n 3, 1) := by decide +kernel
theorem dL_law_1205 : decode cL_law 1205 = .ok (.iconst 1, 1) := by decide +kernel
theorem dL_law_1206 : decode cL_law 1206 = .ok (.iadd, 1) := by decide +kernel
theorem dL_law_1207 : decode cL_law 1207 = .ok (.iaload, 1) := by decide +kernel
theorem dL_law_1208 : decode cL_law 1208 = .ok (.aload_n 0, 1) := by decide +kernel
theorem dL_law_1209 : decode cL_law 1209 = .ok (.iload_n 3, 1) := by decide +kernel
theorem dL_law_1210 : decode cL_law 1210 = .ok (.iconst 2, 1) := by decide +kernel
theorem dL_law_1211 : decode cL_law 1211 = .ok (.iadd, 1) := by decide +kernel
theorem dL_law_1212 : decode cL_law 1212 = .ok (.iaload, 1) := by decide +kernel
theorem dL_law_1213 : decode cL_law 1213 = .ok (.aload_n 0, 1) := by decide +kernel
theorem dL_law_1214 : decode cL_law 1214 = .ok (.iload_n 3, 1) := by decide +kernel
theorem dL_law_1215 : decode cL_law 1215 = .ok (.iconst 3, 1) := by decide +kernel
theorem dL_law_1216 : decode cL_law 1216 = .ok (.iadd, 1) := by decide +kernel
theorem dL_law_1217 : decode cL_law 1217 = .ok (.iaload, 1) := by decide +kernel
theorem dL_law_1218 : decode cL_law 1218 = .ok (.invokevirtual 155, 3) := by decide +kernel
theorem dL_law_1221 : decode cL_law 1221 = .ok (.aload_n 2, 1) := by decide +kernel
theorem dL_law_1222 : decode cL_law 1222 = .ok (.aload_n 0, 1) := by decide +kernel
theorem dL_law_1223 : decode cL_law 1223 = .ok (.iload_n 3, 1) := by decide +kernel
theorem dL_law_1224 : decode cL_law 1224 = .ok (.iconst 1, 1) := by decide +kernel
theorem dL_law_1225 : decode cL_law 1225 = .ok (.iadd, 1) := by decide +kernel
theorem dL_law_1226 : decode cL_law 1226 = .ok (.iaload, 1) := by decide +kernel
theorem dL_law_1227 : decode cL_law 1227 = .ok (.aload_n 0, 1) := by decide +kernel
theorem dL_law_1228 : decode cL_law 1228 = .ok (.iload_n 3, 1) := by decide +kernel
theorem dL_law_1229 : decode cL_law 1229 = .ok (.iconst 2, 1) := by decide +kernel
theorem dL_law_1230 : decode cL_law 1230 = .ok (.iadd, 1) := by decide +kernel
theorem dL_law_1231 : decode cL_law 1231 = .ok (.iaload, 1) := by decide +kernel
theorem dL_law_1232 : decode cL_law 1232 = .ok (.aload_n 0, 1) := by decide +kernel
theorem dL_law_1233 : decode cL_law 1233 = .ok (.iload_n 3, 1) := by decide +kernel
theorem dL_law_1234 : decode cL_law 1234 = .ok (.iconst 3, 1) := by decide +kernel
theorem dL_law_1235 : decode cL_law 1235 = .ok (.iadd, 1) := by decide +kernel
theorem dL_law_1236 : decode cL_law 1236 = .ok (.iaload, 1) := by decide +kernel
theorem dL_law_1237 : decode cL_law 1237 = .ok (.invokevirtual 158, 3) := by decide +kernel
theorem dL_law_1240 : decode cL_law 1240 = .ok (.if_icmp .eq 243, 3) := by decide +kernel
theorem dL_law_1243 : decode cL_law 1243 = .ok (.iconst 0, 1) := by decide +kernel
theorem dL_law_1244 : decode cL_law 1244 = .ok (.ireturn, 1) := by decide +kernel
theorem dL_law_1245 : decode cL_law 1245 = .ok (.aload_n 1, 1) := by decide +kernel
theorem dL_law_1246 : decode cL_law 1246 = .ok (.aload_n 0, 1) := by decide +kernel
theorem dL_law_1247 : decode cL_law 1247 = .ok (.iload_n 3, 1) := by decide +kernel
theorem dL_law_1248 : decode cL_law 1248 = .ok (.iconst 1, 1) := by decide +kernel
theorem dL_law_1249 : decode cL_law 1249 = .ok (.iadd, 1) := by decide +kernel
theorem dL_law_1250 : decode cL_law 1250 = .ok (.iaload, 1) := by decide +kernel
theorem dL_law_1251 : decode cL_law 1251 = .ok (.invokevirtual 159, 3) := by decide +kernel
theorem dL_law_1254 : decode cL_law 1254 = .ok (.aload_n 2, 1) := by decide +kernel
theorem dL_law_1255 : decode cL_law 1255 = .ok (.aload_n 0, 1) := by decide +kernel
theorem dL_law_1256 : decode cL_law 1256 = .ok (.iload_n 3, 1) := by decide +kernel
theorem dL_law_1257 : decode cL_law 1257 = .ok (.iconst 1, 1) := by decide +kernel
theorem dL_law_1258 : decode cL_law 1258 = .ok (.iadd, 1) := by decide +kernel
theorem dL_law_1259 : decode cL_law 1259 = .ok (.iaload, 1) := by decide +kernel
theorem dL_law_1260 : decode cL_law 1260 = .ok (.invokevirtual 162, 3) := by decide +kernel
theorem dL_law_1263 : decode cL_law 1263 = .ok (.if_icmp .eq 220, 3) := by decide +kernel
theorem dL_law_1266 : decode cL_law 1266 = .ok (.iconst 0, 1) := by decide +kernel
theorem dL_law_1267 : decode cL_law 1267 = .ok (.ireturn, 1) := by decide +kernel
theorem dL_law_1268 : decode cL_law 1268 = .ok (.aload_n 1, 1) := by decide +kernel
theorem dL_law_1269 : decode cL_law 1269 = .ok (.aload_n 0, 1) := by decide +kernel
theorem dL_law_1270 : decode cL_law 1270 = .ok (.iload_n 3, 1) := by decide +kernel
theorem dL_law_1271 : decode cL_law 1271 = .ok (.iconst 1, 1) := by decide +kernel
theorem dL_law_1272 : decode cL_law 1272 = .ok (.iadd, 1) := by decide +kernel
theorem dL_law_1273 : decode cL_law 1273 = .ok (.iaload, 1) := by decide +kernel
theorem dL_law_1274 : decode cL_law 1274 = .ok (.aload_n 0, 1) := by decide +kernel
theorem dL_law_1275 : decode cL_law 1275 = .ok (.iload_n 3, 1) := by decide +kernel
theorem dL_law_1276 : decode cL_law 1276 = .ok (.iconst 2, 1) := by decide +kernel
theorem dL_law_1277 : decode cL_law 1277 = .ok (.iadd, 1) := by decide +kernel
theorem dL_law_1278 : decode cL_law 1278 = .ok (.iaload, 1) := by decide +kernel
theorem dL_law_1279 : decode cL_law 1279 = .ok (.aload_n 0, 1) := by decide +kernel
theorem dL_law_1280 : decode cL_law 1280 = .ok (.iload_n 3, 1) := by decide +kernel
theorem dL_law_1281 : decode cL_law 1281 = .ok (.iconst 3, 1) := by decide +kernel
theorem dL_law_1282 : decode cL_law 1282 = .ok (.iadd, 1) := by decide +kernel
theorem dL_law_1283 : decode cL_law 1283 = .ok (.iaload, 1) := by decide +kernel
theorem dL_law_1284 : decode cL_law 1284 = .ok (.invokevirtual 163, 3) := by decide +kernel
theorem dL_law_1287 : decode cL_law 1287 = .ok (.aload_n 2, 1) := by decide +kernel
theorem dL_law_1288 : decode cL_law 1288 = .ok (.aload_n 0, 1) := by decide +kernel
theorem dL_law_1289 : decode cL_law 1289 = .ok (.iload_n 3, 1) := by decide +kernel
theorem dL_law_1290 : decode cL_law 1290 = .ok (.iconst 1, 1) := by decide +kernel
theorem dL_law_1291 : decode cL_law 1291 = .ok (.iadd, 1) := by decide +kernel
theorem dL_law_1292 : decode cL_law 1292 = .ok (.iaload, 1) := by decide +kernel
theorem dL_law_1293 : decode cL_law 1293 = .ok (.aload_n 0, 1) := by decide +kernel
theorem dL_law_1294 : decode cL_law 1294 = .ok (.iload_n 3, 1) := by decide +kernel
theorem dL_law_1295 : decode cL_law 1295 = .ok (.iconst 2, 1) := by decide +kernel
theorem dL_law_1296 : decode cL_law 1296 = .ok (.iadd, 1) := by decide +kernel
theorem dL_law_1297 : decode cL_law 1297 = .ok (.iaload, 1) := by decide +kernel
theorem dL_law_1298 : decode cL_law 1298 = .ok (.aload_n 0, 1) := by decide +kernel
theorem dL_law_1299 : decode cL_law 1299 = .ok (.iload_n 3, 1) := by decide +kernel
theorem dL_law_1300 : decode cL_law 1300 = .ok (.iconst 3, 1) := by decide +kernel
theorem dL_law_1301 : decode cL_law 1301 = .ok (.iadd, 1) := by decide +kernel
theorem dL_law_1302 : decode cL_law 1302 = .ok (.iaload, 1) := by decide +kernel
theorem dL_law_1303 : decode cL_law 1303 = .ok (.invokevirtual 166, 3) := by decide +kernel
theorem dL_law_1306 : decode cL_law 1306 = .ok (.if_icmp .eq 177, 3) := by decide +kernel
theorem dL_law_1309 : decode cL_law 1309 = .ok (.iconst 0, 1) := by decide +kernel
theorem dL_law_1310 : decode cL_law 1310 = .ok (.ireturn, 1) := by decide +kernel
theorem dL_law_1311 : decode cL_law 1311 = .ok (.aload_n 1, 1) := by decide +kernel
theorem dL_law_1312 : decode cL_law 1312 = .ok (.aload_n 0, 1) := by decide +kernel
theorem dL_law_1313 : decode cL_law 1313 = .ok (.iload_n 3, 1) := by decide +kernel
theorem dL_law_1314 : decode cL_law 1314 = .ok (.iconst 1, 1) := by decide +kernel
theorem dL_law_1315 : decode cL_law 1315 = .ok (.iadd, 1) := by decide +kernel
theorem dL_law_1316 : decode cL_law 1316 = .ok (.iaload, 1) := by decide +kernel
theorem dL_law_1317 : decode cL_law 1317 = .ok (.aload_n 0, 1) := by decide +kernel
theorem dL_law_1318 : decode cL_law 1318 = .ok (.iload_n 3, 1) := by decide +kernel
theorem dL_law_1319 : decode cL_law 1319 = .ok (.iconst 2, 1) := by decide +kernel
theorem dL_law_1320 : decode cL_law 1320 = .ok (.iadd, 1) := by decide +kernel
theorem dL_law_1321 : decode cL_law 1321 = .ok (.iaload, 1) := by decide +kernel
theorem dL_law_1322 : decode cL_law 1322 = .ok (.aload_n 0, 1) := by decide +kernel
theorem dL_law_1323 : decode cL_law 1323 = .ok (.iload_n 3, 1) := by decide +kernel
theorem dL_law_1324 : decode cL_law 1324 = .ok (.iconst 3, 1) := by decide +kernel
theorem dL_law_1325 : decode cL_law 1325 = .ok (.iadd, 1) := by decide +kernel
theorem dL_law_1326 : decode cL_law 1326 = .ok (.iaload, 1) := by decide +kernel
theorem dL_law_1327 : decode cL_law 1327 = .ok (.invokevirtual 167, 3) := by decide +kernel
theorem dL_law_1330 : decode cL_law 1330 = .ok (.aload_n 2, 1) := by decide +kernel
theorem dL_law_1331 : decode cL_law 1331 = .ok (.aload_n 0, 1) := by decide +kernel
theorem dL_law_1332 : decode cL_law 1332 = .ok (.iload_n 3, 1) := by decide +kernel
theorem dL_law_1333 : decode cL_law 1333 = .ok (.iconst 1, 1) := by decide +kernel
theorem dL_law_1334 : decode cL_law 1334 = .ok (.iadd, 1) := by decide +kernel
theorem dL_law_1335 : decode cL_law 1335 = .ok (.iaload, 1) := by decide +kernel
theorem dL_law_1336 : decode cL_law 1336 = .ok (.aload_n 0, 1) := by decide +kernel
theorem dL_law_1337 : decode cL_law 1337 = .ok (.iload_n 3, 1) := by decide +kernel
theorem dL_law_1338 : decode cL_law 1338 = .ok (.iconst 2, 1) := by decide +kernel
theorem dL_law_1339 : decode cL_law 1339 = .ok (.iadd, 1) := by decide +kernel
theorem dL_law_1340 : decode cL_law 1340 = .ok (.iaload, 1) := by decide +kernel
theorem dL_law_1341 : decode cL_law 1341 = .ok (.aload_n 0, 1) := by decide +kernel
theorem dL_law_1342 : decode cL_law 1342 = .ok (.iload_n 3, 1) := by decide +kernel
theorem dL_law_1343 : decode cL_law 1343 = .ok (.iconst 3, 1) := by decide +kernel
theorem dL_law_1344 : decode cL_law 1344 = .ok (.iadd, 1) := by decide +kernel
theorem dL_law_1345 : decode cL_law 1345 = .ok (.iaload, 1) := by decide +kernel
theorem dL_law_1346 : decode cL_law 1346 = .ok (.invokevirtual 170, 3) := by decide +kernel
theorem dL_law_1349 : decode cL_law 1349 = .ok (.lcmp, 1) := by decide +kernel
theorem dL_law_1350 : decode cL_law 1350 = .ok (.ifCond .eq 133, 3) := by decide +kernel
theorem dL_law_1353 : decode cL_law 1353 = .ok (.iconst 0, 1) := by decide +kernel
theorem dL_law_1354 : decode cL_law 1354 = .ok (.ireturn, 1) := by decide +kernel
theorem dL_law_1355 : decode cL_law 1355 = .ok (.aload_n 1, 1) := by decide +kernel
theorem dL_law_1356 : decode cL_law 1356 = .ok (.aload_n 0, 1) := by decide +kernel
theorem dL_law_1357 : decode cL_law 1357 = .ok (.iload_n 3, 1) := by decide +kernel
theorem dL_law_1358 : decode cL_law 1358 = .ok (.iconst 1, 1) := by decide +kernel
theorem dL_law_1359 : decode cL_law 1359 = .ok (.iadd, 1) := by decide +kernel
theorem dL_law_1360 : decode cL_law 1360 = .ok (.iaload, 1) := by decide +kernel
theorem dL_law_1361 : decode cL_law 1361 = .ok (.invokevirtual 171, 3) := by decide +kernel
theorem dL_law_1364 : decode cL_law 1364 = .ok (.aload_n 2, 1) := by decide +kernel
theorem dL_law_1365 : decode cL_law 1365 = .ok (.aload_n 0, 1) := by decide +kernel
theorem dL_law_1366 : decode cL_law 1366 = .ok (.iload_n 3, 1) := by decide +kernel
theorem dL_law_1367 : decode cL_law 1367 = .ok (.iconst 1, 1) := by decide +kernel
theorem dL_law_1368 : decode cL_law 1368 = .ok (.iadd, 1) := by decide +kernel
theorem dL_law_1369 : decode cL_law 1369 = .ok (.iaload, 1) := by decide +kernel
theorem dL_law_1370 : decode cL_law 1370 = .ok (.invokevirtual 174, 3) := by decide +kernel
theorem dL_law_1373 : decode cL_law 1373 = .ok (.if_icmp .eq 110, 3) := by decide +kernel
theorem dL_law_1376 : decode cL_law 1376 = .ok (.iconst 0, 1) := by decide +kernel
theorem dL_law_1377 : decode cL_law 1377 = .ok (.ireturn, 1) := by decide +kernel
theorem dL_law_1378 : decode cL_law 1378 = .ok (.aload_n 1, 1) := by decide +kernel
theorem dL_law_1379 : decode cL_law 1379 = .ok (.aload_n 0, 1) := by decide +kernel
theorem dL_law_1380 : decode cL_law 1380 = .ok (.iload_n 3, 1) := by decide +kernel
theorem dL_law_1381 : decode cL_law 1381 = .ok (.iconst 1, 1) := by decide +kernel
theorem dL_law_1382 : decode cL_law 1382 = .ok (.iadd, 1) := by decide +kernel
theorem dL_law_1383 : decode cL_law 1383 = .ok (.iaload, 1) := by decide +kernel
theorem dL_law_1384 : decode cL_law 1384 = .ok (.invokevirtual 175, 3) := by decide +kernel
theorem dL_law_1387 : decode cL_law 1387 = .ok (.aload_n 2, 1) := by decide +kernel
theorem dL_law_1388 : decode cL_law 1388 = .ok (.aload_n 0, 1) := by decide +kernel
theorem dL_law_1389 : decode cL_law 1389 = .ok (.iload_n 3, 1) := by decide +kernel
theorem dL_law_1390 : decode cL_law 1390 = .ok (.iconst 1, 1) := by decide +kernel
theorem dL_law_1391 : decode cL_law 1391 = .ok (.iadd, 1) := by decide +kernel
theorem dL_law_1392 : decode cL_law 1392 = .ok (.iaload, 1) := by decide +kernel
theorem dL_law_1393 : decode cL_law 1393 = .ok (.invokevirtual 178, 3) := by decide +kernel
theorem dL_law_1396 : decode cL_law 1396 = .ok (.if_icmp .eq 87, 3) := by decide +kernel
theorem dL_law_1399 : decode cL_law 1399 = .ok (.iconst 0, 1) := by decide +kernel
theorem dL_law_1400 : decode cL_law 1400 = .ok (.ireturn, 1) := by decide +kernel
theorem dL_law_1401 : decode cL_law 1401 = .ok (.aload_n 1, 1) := by decide +kernel
theorem dL_law_1402 : decode cL_law 1402 = .ok (.aload_n 0, 1) := by decide +kernel
theorem dL_law_1403 : decode cL_law 1403 = .ok (.iload_n 3, 1) := by decide +kernel
theorem dL_law_1404 : decode cL_law 1404 = .ok (.iconst 1, 1) := by decide +kernel
theorem dL_law_1405 : decode cL_law 1405 = .ok (.iadd, 1) := by decide +kernel
theorem dL_law_1406 : decode cL_law 1406 = .ok (.iaload, 1) := by decide +kernel
theorem dL_law_1407 : decode cL_law 1407 = .ok (.aload_n 0, 1) := by decide +kernel
theorem dL_law_1408 : decode cL_law 1408 = .ok (.iload_n 3, 1) := by decide +kernel
theorem dL_law_1409 : decode cL_law 1409 = .ok (.iconst 2, 1) := by decide +kernel
theorem dL_law_1410 : decode cL_law 1410 = .ok (.iadd, 1) := by decide +kernel
theorem dL_law_1411 : decode cL_law 1411 = .ok (.iaload, 1) := by decide +kernel
theorem dL_law_1412 : decode cL_law 1412 = .ok (.invokevirtual 179, 3) := by decide +kernel
theorem dL_law_1415 : decode cL_law 1415 = .ok (.aload_n 2, 1) := by decide +kernel
theorem dL_law_1416 : decode cL_law 1416 = .ok (.aload_n 0, 1) := by decide +kernel
theorem dL_law_1417 : decode cL_law 1417 = .ok (.iload_n 3, 1) := by decide +kernel
theorem dL_law_1418 : decode cL_law 1418 = .ok (.iconst 1, 1) := by decide +kernel
theorem dL_law_1419 : decode cL_law 1419 = .ok (.iadd, 1) := by decide +kernel
theorem dL_law_1420 : decode cL_law 1420 = .ok (.iaload, 1) := by decide +kernel
theorem dL_law_1421 : decode cL_law 1421 = .ok (.aload_n 0, 1) := by decide +kernel
theorem dL_law_1422 : decode cL_law 1422 = .ok (.iload_n 3, 1) := by decide +kernel
theorem dL_law_1423 : decode cL_law 1423 = .ok (.iconst 2, 1) := by decide +kernel
theorem dL_law_1424 : decode cL_law 1424 = .ok (.iadd, 1) := by decide +kernel
theorem dL_law_1425 : decode cL_law 1425 = .ok (.iaload, 1) := by decide +kernel
theorem dL_law_1426 : decode cL_law 1426 = .ok (.invokevirtual 182, 3) := by decide +kernel
theorem dL_law_1429 : decode cL_law 1429 = .ok (.if_icmp .eq 54, 3) := by decide +kernel
theorem dL_law_1432 : decode cL_law 1432 = .ok (.iconst 0, 1) := by decide +kernel
theorem dL_law_1433 : decode cL_law 1433 = .ok (.ireturn, 1) := by decide +kernel
theorem dL_law_1434 : decode cL_law 1434 = .ok (.aload_n 1, 1) := by decide +kernel
theorem dL_law_1435 : decode cL_law 1435 = .ok (.invokevirtual 183, 3) := by decide +kernel
theorem dL_law_1438 : decode cL_law 1438 = .ok (.aload_n 2, 1) := by decide +kernel
theorem dL_law_1439 : decode cL_law 1439 = .ok (.invokevirtual 186, 3) := by decide +kernel
theorem dL_law_1442 : decode cL_law 1442 = .ok (.if_icmp .eq 41, 3) := by decide +kernel
theorem dL_law_1445 : decode cL_law 1445 = .ok (.iconst 0, 1) := by decide +kernel
theorem dL_law_1446 : decode cL_law 1446 = .ok (.ireturn, 1) := by decide +kernel
theorem dL_law_1447 : decode cL_law 1447 = .ok (.aload_n 1, 1) := by decide +kernel
theorem dL_law_1448 : decode cL_law 1448 = .ok (.invokevirtual 187, 3) := by decide +kernel
theorem dL_law_1451 : decode cL_law 1451 = .ok (.aload_n 2, 1) := by decide +kernel
theorem dL_law_1452 : decode cL_law 1452 = .ok (.invokevirtual 190, 3) := by decide +kernel
theorem dL_law_1455 : decode cL_law 1455 = .ok (.if_icmp .eq 28, 3) := by decide +kernel
theorem dL_law_1458 : decode cL_law 1458 = .ok (.iconst 0, 1) := by decide +kernel
theorem dL_law_1459 : decode cL_law 1459 = .ok (.ireturn, 1) := by decide +kernel
theorem dL_law_1460 : decode cL_law 1460 = .ok (.aload_n 1, 1) := by decide +kernel
theorem dL_law_1461 : decode cL_law 1461 = .ok (.aload_n 0, 1) := by decide +kernel
theorem dL_law_1462 : decode cL_law 1462 = .ok (.iload_n 3, 1) := by decide +kernel
theorem dL_law_1463 : decode cL_law 1463 = .ok (.iconst 1, 1) := by decide +kernel
theorem dL_law_1464 : decode cL_law 1464 = .ok (.iadd, 1) := by decide +kernel
theorem dL_law_1465 : decode cL_law 1465 = .ok (.iaload, 1) := by decide +kernel
theorem dL_law_1466 : decode cL_law 1466 = .ok (.invokevirtual 191, 3) := by decide +kernel
theorem dL_law_1469 : decode cL_law 1469 = .ok (.aload_n 2, 1) := by decide +kernel
theorem dL_law_1470 : decode cL_law 1470 = .ok (.aload_n 0, 1) := by decide +kernel
theorem dL_law_1471 : decode cL_law 1471 = .ok (.iload_n 3, 1) := by decide +kernel
theorem dL_law_1472 : decode cL_law 1472 = .ok (.iconst 1, 1) := by decide +kernel
theorem dL_law_1473 : decode cL_law 1473 = .ok (.iadd, 1) := by decide +kernel
theorem dL_law_1474 : decode cL_law 1474 = .ok (.iaload, 1) := by decide +kernel
theorem dL_law_1475 : decode cL_law 1475 = .ok (.invokevirtual 194, 3) := by decide +kernel
theorem dL_law_1478 : decode cL_law 1478 = .ok (.if_icmp .eq 5, 3) := by decide +kernel
theorem dL_law_1481 : decode cL_law 1481 = .ok (.iconst 0, 1) := by decide +kernel
theorem dL_law_1482 : decode cL_law 1482 = .ok (.ireturn, 1) := by decide +kernel
theorem dL_law_1483 : decode cL_law 1483 = .ok (.iinc 3 5, 3) := by decide +kernel
theorem dL_law_1486 : decode cL_law 1486 = .ok (.goto (-1468), 3) := by decide +kernel
theorem dL_law_1489 : decode cL_law 1489 = .ok (.iconst 1, 1) := by decide +kernel
theorem dL_law_1490 : decode cL_law 1490 = .ok (.ireturn, 1) := by decide +kernel
theorem dX0_init_0 : decode cX0_init 0 = .ok (.aload_n 0, 1) := by decide +kernel
theorem dX0_init_1 : decode cX0_init 1 = .ok (.invokespecial 3, 3) := by decide +kernel
theorem dX0_init_4 : decode cX0_init 4 = .ok (.aload_n 0, 1) := by decide +kernel
theorem dX0_init_5 : decode cX0_init 5 = .ok (.iconst 4, 1) := by decide +kernel
theorem dX0_init_6 : decode cX0_init 6 = .ok (.putfield 9, 3) := by decide +kernel
theorem dX0_init_9 : decode cX0_init 9 = .ok (.aload_n 0, 1) := by decide +kernel
theorem dX0_init_10 : decode cX0_init 10 = .ok (.iconst 0, 1) := by decide +kernel
theorem dX0_init_11 : decode cX0_init 11 = .ok (.putfield 15, 3) := by decide +kernel
theorem dX0_init_14 : decode cX0_init 14 = .ok (.aload_n 0, 1) := by decide +kernel
theorem dX0_init_15 : decode cX0_init 15 = .ok (.iconst 0, 1) := by decide +kernel
theorem dX0_init_16 : decode cX0_init 16 = .ok (.putfield 18, 3) := by decide +kernel
theorem dX0_init_19 : decode cX0_init 19 = .ok (.aload_n 0, 1) := by decide +kernel
theorem dX0_init_20 : decode cX0_init 20 = .ok (.iconst 0, 1) := by decide +kernel
theorem dX0_init_21 : decode cX0_init 21 = .ok (.putfield 21, 3) := by decide +kernel
theorem dX0_init_24 : decode cX0_init 24 = .ok (.aload_n 0, 1) := by decide +kernel
theorem dX0_init_25 : decode cX0_init 25 = .ok (.bipush 30, 2) := by decide +kernel
theorem dX0_init_27 : decode cX0_init 27 = .ok (.newarray .int, 2) := by decide +kernel
theorem dX0_init_29 : decode cX0_init 29 = .ok (.putfield 24, 3) := by decide +kernel
theorem dX0_init_32 : decode cX0_init 32 = .ok (.aload_n 0, 1) := by decide +kernel
theorem dX0_init_33 : decode cX0_init 33 = .ok (.bipush 30, 2) := by decide +kernel
theorem dX0_init_35 : decode cX0_init 35 = .ok (.newarray .int, 2) := by decide +kernel
theorem dX0_init_37 : decode cX0_init 37 = .ok (.putfield 28, 3) := by decide +kernel
theorem dX0_init_40 : decode cX0_init 40 = .ok (.aload_n 0, 1) := by decide +kernel
theorem dX0_init_41 : decode cX0_init 41 = .ok (.bipush 30, 2) := by decide +kernel
theorem dX0_init_43 : decode cX0_init 43 = .ok (.newarray .int, 2) := by decide +kernel
theorem dX0_init_45 : decode cX0_init 45 = .ok (.putfield 31, 3) := by decide +kernel
theorem dX0_init_48 : decode cX0_init 48 = .ok (.aload_n 0, 1) := by decide +kernel
theorem dX0_init_49 : decode cX0_init 49 = .ok (.bipush 30, 2) := by decide +kernel
theorem dX0_init_51 : decode cX0_init 51 = .ok (.newarray .boolean, 2) := by decide +kernel
theorem dX0_init_53 : decode cX0_init 53 = .ok (.putfield 34, 3) := by decide +kernel
theorem dX0_init_56 : decode cX0_init 56 = .ok (.aload_n 0, 1) := by decide +kernel
theorem dX0_init_57 : decode cX0_init 57 = .ok (.bipush 8, 2) := by decide +kernel
theorem dX0_init_59 : decode cX0_init 59 = .ok (.newarray .int, 2) := by decide +kernel
theorem dX0_init_61 : decode cX0_init 61 = .ok (.putfield 38, 3) := by decide +kernel
theorem dX0_init_64 : decode cX0_init 64 = .ok (.aload_n 0, 1) := by decide +kernel
theorem dX0_init_65 : decode cX0_init 65 = .ok (.bipush 8, 2) := by decide +kernel
theorem dX0_init_67 : decode cX0_init 67 = .ok (.iconst 4, 1) := by decide +kernel
theorem dX0_init_68 : decode cX0_init 68 = .ok (.multianewarray 41 2, 4) := by decide +kernel
theorem dX0_init_72 : decode cX0_init 72 = .ok (.putfield 43, 3) := by decide +kernel
theorem dX0_init_75 : decode cX0_init 75 = .ok (.aload_n 0, 1) := by decide +kernel
theorem dX0_init_76 : decode cX0_init 76 = .ok (.invokevirtual 46, 3) := by decide +kernel
theorem dX0_init_79 : decode cX0_init 79 = .ok (.return_, 1) := by decide +kernel
theorem dX0_begin_0 : decode cX0_begin 0 = .ok (.aload_n 0, 1) := by decide +kernel
theorem dX0_begin_1 : decode cX0_begin 1 = .ok (.iload_n 1, 1) := by decide +kernel
theorem dX0_begin_2 : decode cX0_begin 2 = .ok (.putfield 9, 3) := by decide +kernel
theorem dX0_begin_5 : decode cX0_begin 5 = .ok (.aload_n 0, 1) := by decide +kernel
theorem dX0_begin_6 : decode cX0_begin 6 = .ok (.iconst 0, 1) := by decide +kernel
theorem dX0_begin_7 : decode cX0_begin 7 = .ok (.putfield 15, 3) := by decide +kernel
theorem dX0_begin_10 : decode cX0_begin 10 = .ok (.aload_n 0, 1) := by decide +kernel
theorem dX0_begin_11 : decode cX0_begin 11 = .ok (.invokevirtual 46, 3) := by decide +kernel
theorem dX0_begin_14 : decode cX0_begin 14 = .ok (.return_, 1) := by decide +kernel
theorem dX0_append_0 : decode cX0_append 0 = .ok (.aload_n 0, 1) := by decide +kernel
theorem dX0_append_1 : decode cX0_append 1 = .ok (.getfield 24, 3) := by decide +kernel
theorem dX0_append_4 : decode cX0_append 4 = .ok (.aload_n 0, 1) := by decide +kernel
theorem dX0_append_5 : decode cX0_append 5 = .ok (.getfield 15, 3) := by decide +kernel
theorem dX0_append_8 : decode cX0_append 8 = .ok (.iload_n 1, 1) := by decide +kernel
theorem dX0_append_9 : decode cX0_append 9 = .ok (.iastore, 1) := by decide +kernel
theorem dX0_append_10 : decode cX0_append 10 = .ok (.aload_n 0, 1) := by decide +kernel
theorem dX0_append_11 : decode cX0_append 11 = .ok (.getfield 28, 3) := by decide +kernel
theorem dX0_append_14 : decode cX0_append 14 = .ok (.aload_n 0, 1) := by decide +kernel
theorem dX0_append_15 : decode cX0_append 15 = .ok (.getfield 15, 3) := by decide +kernel
theorem dX0_append_18 : decode cX0_append 18 = .ok (.iload_n 2, 1) := by decide +kernel
theorem dX0_append_19 : decode cX0_append 19 = .ok (.iastore, 1) := by decide +kernel
theorem dX0_append_20 : decode cX0_append 20 = .ok (.aload_n 0, 1) := by decide +kernel
theorem dX0_append_21 : decode cX0_append 21 = .ok (.dup, 1) := by decide +kernel
theorem dX0_append_22 : decode cX0_append 22 = .ok (.getfield 15, 3) := by decide +kernel
theorem dX0_append_25 : decode cX0_append 25 = .ok (.iconst 1, 1) := by decide +kernel
theorem dX0_append_26 : decode cX0_append 26 = .ok (.iadd, 1) := by decide +kernel
theorem dX0_append_27 : decode cX0_append 27 = .ok (.putfield 15, 3) := by decide +kernel
theorem dX0_append_30 : decode cX0_append 30 = .ok (.aload_n 0, 1) := by decide +kernel
theorem dX0_append_31 : decode cX0_append 31 = .ok (.invokevirtual 46, 3) := by decide +kernel
theorem dX0_append_34 : decode cX0_append 34 = .ok (.aload_n 0, 1) := by decide +kernel
theorem dX0_append_35 : decode cX0_append 35 = .ok (.getfield 15, 3) := by decide +kernel
theorem dX0_append_38 : decode cX0_append 38 = .ok (.iconst 1, 1) := by decide +kernel
theorem dX0_append_39 : decode cX0_append 39 = .ok (.isub, 1) := by decide +kernel
theorem dX0_append_40 : decode cX0_append 40 = .ok (.ireturn, 1) := by decide +kernel
theorem dX0_dropLatest_0 : decode cX0_dropLatest 0 = .ok (.aload_n 0, 1) := by decide +kernel
theorem dX0_dropLatest_1 : decode cX0_dropLatest 1 = .ok (.dup, 1) := by decide +kernel
theorem dX0_dropLatest_2 : decode cX0_dropLatest 2 = .ok (.getfield 15, 3) := by decide +kernel
theorem dX0_dropLatest_5 : decode cX0_dropLatest 5 = .ok (.iconst 1, 1) := by decide +kernel
theorem dX0_dropLatest_6 : decode cX0_dropLatest 6 = .ok (.isub, 1) := by decide +kernel
theorem dX0_dropLatest_7 : decode cX0_dropLatest 7 = .ok (.putfield 15, 3) := by decide +kernel
theorem dX0_dropLatest_10 : decode cX0_dropLatest 10 = .ok (.aload_n 0, 1) := by decide +kernel
theorem dX0_dropLatest_11 : decode cX0_dropLatest 11 = .ok (.invokevirtual 46, 3) := by decide +kernel
theorem dX0_dropLatest_14 : decode cX0_dropLatest 14 = .ok (.aload_n 0, 1) := by decide +kernel
theorem dX0_dropLatest_15 : decode cX0_dropLatest 15 = .ok (.getfield 15, 3) := by decide +kernel
theorem dX0_dropLatest_18 : decode cX0_dropLatest 18 = .ok (.ireturn, 1) := by decide +kernel
theorem dX0_lead_0 : decode cX0_lead 0 = .ok (.iconst 0, 1) := by decide +kernel
theorem dX0_lead_1 : decode cX0_lead 1 = .ok (.istore_n 2, 1) := by decide +kernel
theorem dX0_lead_2 : decode cX0_lead 2 = .ok (.iload_n 2, 1) := by decide +kernel
theorem dX0_lead_3 : decode cX0_lead 3 = .ok (.aload_n 0, 1) := by decide +kernel
theorem dX0_lead_4 : decode cX0_lead 4 = .ok (.getfield 15, 3) := by decide +kernel
theorem dX0_lead_7 : decode cX0_lead 7 = .ok (.if_icmp .ge 69, 3) := by decide +kernel
theorem dX0_lead_10 : decode cX0_lead 10 = .ok (.aload_n 1, 1) := by decide +kernel
theorem dX0_lead_11 : decode cX0_lead 11 = .ok (.aload_n 0, 1) := by decide +kernel
theorem dX0_lead_12 : decode cX0_lead 12 = .ok (.getfield 24, 3) := by decide +kernel
theorem dX0_lead_15 : decode cX0_lead 15 = .ok (.iload_n 2, 1) := by decide +kernel
theorem dX0_lead_16 : decode cX0_lead 16 = .ok (.iaload, 1) := by decide +kernel
theorem dX0_lead_17 : decode cX0_lead 17 = .ok (.iaload, 1) := by decide +kernel
theorem dX0_lead_18 : decode cX0_lead 18 = .ok (.aload_n 1, 1) := by decide +kernel
theorem dX0_lead_19 : decode cX0_lead 19 = .ok (.aload_n 0, 1) := by decide +kernel
theorem dX0_lead_20 : decode cX0_lead 20 = .ok (.getfield 28, 3) := by decide +kernel
theorem dX0_lead_23 : decode cX0_lead 23 = .ok (.iload_n 2, 1) := by decide +kernel
theorem dX0_lead_24 : decode cX0_lead 24 = .ok (.iaload, 1) := by decide +kernel
theorem dX0_lead_25 : decode cX0_lead 25 = .ok (.iaload, 1) := by decide +kernel
theorem dX0_lead_26 : decode cX0_lead 26 = .ok (.invokestatic 49, 3) := by decide +kernel
theorem dX0_lead_29 : decode cX0_lead 29 = .ok (.istore_n 3, 1) := by decide +kernel
theorem dX0_lead_30 : decode cX0_lead 30 = .ok (.aload_n 1, 1) := by decide +kernel
theorem dX0_lead_31 : decode cX0_lead 31 = .ok (.aload_n 0, 1) := by decide +kernel
theorem dX0_lead_32 : decode cX0_lead 32 = .ok (.getfield 24, 3) := by decide +kernel
theorem dX0_lead_35 : decode cX0_lead 35 = .ok (.iload_n 2, 1) := by decide +kernel
theorem dX0_lead_36 : decode cX0_lead 36 = .ok (.iaload, 1) := by decide +kernel
theorem dX0_lead_37 : decode cX0_lead 37 = .ok (.iaload, 1) := by decide +kernel
theorem dX0_lead_38 : decode cX0_lead 38 = .ok (.aload_n 1, 1) := by decide +kernel
theorem dX0_lead_39 : decode cX0_lead 39 = .ok (.aload_n 0, 1) := by decide +kernel
theorem dX0_lead_40 : decode cX0_lead 40 = .ok (.getfield 28, 3) := by decide +kernel
theorem dX0_lead_43 : decode cX0_lead 43 = .ok (.iload_n 2, 1) := by decide +kernel
theorem dX0_lead_44 : decode cX0_lead 44 = .ok (.iaload, 1) := by decide +kernel
theorem dX0_lead_45 : decode cX0_lead 45 = .ok (.iaload, 1) := by decide +kernel
theorem dX0_lead_46 : decode cX0_lead 46 = .ok (.invokestatic 55, 3) := by decide +kernel
theorem dX0_lead_49 : decode cX0_lead 49 = .ok (.istore 4, 2) := by decide +kernel
theorem dX0_lead_51 : decode cX0_lead 51 = .ok (.aload_n 1, 1) := by decide +kernel
theorem dX0_lead_52 : decode cX0_lead 52 = .ok (.aload_n 0, 1) := by decide +kernel
theorem dX0_lead_53 : decode cX0_lead 53 = .ok (.getfield 24, 3) := by decide +kernel
theorem dX0_lead_56 : decode cX0_lead 56 = .ok (.iload_n 2, 1) := by decide +kernel
theorem dX0_lead_57 : decode cX0_lead 57 = .ok (.iaload, 1) := by decide +kernel
theorem dX0_lead_58 : decode cX0_lead 58 = .ok (.iload_n 3, 1) := by decide +kernel
theorem dX0_lead_59 : decode cX0_lead 59 = .ok (.iastore, 1) := by decide +kernel
theorem dX0_lead_60 : decode cX0_lead 60 = .ok (.aload_n 1, 1) := by decide +kernel
theorem dX0_lead_61 : decode cX0_lead 61 = .ok (.aload_n 0, 1) := by decide +kernel
theorem dX0_lead_62 : decode cX0_lead 62 = .ok (.getfield 28, 3) := by decide +kernel
theorem dX0_lead_65 : decode cX0_lead 65 = .ok (.iload_n 2, 1) := by decide +kernel
theorem dX0_lead_66 : decode cX0_lead 66 = .ok (.iaload, 1) := by decide +kernel
theorem dX0_lead_67 : decode cX0_lead 67 = .ok (.iload 4, 2) := by decide +kernel
theorem dX0_lead_69 : decode cX0_lead 69 = .ok (.iastore, 1) := by decide +kernel
theorem dX0_lead_70 : decode cX0_lead 70 = .ok (.iinc 2 1, 3) := by decide +kernel
theorem dX0_lead_73 : decode cX0_lead 73 = .ok (.goto (-71), 3) := by decide +kernel
theorem dX0_lead_76 : decode cX0_lead 76 = .ok (.return_, 1) := by decide +kernel
theorem dX0_firstUnsorted_0 : decode cX0_firstUnsorted 0 = .ok (.iconst 0, 1) := by decide +kernel
theorem dX0_firstUnsorted_1 : decode cX0_firstUnsorted 1 = .ok (.istore_n 1, 1) := by decide +kernel
theorem dX0_firstUnsorted_2 : decode cX0_firstUnsorted 2 = .ok (.iload_n 1, 1) := by decide +kernel
theorem dX0_firstUnsorted_3 : decode cX0_firstUnsorted 3 = .ok (.aload_n 0, 1) := by decide +kernel
theorem dX0_firstUnsorted_4 : decode cX0_firstUnsorted 4 = .ok (.invokevirtual 58, 3) := by decide +kernel
theorem dX0_firstUnsorted_7 : decode cX0_firstUnsorted 7 = .ok (.if_icmp .ge 36, 3) := by decide +kernel
theorem dX0_firstUnsorted_10 : decode cX0_firstUnsorted 10 = .ok (.aload_n 0, 1) := by decide +kernel
theorem dX0_firstUnsorted_11 : decode cX0_firstUnsorted 11 = .ok (.iload_n 1, 1) := by decide +kernel
theorem dX0_firstUnsorted_12 : decode cX0_firstUnsorted 12 = .ok (.invokevirtual 62, 3) := by decide +kernel
theorem dX0_firstUnsorted_15 : decode cX0_firstUnsorted 15 = .ok (.lstore_n 2, 1) := by decide +kernel
theorem dX0_firstUnsorted_16 : decode cX0_firstUnsorted 16 = .ok (.lload_n 2, 1) := by decide +kernel
theorem dX0_firstUnsorted_17 : decode cX0_firstUnsorted 17 = .ok (.lconst 0, 1) := by decide +kernel
theorem dX0_firstUnsorted_18 : decode cX0_firstUnsorted 18 = .ok (.lcmp, 1) := by decide +kernel
theorem dX0_firstUnsorted_19 : decode cX0_firstUnsorted 19 = .ok (.ifCond .eq 18, 3) := by decide +kernel
theorem dX0_firstUnsorted_22 : decode cX0_firstUnsorted 22 = .ok (.iload_n 1, 1) := by decide +kernel
theorem dX0_firstUnsorted_23 : decode cX0_firstUnsorted 23 = .ok (.bipush 64, 2) := by decide +kernel
theorem dX0_firstUnsorted_25 : decode cX0_firstUnsorted 25 = .ok (.imul, 1) := by decide +kernel
theorem dX0_firstUnsorted_26 : decode cX0_firstUnsorted 26 = .ok (.lload_n 2, 1) := by decide +kernel
theorem dX0_firstUnsorted_27 : decode cX0_firstUnsorted 27 = .ok (.lload_n 2, 1) := by decide +kernel
theorem dX0_firstUnsorted_28 : decode cX0_firstUnsorted 28 = .ok (.lneg, 1) := by decide +kernel
theorem dX0_firstUnsorted_29 : decode cX0_firstUnsorted 29 = .ok (.land, 1) := by decide +kernel
theorem dX0_firstUnsorted_30 : decode cX0_firstUnsorted 30 = .ok (.lconst 1, 1) := by decide +kernel
theorem dX0_firstUnsorted_31 : decode cX0_firstUnsorted 31 = .ok (.lsub, 1) := by decide +kernel
theorem dX0_firstUnsorted_32 : decode cX0_firstUnsorted 32 = .ok (.invokestatic 66, 3) := by decide +kernel
theorem dX0_firstUnsorted_35 : decode cX0_firstUnsorted 35 = .ok (.iadd, 1) := by decide +kernel
theorem dX0_firstUnsorted_36 : decode cX0_firstUnsorted 36 = .ok (.ireturn, 1) := by decide +kernel
theorem dX0_firstUnsorted_37 : decode cX0_firstUnsorted 37 = .ok (.iinc 1 1, 3) := by decide +kernel
theorem dX0_firstUnsorted_40 : decode cX0_firstUnsorted 40 = .ok (.goto (-38), 3) := by decide +kernel
theorem dX0_firstUnsorted_43 : decode cX0_firstUnsorted 43 = .ok (.bipush (-9), 2) := by decide +kernel
theorem dX0_firstUnsorted_45 : decode cX0_firstUnsorted 45 = .ok (.ireturn, 1) := by decide +kernel
theorem dX0_sortedRows_0 : decode cX0_sortedRows 0 = .ok (.iconst 1, 1) := by decide +kernel
theorem dX0_sortedRows_1 : decode cX0_sortedRows 1 = .ok (.aload_n 0, 1) := by decide +kernel
theorem dX0_sortedRows_2 : decode cX0_sortedRows 2 = .ok (.getfield 9, 3) := by decide +kernel
theorem dX0_sortedRows_5 : decode cX0_sortedRows 5 = .ok (.ishl, 1) := by decide +kernel
theorem dX0_sortedRows_6 : decode cX0_sortedRows 6 = .ok (.istore_n 1, 1) := by decide +kernel
theorem dX0_sortedRows_7 : decode cX0_sortedRows 7 = .ok (.iconst 0, 1) := by decide +kernel
theorem dX0_sortedRows_8 : decode cX0_sortedRows 8 = .ok (.istore_n 2, 1) := by decide +kernel
theorem dX0_sortedRows_9 : decode cX0_sortedRows 9 = .ok (.iload_n 2, 1) := by decide +kernel
theorem dX0_sortedRows_10 : decode cX0_sortedRows 10 = .ok (.aload_n 0, 1) := by decide +kernel
theorem dX0_sortedRows_11 : decode cX0_sortedRows 11 = .ok (.invokevirtual 58, 3) := by decide +kernel
theorem dX0_sortedRows_14 : decode cX0_sortedRows 14 = .ok (.if_icmp .ge 20, 3) := by decide +kernel
theorem dX0_sortedRows_17 : decode cX0_sortedRows 17 = .ok (.iload_n 1, 1) := by decide +kernel
theorem dX0_sortedRows_18 : decode cX0_sortedRows 18 = .ok (.aload_n 0, 1) := by decide +kernel
theorem dX0_sortedRows_19 : decode cX0_sortedRows 19 = .ok (.iload_n 2, 1) := by decide +kernel
theorem dX0_sortedRows_20 : decode cX0_sortedRows 20 = .ok (.invokevirtual 62, 3) := by decide +kernel
theorem dX0_sortedRows_23 : decode cX0_sortedRows 23 = .ok (.invokestatic 66, 3) := by decide +kernel
theorem dX0_sortedRows_26 : decode cX0_sortedRows 26 = .ok (.isub, 1) := by decide +kernel
theorem dX0_sortedRows_27 : decode cX0_sortedRows 27 = .ok (.istore_n 1, 1) := by decide +kernel
theorem dX0_sortedRows_28 : decode cX0_sortedRows 28 = .ok (.iinc 2 1, 3) := by decide +kernel
theorem dX0_sortedRows_31 : decode cX0_sortedRows 31 = .ok (.goto (-22), 3) := by decide +kernel
theorem dX0_sortedRows_34 : decode cX0_sortedRows 34 = .ok (.iload_n 1, 1) := by decide +kernel
theorem dX0_sortedRows_35 : decode cX0_sortedRows 35 = .ok (.ireturn, 1) := by decide +kernel
theorem dX0_idleOnes_0 : decode cX0_idleOnes 0 = .ok (.iconst 0, 1) := by decide +kernel
theorem dX0_idleOnes_1 : decode cX0_idleOnes 1 = .ok (.istore_n 1, 1) := by decide +kernel
theorem dX0_idleOnes_2 : decode cX0_idleOnes 2 = .ok (.iconst 0, 1) := by decide +kernel
theorem dX0_idleOnes_3 : decode cX0_idleOnes 3 = .ok (.istore_n 2, 1) := by decide +kernel
theorem dX0_idleOnes_4 : decode cX0_idleOnes 4 = .ok (.iload_n 2, 1) := by decide +kernel
theorem dX0_idleOnes_5 : decode cX0_idleOnes 5 = .ok (.aload_n 0, 1) := by decide +kernel
theorem dX0_idleOnes_6 : decode cX0_idleOnes 6 = .ok (.getfield 15, 3) := by decide +kernel
theorem dX0_idleOnes_9 : decode cX0_idleOnes 9 = .ok (.if_icmp .ge 21, 3) := by decide +kernel
theorem dX0_idleOnes_12 : decode cX0_idleOnes 12 = .ok (.aload_n 0, 1) := by decide +kernel
theorem dX0_idleOnes_13 : decode cX0_idleOnes 13 = .ok (.getfield 34, 3) := by decide +kernel
theorem dX0_idleOnes_16 : decode cX0_idleOnes 16 = .ok (.iload_n 2, 1) := by decide +kernel
theorem dX0_idleOnes_17 : decode cX0_idleOnes 17 = .ok (.baload, 1) := by decide +kernel
theorem dX0_idleOnes_18 : decode cX0_idleOnes 18 = .ok (.ifCond .eq 6, 3) := by decide +kernel
theorem dX0_idleOnes_21 : decode cX0_idleOnes 21 = .ok (.iinc 1 1, 3) := by decide +kernel
theorem dX0_idleOnes_24 : decode cX0_idleOnes 24 = .ok (.iinc 2 1, 3) := by decide +kernel
theorem dX0_idleOnes_27 : decode cX0_idleOnes 27 = .ok (.goto (-23), 3) := by decide +kernel
theorem dX0_idleOnes_30 : decode cX0_idleOnes 30 = .ok (.iload_n 1, 1) := by decide +kernel
theorem dX0_idleOnes_31 : decode cX0_idleOnes 31 = .ok (.ireturn, 1) := by decide +kernel
theorem dX0_kindOf_0 : decode cX0_kindOf 0 = .ok (.aload_n 0, 1) := by decide +kernel
theorem dX0_kindOf_1 : decode cX0_kindOf 1 = .ok (.getfield 24, 3) := by decide +kernel
theorem dX0_kindOf_4 : decode cX0_kindOf 4 = .ok (.iload_n 1, 1) := by decide +kernel
theorem dX0_kindOf_5 : decode cX0_kindOf 5 = .ok (.iaload, 1) := by decide +kernel
theorem dX0_kindOf_6 : decode cX0_kindOf 6 = .ok (.aload_n 0, 1) := by decide +kernel
theorem dX0_kindOf_7 : decode cX0_kindOf 7 = .ok (.getfield 28, 3) := by decide +kernel
theorem dX0_kindOf_10 : decode cX0_kindOf 10 = .ok (.iload_n 1, 1) := by decide +kernel
theorem dX0_kindOf_11 : decode cX0_kindOf 11 = .ok (.iaload, 1) := by decide +kernel
theorem dX0_kindOf_12 : decode cX0_kindOf 12 = .ok (.if_icmp .le 5, 3) := by decide +kernel
theorem dX0_kindOf_15 : decode cX0_kindOf 15 = .ok (.iconst 2, 1) := by decide +kernel
theorem dX0_kindOf_16 : decode cX0_kindOf 16 = .ok (.ireturn, 1) := by decide +kernel
theorem dX0_kindOf_17 : decode cX0_kindOf 17 = .ok (.aload_n 0, 1) := by decide +kernel
theorem dX0_kindOf_18 : decode cX0_kindOf 18 = .ok (.getfield 28, 3) := by decide +kernel
theorem dX0_kindOf_21 : decode cX0_kindOf 21 = .ok (.iload_n 1, 1) := by decide +kernel
theorem dX0_kindOf_22 : decode cX0_kindOf 22 = .ok (.iaload, 1) := by decide +kernel
theorem dX0_kindOf_23 : decode cX0_kindOf 23 = .ok (.aload_n 0, 1) := by decide +kernel
theorem dX0_kindOf_24 : decode cX0_kindOf 24 = .ok (.getfield 24, 3) := by decide +kernel
theorem dX0_kindOf_27 : decode cX0_kindOf 27 = .ok (.iload_n 1, 1) := by decide +kernel
theorem dX0_kindOf_28 : decode cX0_kindOf 28 = .ok (.iaload, 1) := by decide +kernel
theorem dX0_kindOf_29 : decode cX0_kindOf 29 = .ok (.isub, 1) := by decide +kernel
theorem dX0_kindOf_30 : decode cX0_kindOf 30 = .ok (.iconst 1, 1) := by decide +kernel
theorem dX0_kindOf_31 : decode cX0_kindOf 31 = .ok (.if_icmp .le 7, 3) := by decide +kernel
theorem dX0_kindOf_34 : decode cX0_kindOf 34 = .ok (.iconst 1, 1) := by decide +kernel
theorem dX0_kindOf_35 : decode cX0_kindOf 35 = .ok (.goto 4, 3) := by decide +kernel
theorem dX0_kindOf_38 : decode cX0_kindOf 38 = .ok (.iconst 0, 1) := by decide +kernel
theorem dX0_kindOf_39 : decode cX0_kindOf 39 = .ok (.ireturn, 1) := by decide +kernel
theorem dX0_told_0 : decode cX0_told 0 = .ok (.aload_n 0, 1) := by decide +kernel
theorem dX0_told_1 : decode cX0_told 1 = .ok (.iload_n 1, 1) := by decide +kernel
theorem dX0_told_2 : decode cX0_told 2 = .ok (.invokevirtual 72, 3) := by decide +kernel
theorem dX0_told_5 : decode cX0_told 5 = .ok (.lookupswitch 39 #[(1, 33), (2, 27)], 27) := by decide +kernel
theorem dX0_told_32 : decode cX0_told 32 = .ok (.aload_n 0, 1) := by decide +kernel
theorem dX0_told_33 : decode cX0_told 33 = .ok (.iload_n 1, 1) := by decide +kernel
theorem dX0_told_34 : decode cX0_told 34 = .ok (.invokevirtual 76, 3) := by decide +kernel
theorem dX0_told_37 : decode cX0_told 37 = .ok (.ireturn, 1) := by decide +kernel
theorem dX0_told_38 : decode cX0_told 38 = .ok (.aload_n 0, 1) := by decide +kernel
theorem dX0_told_39 : decode cX0_told 39 = .ok (.iload_n 1, 1) := by decide +kernel
theorem dX0_told_40 : decode cX0_told 40 = .ok (.invokevirtual 79, 3) := by decide +kernel
theorem dX0_told_43 : decode cX0_told 43 = .ok (.ireturn, 1) := by decide +kernel
theorem dX0_told_44 : decode cX0_told 44 = .ok (.aload_n 0, 1) := by decide +kernel
theorem dX0_told_45 : decode cX0_told 45 = .ok (.iload_n 1, 1) := by decide +kernel
theorem dX0_told_46 : decode cX0_told 46 = .ok (.invokevirtual 82, 3) := by decide +kernel
theorem dX0_told_49 : decode cX0_told 49 = .ok (.ireturn, 1) := by decide +kernel
theorem dX0_shown_0 : decode cX0_shown 0 = .ok (.aload_n 0, 1) := by decide +kernel
theorem dX0_shown_1 : decode cX0_shown 1 = .ok (.iload_n 1, 1) := by decide +kernel
theorem dX0_shown_2 : decode cX0_shown 2 = .ok (.invokevirtual 72, 3) := by decide +kernel
theorem dX0_shown_5 : decode cX0_shown 5 = .ok (.iconst 2, 1) := by decide +kernel
theorem dX0_shown_6 : decode cX0_shown 6 = .ok (.if_icmp .ne 7, 3) := by decide +kernel
theorem dX0_shown_9 : decode cX0_shown 9 = .ok (.iconst 1, 1) := by decide +kernel
theorem dX0_shown_10 : decode cX0_shown 10 = .ok (.goto 4, 3) := by decide +kernel
theorem dX0_shown_13 : decode cX0_shown 13 = .ok (.iconst 0, 1) := by decide +kernel
theorem dX0_shown_14 : decode cX0_shown 14 = .ok (.istore_n 2, 1) := by decide +kernel
theorem dX0_shown_15 : decode cX0_shown 15 = .ok (.aload_n 0, 1) := by decide +kernel
theorem dX0_shown_16 : decode cX0_shown 16 = .ok (.iload_n 2, 1) := by decide +kernel
theorem dX0_shown_17 : decode cX0_shown 17 = .ok (.ifCond .eq 7, 3) := by decide +kernel
theorem dX0_shown_20 : decode cX0_shown 20 = .ok (.iconst 5, 1) := by decide +kernel
theorem dX0_shown_21 : decode cX0_shown 21 = .ok (.goto 4, 3) := by decide +kernel
theorem dX0_shown_24 : decode cX0_shown 24 = .ok (.iconst 4, 1) := by decide +kernel
theorem dX0_shown_25 : decode cX0_shown 25 = .ok (.invokevirtual 85, 3) := by decide +kernel
theorem dX0_shown_28 : decode cX0_shown 28 = .ok (.iload_n 2, 1) := by decide +kernel
theorem dX0_shown_29 : decode cX0_shown 29 = .ok (.ifCond .eq 8, 3) := by decide +kernel
theorem dX0_shown_32 : decode cX0_shown 32 = .ok (.bipush 30, 2) := by decide +kernel
theorem dX0_shown_34 : decode cX0_shown 34 = .ok (.goto 4, 3) := by decide +kernel
theorem dX0_shown_37 : decode cX0_shown 37 = .ok (.iload_n 1, 1) := by decide +kernel
theorem dX0_shown_38 : decode cX0_shown 38 = .ok (.ireturn, 1) := by decide +kernel
theorem dX0_toldPlain_0 : decode cX0_toldPlain 0 = .ok (.aload_n 0, 1) := by decide +kernel
theorem dX0_toldPlain_1 : decode cX0_toldPlain 1 = .ok (.iconst 1, 1) := by decide +kernel
theorem dX0_toldPlain_2 : decode cX0_toldPlain 2 = .ok (.invokevirtual 85, 3) := by decide +kernel
theorem dX0_toldPlain_5 : decode cX0_toldPlain 5 = .ok (.aload_n 0, 1) := by decide +kernel
theorem dX0_toldPlain_6 : decode cX0_toldPlain 6 = .ok (.getfield 24, 3) := by decide +kernel
theorem dX0_toldPlain_9 : decode cX0_toldPlain 9 = .ok (.iload_n 1, 1) := by decide +kernel
theorem dX0_toldPlain_10 : decode cX0_toldPlain 10 = .ok (.iaload, 1) := by decide +kernel
theorem dX0_toldPlain_11 : decode cX0_toldPlain 11 = .ok (.ireturn, 1) := by decide +kernel
theorem dX0_toldLong_0 : decode cX0_toldLong 0 = .ok (.aload_n 0, 1) := by decide +kernel
theorem dX0_toldLong_1 : decode cX0_toldLong 1 = .ok (.iconst 2, 1) := by decide +kernel
theorem dX0_toldLong_2 : decode cX0_toldLong 2 = .ok (.invokevirtual 85, 3) := by decide +kernel
theorem dX0_toldLong_5 : decode cX0_toldLong 5 = .ok (.aload_n 0, 1) := by decide +kernel
theorem dX0_toldLong_6 : decode cX0_toldLong 6 = .ok (.iload_n 1, 1) := by decide +kernel
theorem dX0_toldLong_7 : decode cX0_toldLong 7 = .ok (.invokevirtual 82, 3) := by decide +kernel
theorem dX0_toldLong_10 : decode cX0_toldLong 10 = .ok (.aload_n 0, 1) := by decide +kernel
theorem dX0_toldLong_11 : decode cX0_toldLong 11 = .ok (.getfield 28, 3) := by decide +kernel
theorem dX0_toldLong_14 : decode cX0_toldLong 14 = .ok (.iload_n 1, 1) := by decide +kernel
theorem dX0_toldLong_15 : decode cX0_toldLong 15 = .ok (.iaload, 1) := by decide +kernel
theorem dX0_toldLong_16 : decode cX0_toldLong 16 = .ok (.iadd, 1) := by decide +kernel
theorem dX0_toldLong_17 : decode cX0_toldLong 17 = .ok (.ireturn, 1) := by decide +kernel
theorem dX0_toldTurned_0 : decode cX0_toldTurned 0 = .ok (.aload_n 0, 1) := by decide +kernel
theorem dX0_toldTurned_1 : decode cX0_toldTurned 1 = .ok (.iconst 3, 1) := by decide +kernel
theorem dX0_toldTurned_2 : decode cX0_toldTurned 2 = .ok (.invokevirtual 85, 3) := by decide +kernel
theorem dX0_toldTurned_5 : decode cX0_toldTurned 5 = .ok (.aload_n 0, 1) := by decide +kernel
theorem dX0_toldTurned_6 : decode cX0_toldTurned 6 = .ok (.iload_n 1, 1) := by decide +kernel
theorem dX0_toldTurned_7 : decode cX0_toldTurned 7 = .ok (.invokevirtual 79, 3) := by decide +kernel
theorem dX0_toldTurned_10 : decode cX0_toldTurned 10 = .ok (.aload_n 0, 1) := by decide +kernel
theorem dX0_toldTurned_11 : decode cX0_toldTurned 11 = .ok (.iload_n 1, 1) := by decide +kernel
theorem dX0_toldTurned_12 : decode cX0_toldTurned 12 = .ok (.invokevirtual 82, 3) := by decide +kernel
theorem dX0_toldTurned_15 : decode cX0_toldTurned 15 = .ok (.iadd, 1) := by decide +kernel
theorem dX0_toldTurned_16 : decode cX0_toldTurned 16 = .ok (.ireturn, 1) := by decide +kernel
theorem dX0_leaveTrace_0 : decode cX0_leaveTrace 0 = .ok (.aload_n 0, 1) := by decide +kernel
theorem dX0_leaveTrace_1 : decode cX0_leaveTrace 1 = .ok (.bipush 31, 2) := by decide +kernel
theorem dX0_leaveTrace_3 : decode cX0_leaveTrace 3 = .ok (.aload_n 0, 1) := by decide +kernel
theorem dX0_leaveTrace_4 : decode cX0_leaveTrace 4 = .ok (.getfield 21, 3) := by decide +kernel
theorem dX0_leaveTrace_7 : decode cX0_leaveTrace 7 = .ok (.imul, 1) := by decide +kernel
theorem dX0_leaveTrace_8 : decode cX0_leaveTrace 8 = .ok (.iload_n 1, 1) := by decide +kernel
theorem dX0_leaveTrace_9 : decode cX0_leaveTrace 9 = .ok (.iadd, 1) := by decide +kernel
theorem dX0_leaveTrace_10 : decode cX0_leaveTrace 10 = .ok (.putfield 21, 3) := by decide +kernel
theorem dX0_leaveTrace_13 : decode cX0_leaveTrace 13 = .ok (.return_, 1) := by decide +kernel
theorem dX0_words_0 : decode cX0_words 0 = .ok (.iconst 1, 1) := by decide +kernel
theorem dX0_words_1 : decode cX0_words 1 = .ok (.iconst 1, 1) := by decide +kernel
theorem dX0_words_2 : decode cX0_words 2 = .ok (.aload_n 0, 1) := by decide +kernel
theorem dX0_words_3 : decode cX0_words 3 = .ok (.getfield 9, 3) := by decide +kernel
theorem dX0_words_6 : decode cX0_words 6 = .ok (.ishl, 1) := by decide +kernel
theorem dX0_words_7 : decode cX0_words 7 = .ok (.bipush 64, 2) := by decide +kernel
theorem dX0_words_9 : decode cX0_words 9 = .ok (.idiv, 1) := by decide +kernel
theorem dX0_words_10 : decode cX0_words 10 = .ok (.invokestatic 55, 3) := by decide +kernel
theorem dX0_words_13 : decode cX0_words 13 = .ok (.ireturn, 1) := by decide +kernel
theorem dX0_leadAllRows_0 : decode cX0_leadAllRows 0 = .ok (.aload_n 0, 1) := by decide +kernel
theorem dX0_leadAllRows_1 : decode cX0_leadAllRows 1 = .ok (.iconst 0, 1) := by decide +kernel
theorem dX0_leadAllRows_2 : decode cX0_leadAllRows 2 = .ok (.putfield 18, 3) := by decide +kernel
theorem dX0_leadAllRows_5 : decode cX0_leadAllRows 5 = .ok (.aload_n 0, 1) := by decide +kernel
theorem dX0_leadAllRows_6 : decode cX0_leadAllRows 6 = .ok (.getfield 38, 3) := by decide +kernel
theorem dX0_leadAllRows_9 : decode cX0_leadAllRows 9 = .ok (.iconst 0, 1) := by decide +kernel
theorem dX0_leadAllRows_10 : decode cX0_leadAllRows 10 = .ok (.invokestatic 89, 3) := by decide +kernel
theorem dX0_leadAllRows_13 : decode cX0_leadAllRows 13 = .ok (.aload_n 0, 1) := by decide +kernel
theorem dX0_leadAllRows_14 : decode cX0_leadAllRows 14 = .ok (.invokevirtual 95, 3) := by decide +kernel
theorem dX0_leadAllRows_17 : decode cX0_leadAllRows 17 = .ok (.iconst 0, 1) := by decide +kernel
theorem dX0_leadAllRows_18 : decode cX0_leadAllRows 18 = .ok (.istore_n 1, 1) := by decide +kernel
theorem dX0_leadAllRows_19 : decode cX0_leadAllRows 19 = .ok (.iload_n 1, 1) := by decide +kernel
theorem dX0_leadAllRows_20 : decode cX0_leadAllRows 20 = .ok (.aload_n 0, 1) := by decide +kernel
theorem dX0_leadAllRows_21 : decode cX0_leadAllRows 21 = .ok (.getfield 15, 3) := by decide +kernel
theorem dX0_leadAllRows_24 : decode cX0_leadAllRows 24 = .ok (.if_icmp .ge 137, 3) := by decide +kernel
theorem dX0_leadAllRows_27 : decode cX0_leadAllRows 27 = .ok (.aload_n 0, 1) := by decide +kernel
theorem dX0_leadAllRows_28 : decode cX0_leadAllRows 28 = .ok (.getfield 31, 3) := by decide +kernel
theorem dX0_leadAllRows_31 : decode cX0_leadAllRows 31 = .ok (.iload_n 1, 1) := by decide +kernel
theorem dX0_leadAllRows_32 : decode cX0_leadAllRows 32 = .ok (.aload_n 0, 1) := by decide +kernel
theorem dX0_leadAllRows_33 : decode cX0_leadAllRows 33 = .ok (.getfield 38, 3) := by decide +kernel
theorem dX0_leadAllRows_36 : decode cX0_leadAllRows 36 = .ok (.aload_n 0, 1) := by decide +kernel
theorem dX0_leadAllRows_37 : decode cX0_leadAllRows 37 = .ok (.getfield 24, 3) := by decide +kernel
theorem dX0_leadAllRows_40 : decode cX0_leadAllRows 40 = .ok (.iload_n 1, 1) := by decide +kernel
theorem dX0_leadAllRows_41 : decode cX0_leadAllRows 41 = .ok (.iaload, 1) := by decide +kernel
theorem dX0_leadAllRows_42 : decode cX0_leadAllRows 42 = .ok (.iaload, 1) := by decide +kernel
theorem dX0_leadAllRows_43 : decode cX0_leadAllRows 43 = .ok (.aload_n 0, 1) := by decide +kernel
theorem dX0_leadAllRows_44 : decode cX0_leadAllRows 44 = .ok (.getfield 38, 3) := by decide +kernel
theorem dX0_leadAllRows_47 : decode cX0_leadAllRows 47 = .ok (.aload_n 0, 1) := by decide +kernel
theorem dX0_leadAllRows_48 : decode cX0_leadAllRows 48 = .ok (.getfield 28, 3) := by decide +kernel
theorem dX0_leadAllRows_51 : decode cX0_leadAllRows 51 = .ok (.iload_n 1, 1) := by decide +kernel
theorem dX0_leadAllRows_52 : decode cX0_leadAllRows 52 = .ok (.iaload, 1) := by decide +kernel
theorem dX0_leadAllRows_53 : decode cX0_leadAllRows 53 = .ok (.iaload, 1) := by decide +kernel
theorem dX0_leadAllRows_54 : decode cX0_leadAllRows 54 = .ok (.invokestatic 55, 3) := by decide +kernel
theorem dX0_leadAllRows_57 : decode cX0_leadAllRows 57 = .ok (.iastore, 1) := by decide +kernel
theorem dX0_leadAllRows_58 : decode cX0_leadAllRows 58 = .ok (.aload_n 0, 1) := by decide +kernel
theorem dX0_leadAllRows_59 : decode cX0_leadAllRows 59 = .ok (.getfield 38, 3) := by decide +kernel
theorem dX0_leadAllRows_62 : decode cX0_leadAllRows 62 = .ok (.aload_n 0, 1) := by decide +kernel
theorem dX0_leadAllRows_63 : decode cX0_leadAllRows 63 = .ok (.getfield 24, 3) := by decide +kernel
theorem dX0_leadAllRows_66 : decode cX0_leadAllRows 66 = .ok (.iload_n 1, 1) := by decide +kernel
theorem dX0_leadAllRows_67 : decode cX0_leadAllRows 67 = .ok (.iaload, 1) := by decide +kernel
theorem dX0_leadAllRows_68 : decode cX0_leadAllRows 68 = .ok (.aload_n 0, 1) := by decide +kernel
theorem dX0_leadAllRows_69 : decode cX0_leadAllRows 69 = .ok (.getfield 31, 3) := by decide +kernel
theorem dX0_leadAllRows_72 : decode cX0_leadAllRows 72 = .ok (.iload_n 1, 1) := by decide +kernel
theorem dX0_leadAllRows_73 : decode cX0_leadAllRows 73 = .ok (.iaload, 1) := by decide +kernel
theorem dX0_leadAllRows_74 : decode cX0_leadAllRows 74 = .ok (.iconst 1, 1) := by decide +kernel
theorem dX0_leadAllRows_75 : decode cX0_leadAllRows 75 = .ok (.iadd, 1) := by decide +kernel
theorem dX0_leadAllRows_76 : decode cX0_leadAllRows 76 = .ok (.iastore, 1) := by decide +kernel
theorem dX0_leadAllRows_77 : decode cX0_leadAllRows 77 = .ok (.aload_n 0, 1) := by decide +kernel
theorem dX0_leadAllRows_78 : decode cX0_leadAllRows 78 = .ok (.getfield 38, 3) := by decide +kernel
theorem dX0_leadAllRows_81 : decode cX0_leadAllRows 81 = .ok (.aload_n 0, 1) := by decide +kernel
theorem dX0_leadAllRows_82 : decode cX0_leadAllRows 82 = .ok (.getfield 28, 3) := by decide +kernel
theorem dX0_leadAllRows_85 : decode cX0_leadAllRows 85 = .ok (.iload_n 1, 1) := by decide +kernel
theorem dX0_leadAllRows_86 : decode cX0_leadAllRows 86 = .ok (.iaload, 1) := by decide +kernel
theorem dX0_leadAllRows_87 : decode cX0_leadAllRows 87 = .ok (.aload_n 0, 1) := by decide +kernel
theorem dX0_leadAllRows_88 : decode cX0_leadAllRows 88 = .ok (.getfield 31, 3) := by decide +kernel
theorem dX0_leadAllRows_91 : decode cX0_leadAllRows 91 = .ok (.iload_n 1, 1) := by decide +kernel
theorem dX0_leadAllRows_92 : decode cX0_leadAllRows 92 = .ok (.iaload, 1) := by decide +kernel
theorem dX0_leadAllRows_93 : decode cX0_leadAllRows 93 = .ok (.iconst 1, 1) := by decide +kernel
theorem dX0_leadAllRows_94 : decode cX0_leadAllRows 94 = .ok (.iadd, 1) := by decide +kernel
theorem dX0_leadAllRows_95 : decode cX0_leadAllRows 95 = .ok (.iastore, 1) := by decide +kernel
theorem dX0_leadAllRows_96 : decode cX0_leadAllRows 96 = .ok (.aload_n 0, 1) := by decide +kernel
theorem dX0_leadAllRows_97 : decode cX0_leadAllRows 97 = .ok (.aload_n 0, 1) := by decide +kernel
theorem dX0_leadAllRows_98 : decode cX0_leadAllRows 98 = .ok (.getfield 18, 3) := by decide +kernel
theorem dX0_leadAllRows_101 : decode cX0_leadAllRows 101 = .ok (.aload_n 0, 1) := by decide +kernel
theorem dX0_leadAllRows_102 : decode cX0_leadAllRows 102 = .ok (.getfield 31, 3) := by decide +kernel
theorem dX0_leadAllRows_105 : decode cX0_leadAllRows 105 = .ok (.iload_n 1, 1) := by decide +kernel
theorem dX0_leadAllRows_106 : decode cX0_leadAllRows 106 = .ok (.iaload, 1) := by decide +kernel
theorem dX0_leadAllRows_107 : decode cX0_leadAllRows 107 = .ok (.iconst 1, 1) := by decide +kernel
theorem dX0_leadAllRows_108 : decode cX0_leadAllRows 108 = .ok (.iadd, 1) := by decide +kernel
theorem dX0_leadAllRows_109 : decode cX0_leadAllRows 109 = .ok (.invokestatic 55, 3) := by decide +kernel
theorem dX0_leadAllRows_112 : decode cX0_leadAllRows 112 = .ok (.putfield 18, 3) := by decide +kernel
theorem dX0_leadAllRows_115 : decode cX0_leadAllRows 115 = .ok (.aload_n 0, 1) := by decide +kernel
theorem dX0_leadAllRows_116 : decode cX0_leadAllRows 116 = .ok (.getfield 34, 3) := by decide +kernel
theorem dX0_leadAllRows_119 : decode cX0_leadAllRows 119 = .ok (.iload_n 1, 1) := by decide +kernel
theorem dX0_leadAllRows_120 : decode cX0_leadAllRows 120 = .ok (.aload_n 0, 1) := by decide +kernel
theorem dX0_leadAllRows_121 : decode cX0_leadAllRows 121 = .ok (.aload_n 0, 1) := by decide +kernel
theorem dX0_leadAllRows_122 : decode cX0_leadAllRows 122 = .ok (.getfield 43, 3) := by decide +kernel
theorem dX0_leadAllRows_125 : decode cX0_leadAllRows 125 = .ok (.aload_n 0, 1) := by decide +kernel
theorem dX0_leadAllRows_126 : decode cX0_leadAllRows 126 = .ok (.getfield 24, 3) := by decide +kernel
theorem dX0_leadAllRows_129 : decode cX0_leadAllRows 129 = .ok (.iload_n 1, 1) := by decide +kernel
theorem dX0_leadAllRows_130 : decode cX0_leadAllRows 130 = .ok (.iaload, 1) := by decide +kernel
theorem dX0_leadAllRows_131 : decode cX0_leadAllRows 131 = .ok (.aaload, 1) := by decide +kernel
theorem dX0_leadAllRows_132 : decode cX0_leadAllRows 132 = .ok (.aload_n 0, 1) := by decide +kernel
theorem dX0_leadAllRows_133 : decode cX0_leadAllRows 133 = .ok (.getfield 43, 3) := by decide +kernel
theorem dX0_leadAllRows_136 : decode cX0_leadAllRows 136 = .ok (.aload_n 0, 1) := by decide +kernel
theorem dX0_leadAllRows_137 : decode cX0_leadAllRows 137 = .ok (.getfield 28, 3) := by decide +kernel
theorem dX0_leadAllRows_140 : decode cX0_leadAllRows 140 = .ok (.iload_n 1, 1) := by decide +kernel
theorem dX0_leadAllRows_141 : decode cX0_leadAllRows 141 = .ok (.iaload, 1) := by decide +kernel
theorem dX0_leadAllRows_142 : decode cX0_leadAllRows 142 = .ok (.aaload, 1) := by decide +kernel
theorem dX0_leadAllRows_143 : decode cX0_leadAllRows 143 = .ok (.invokevirtual 98, 3) := by decide +kernel
theorem dX0_leadAllRows_146 : decode cX0_leadAllRows 146 = .ok (.ifCond .ne 7, 3) := by decide +kernel
theorem dX0_leadAllRows_149 : decode cX0_leadAllRows 149 = .ok (.iconst 1, 1) := by decide +kernel
theorem dX0_leadAllRows_150 : decode cX0_leadAllRows 150 = .ok (.goto 4, 3) := by decide +kernel
theorem dX0_leadAllRows_153 : decode cX0_leadAllRows 153 = .ok (.iconst 0, 1) := by decide +kernel
theorem dX0_leadAllRows_154 : decode cX0_leadAllRows 154 = .ok (.bastore, 1) := by decide +kernel
theorem dX0_leadAllRows_155 : decode cX0_leadAllRows 155 = .ok (.iinc 1 1, 3) := by decide +kernel
theorem dX0_leadAllRows_158 : decode cX0_leadAllRows 158 = .ok (.goto (-139), 3) := by decide +kernel
theorem dX0_leadAllRows_161 : decode cX0_leadAllRows 161 = .ok (.return_, 1) := by decide +kernel
theorem dX0_layAllRows_0 : decode cX0_layAllRows 0 = .ok (.getstatic 102, 3) := by decide +kernel
theorem dX0_layAllRows_3 : decode cX0_layAllRows 3 = .ok (.arraylength, 1) := by decide +kernel
theorem dX0_layAllRows_4 : decode cX0_layAllRows 4 = .ok (.istore_n 1, 1) := by decide +kernel
theorem dX0_layAllRows_5 : decode cX0_layAllRows 5 = .ok (.iconst 0, 1) := by decide +kernel
theorem dX0_layAllRows_6 : decode cX0_layAllRows 6 = .ok (.istore_n 2, 1) := by decide +kernel
theorem dX0_layAllRows_7 : decode cX0_layAllRows 7 = .ok (.iload_n 2, 1) := by decide +kernel
theorem dX0_layAllRows_8 : decode cX0_layAllRows 8 = .ok (.aload_n 0, 1) := by decide +kernel
theorem dX0_layAllRows_9 : decode cX0_layAllRows 9 = .ok (.getfield 9, 3) := by decide +kernel
theorem dX0_layAllRows_12 : decode cX0_layAllRows 12 = .ok (.if_icmp .ge 55, 3) := by decide +kernel
theorem dX0_layAllRows_15 : decode cX0_layAllRows 15 = .ok (.iconst 0, 1) := by decide +kernel
theorem dX0_layAllRows_16 : decode cX0_layAllRows 16 = .ok (.istore_n 3, 1) := by decide +kernel
theorem dX0_layAllRows_17 : decode cX0_layAllRows 17 = .ok (.iload_n 3, 1) := by decide +kernel
theorem dX0_layAllRows_18 : decode cX0_layAllRows 18 = .ok (.aload_n 0, 1) := by decide +kernel
theorem dX0_layAllRows_19 : decode cX0_layAllRows 19 = .ok (.invokevirtual 58, 3) := by decide +kernel
theorem dX0_layAllRows_22 : decode cX0_layAllRows 22 = .ok (.if_icmp .ge 39, 3) := by decide +kernel
theorem dX0_layAllRows_25 : decode cX0_layAllRows 25 = .ok (.aload_n 0, 1) := by decide +kernel
theorem dX0_layAllRows_26 : decode cX0_layAllRows 26 = .ok (.getfield 43, 3) := by decide +kernel
theorem dX0_layAllRows_29 : decode cX0_layAllRows 29 = .ok (.iload_n 2, 1) := by decide +kernel
theorem dX0_layAllRows_30 : decode cX0_layAllRows 30 = .ok (.aaload, 1) := by decide +kernel
theorem dX0_layAllRows_31 : decode cX0_layAllRows 31 = .ok (.iload_n 3, 1) := by decide +kernel
theorem dX0_layAllRows_32 : decode cX0_layAllRows 32 = .ok (.iload_n 2, 1) := by decide +kernel
theorem dX0_layAllRows_33 : decode cX0_layAllRows 33 = .ok (.iload_n 1, 1) := by decide +kernel
theorem dX0_layAllRows_34 : decode cX0_layAllRows 34 = .ok (.if_icmp .ge 11, 3) := by decide +kernel
theorem dX0_layAllRows_37 : decode cX0_layAllRows 37 = .ok (.getstatic 102, 3) := by decide +kernel
theorem dX0_layAllRows_40 : decode cX0_layAllRows 40 = .ok (.iload_n 2, 1) := by decide +kernel
theorem dX0_layAllRows_41 : decode cX0_layAllRows 41 = .ok (.laload, 1) := by decide +kernel
theorem dX0_layAllRows_42 : decode cX0_layAllRows 42 = .ok (.goto 12, 3) := by decide +kernel
theorem dX0_layAllRows_45 : decode cX0_layAllRows 45 = .ok (.iload_n 3, 1) := by decide +kernel
theorem dX0_layAllRows_46 : decode cX0_layAllRows 46 = .ok (.iload_n 2, 1) := by decide +kernel
theorem dX0_layAllRows_47 : decode cX0_layAllRows 47 = .ok (.iload_n 1, 1) := by decide +kernel
theorem dX0_layAllRows_48 : decode cX0_layAllRows 48 = .ok (.isub, 1) := by decide +kernel
theorem dX0_layAllRows_49 : decode cX0_layAllRows 49 = .ok (.ishr, 1) := by decide +kernel
theorem dX0_layAllRows_50 : decode cX0_layAllRows 50 = .ok (.iconst 1, 1) := by decide +kernel
theorem dX0_layAllRows_51 : decode cX0_layAllRows 51 = .ok (.iand, 1) := by decide +kernel
theorem dX0_layAllRows_52 : decode cX0_layAllRows 52 = .ok (.i2l, 1) := by decide +kernel
theorem dX0_layAllRows_53 : decode cX0_layAllRows 53 = .ok (.lneg, 1) := by decide +kernel
theorem dX0_layAllRows_54 : decode cX0_layAllRows 54 = .ok (.lastore, 1) := by decide +kernel
theorem dX0_layAllRows_55 : decode cX0_layAllRows 55 = .ok (.iinc 3 1, 3) := by decide +kernel
theorem dX0_layAllRows_58 : decode cX0_layAllRows 58 = .ok (.goto (-41), 3) := by decide +kernel
theorem dX0_layAllRows_61 : decode cX0_layAllRows 61 = .ok (.iinc 2 1, 3) := by decide +kernel
theorem dX0_layAllRows_64 : decode cX0_layAllRows 64 = .ok (.goto (-57), 3) := by decide +kernel
theorem dX0_layAllRows_67 : decode cX0_layAllRows 67 = .ok (.return_, 1) := by decide +kernel
theorem dX0_changesRows_0 : decode cX0_changesRows 0 = .ok (.lconst 0, 1) := by decide +kernel
theorem dX0_changesRows_1 : decode cX0_changesRows 1 = .ok (.lstore_n 3, 1) := by decide +kernel
theorem dX0_changesRows_2 : decode cX0_changesRows 2 = .ok (.iconst 0, 1) := by decide +kernel
theorem dX0_changesRows_3 : decode cX0_changesRows 3 = .ok (.istore 5, 2) := by decide +kernel
theorem dX0_changesRows_5 : decode cX0_changesRows 5 = .ok (.iload 5, 2) := by decide +kernel
theorem dX0_changesRows_7 : decode cX0_changesRows 7 = .ok (.aload_n 0, 1) := by decide +kernel
theorem dX0_changesRows_8 : decode cX0_changesRows 8 = .ok (.invokevirtual 58, 3) := by decide +kernel
theorem dX0_changesRows_11 : decode cX0_changesRows 11 = .ok (.if_icmp .ge 47, 3) := by decide +kernel
theorem dX0_changesRows_14 : decode cX0_changesRows 14 = .ok (.aload_n 1, 1) := by decide +kernel
theorem dX0_changesRows_15 : decode cX0_changesRows 15 = .ok (.iload 5, 2) := by decide +kernel
theorem dX0_changesRows_17 : decode cX0_changesRows 17 = .ok (.laload, 1) := by decide +kernel
theorem dX0_changesRows_18 : decode cX0_changesRows 18 = .ok (.aload_n 2, 1) := by decide +kernel
theorem dX0_changesRows_19 : decode cX0_changesRows 19 = .ok (.iload 5, 2) := by decide +kernel
theorem dX0_changesRows_21 : decode cX0_changesRows 21 = .ok (.laload, 1) := by decide +kernel
theorem dX0_changesRows_22 : decode cX0_changesRows 22 = .ok (.ldc2_w 106, 3) := by decide +kernel
theorem dX0_changesRows_25 : decode cX0_changesRows 25 = .ok (.lxor, 1) := by decide +kernel
theorem dX0_changesRows_26 : decode cX0_changesRows 26 = .ok (.land, 1) := by decide +kernel
theorem dX0_changesRows_27 : decode cX0_changesRows 27 = .ok (.lstore 6, 2) := by decide +kernel
theorem dX0_changesRows_29 : decode cX0_changesRows 29 = .ok (.aload_n 1, 1) := by decide +kernel
theorem dX0_changesRows_30 : decode cX0_changesRows 30 = .ok (.iload 5, 2) := by decide +kernel
theorem dX0_changesRows_32 : decode cX0_changesRows 32 = .ok (.dup2, 1) := by decide +kernel
theorem dX0_changesRows_33 : decode cX0_changesRows 33 = .ok (.laload, 1) := by decide +kernel
theorem dX0_changesRows_34 : decode cX0_changesRows 34 = .ok (.lload 6, 2) := by decide +kernel
theorem dX0_changesRows_36 : decode cX0_changesRows 36 = .ok (.lxor, 1) := by decide +kernel
theorem dX0_changesRows_37 : decode cX0_changesRows 37 = .ok (.lastore, 1) := by decide +kernel
theorem dX0_changesRows_38 : decode cX0_changesRows 38 = .ok (.aload_n 2, 1) := by decide +kernel
theorem dX0_changesRows_39 : decode cX0_changesRows 39 = .ok (.iload 5, 2) := by decide +kernel
theorem dX0_changesRows_41 : decode cX0_changesRows 41 = .ok (.dup2, 1) := by decide +kernel
theorem dX0_changesRows_42 : decode cX0_changesRows 42 = .ok (.laload, 1) := by decide +kernel
theorem dX0_changesRows_43 : decode cX0_changesRows 43 = .ok (.lload 6, 2) := by decide +kernel
theorem dX0_changesRows_45 : decode cX0_changesRows 45 = .ok (.lxor, 1) := by decide +kernel
theorem dX0_changesRows_46 : decode cX0_changesRows 46 = .ok (.lastore, 1) := by decide +kernel
theorem dX0_changesRows_47 : decode cX0_changesRows 47 = .ok (.lload_n 3, 1) := by decide +kernel
theorem dX0_changesRows_48 : decode cX0_changesRows 48 = .ok (.lload 6, 2) := by decide +kernel
theorem dX0_changesRows_50 : decode cX0_changesRows 50 = .ok (.lor, 1) := by decide +kernel
theorem dX0_changesRows_51 : decode cX0_changesRows 51 = .ok (.lstore_n 3, 1) := by decide +kernel
end
section
theorem dX0_changesRows_52 : decode cX0_changesRows 52 = .ok (.iinc 5 1, 3) := by decide +kernel
theorem dX0_changesRows_55 : decode cX0_changesRows 55 = .ok (.goto (-50), 3) := by decide +kernel
theorem dX0_changesRows_58 : decode cX0_changesRows 58 = .ok (.lload_n 3, 1) := by decide +kernel
theorem dX0_changesRows_59 : decode cX0_changesRows 59 = .ok (.lconst 0, 1) := by decide +kernel
theorem dX0_changesRows_60 : decode cX0_changesRows 60 = .ok (.lcmp, 1) := by decide +kernel
theorem dX0_changesRows_61 : decode cX0_changesRows 61 = .ok (.ifCond .eq 7, 3) := by decide +kernel
theorem dX0_changesRows_64 : decode cX0_changesRows 64 = .ok (.iconst 1, 1) := by decide +kernel
theorem dX0_changesRows_65 : decode cX0_changesRows 65 = .ok (.goto 4, 3) := by decide +kernel
theorem dX0_changesRows_68 : decode cX0_changesRows 68 = .ok (.iconst 0, 1) := by decide +kernel
theorem dX0_changesRows_69 : decode cX0_changesRows 69 = .ok (.ireturn, 1) := by decide +kernel
theorem dX0_unsortedIn_0 : decode cX0_unsortedIn 0 = .ok (.lconst 0, 1) := by decide +kernel
theorem dX0_unsortedIn_1 : decode cX0_unsortedIn 1 = .ok (.lstore_n 2, 1) := by decide +kernel
theorem dX0_unsortedIn_2 : decode cX0_unsortedIn 2 = .ok (.iconst 0, 1) := by decide +kernel
theorem dX0_unsortedIn_3 : decode cX0_unsortedIn 3 = .ok (.istore 4, 2) := by decide +kernel
theorem dX0_unsortedIn_5 : decode cX0_unsortedIn 5 = .ok (.iload 4, 2) := by decide +kernel
theorem dX0_unsortedIn_7 : decode cX0_unsortedIn 7 = .ok (.iconst 1, 1) := by decide +kernel
theorem dX0_unsortedIn_8 : decode cX0_unsortedIn 8 = .ok (.iadd, 1) := by decide +kernel
theorem dX0_unsortedIn_9 : decode cX0_unsortedIn 9 = .ok (.aload_n 0, 1) := by decide +kernel
theorem dX0_unsortedIn_10 : decode cX0_unsortedIn 10 = .ok (.getfield 9, 3) := by decide +kernel
theorem dX0_unsortedIn_13 : decode cX0_unsortedIn 13 = .ok (.if_icmp .ge 37, 3) := by decide +kernel
theorem dX0_unsortedIn_16 : decode cX0_unsortedIn 16 = .ok (.lload_n 2, 1) := by decide +kernel
theorem dX0_unsortedIn_17 : decode cX0_unsortedIn 17 = .ok (.aload_n 0, 1) := by decide +kernel
theorem dX0_unsortedIn_18 : decode cX0_unsortedIn 18 = .ok (.getfield 43, 3) := by decide +kernel
theorem dX0_unsortedIn_21 : decode cX0_unsortedIn 21 = .ok (.iload 4, 2) := by decide +kernel
theorem dX0_unsortedIn_23 : decode cX0_unsortedIn 23 = .ok (.aaload, 1) := by decide +kernel
theorem dX0_unsortedIn_24 : decode cX0_unsortedIn 24 = .ok (.iload_n 1, 1) := by decide +kernel
theorem dX0_unsortedIn_25 : decode cX0_unsortedIn 25 = .ok (.laload, 1) := by decide +kernel
theorem dX0_unsortedIn_26 : decode cX0_unsortedIn 26 = .ok (.aload_n 0, 1) := by decide +kernel
theorem dX0_unsortedIn_27 : decode cX0_unsortedIn 27 = .ok (.getfield 43, 3) := by decide +kernel
theorem dX0_unsortedIn_30 : decode cX0_unsortedIn 30 = .ok (.iload 4, 2) := by decide +kernel
theorem dX0_unsortedIn_32 : decode cX0_unsortedIn 32 = .ok (.iconst 1, 1) := by decide +kernel
theorem dX0_unsortedIn_33 : decode cX0_unsortedIn 33 = .ok (.iadd, 1) := by decide +kernel
theorem dX0_unsortedIn_34 : decode cX0_unsortedIn 34 = .ok (.aaload, 1) := by decide +kernel
theorem dX0_unsortedIn_35 : decode cX0_unsortedIn 35 = .ok (.iload_n 1, 1) := by decide +kernel
theorem dX0_unsortedIn_36 : decode cX0_unsortedIn 36 = .ok (.laload, 1) := by decide +kernel
theorem dX0_unsortedIn_37 : decode cX0_unsortedIn 37 = .ok (.ldc2_w 106, 3) := by decide +kernel
theorem dX0_unsortedIn_40 : decode cX0_unsortedIn 40 = .ok (.lxor, 1) := by decide +kernel
theorem dX0_unsortedIn_41 : decode cX0_unsortedIn 41 = .ok (.land, 1) := by decide +kernel
theorem dX0_unsortedIn_42 : decode cX0_unsortedIn 42 = .ok (.lor, 1) := by decide +kernel
theorem dX0_unsortedIn_43 : decode cX0_unsortedIn 43 = .ok (.lstore_n 2, 1) := by decide +kernel
theorem dX0_unsortedIn_44 : decode cX0_unsortedIn 44 = .ok (.iinc 4 1, 3) := by decide +kernel
theorem dX0_unsortedIn_47 : decode cX0_unsortedIn 47 = .ok (.goto (-42), 3) := by decide +kernel
theorem dX0_unsortedIn_50 : decode cX0_unsortedIn 50 = .ok (.iconst 1, 1) := by decide +kernel
theorem dX0_unsortedIn_51 : decode cX0_unsortedIn 51 = .ok (.aload_n 0, 1) := by decide +kernel
theorem dX0_unsortedIn_52 : decode cX0_unsortedIn 52 = .ok (.getfield 9, 3) := by decide +kernel
theorem dX0_unsortedIn_55 : decode cX0_unsortedIn 55 = .ok (.ishl, 1) := by decide +kernel
theorem dX0_unsortedIn_56 : decode cX0_unsortedIn 56 = .ok (.istore 4, 2) := by decide +kernel
theorem dX0_unsortedIn_58 : decode cX0_unsortedIn 58 = .ok (.iload 4, 2) := by decide +kernel
theorem dX0_unsortedIn_60 : decode cX0_unsortedIn 60 = .ok (.bipush 64, 2) := by decide +kernel
theorem dX0_unsortedIn_62 : decode cX0_unsortedIn 62 = .ok (.if_icmp .ge 14, 3) := by decide +kernel
theorem dX0_unsortedIn_65 : decode cX0_unsortedIn 65 = .ok (.lload_n 2, 1) := by decide +kernel
theorem dX0_unsortedIn_66 : decode cX0_unsortedIn 66 = .ok (.lconst 1, 1) := by decide +kernel
theorem dX0_unsortedIn_67 : decode cX0_unsortedIn 67 = .ok (.iload 4, 2) := by decide +kernel
theorem dX0_unsortedIn_69 : decode cX0_unsortedIn 69 = .ok (.lshl, 1) := by decide +kernel
theorem dX0_unsortedIn_70 : decode cX0_unsortedIn 70 = .ok (.lconst 1, 1) := by decide +kernel
theorem dX0_unsortedIn_71 : decode cX0_unsortedIn 71 = .ok (.lsub, 1) := by decide +kernel
theorem dX0_unsortedIn_72 : decode cX0_unsortedIn 72 = .ok (.land, 1) := by decide +kernel
theorem dX0_unsortedIn_73 : decode cX0_unsortedIn 73 = .ok (.goto 4, 3) := by decide +kernel
theorem dX0_unsortedIn_76 : decode cX0_unsortedIn 76 = .ok (.lload_n 2, 1) := by decide +kernel
theorem dX0_unsortedIn_77 : decode cX0_unsortedIn 77 = .ok (.lreturn, 1) := by decide +kernel
theorem dX1_init_0 : decode cX1_init 0 = .ok (.aload_n 0, 1) := by decide +kernel
theorem dX1_init_1 : decode cX1_init 1 = .ok (.invokespecial 3, 3) := by decide +kernel
theorem dX1_init_4 : decode cX1_init 4 = .ok (.aload_n 0, 1) := by decide +kernel
theorem dX1_init_5 : decode cX1_init 5 = .ok (.iconst 1, 1) := by decide +kernel
theorem dX1_init_6 : decode cX1_init 6 = .ok (.putfield 9, 3) := by decide +kernel
theorem dX1_init_9 : decode cX1_init 9 = .ok (.aload_n 0, 1) := by decide +kernel
theorem dX1_init_10 : decode cX1_init 10 = .ok (.bipush 8, 2) := by decide +kernel
theorem dX1_init_12 : decode cX1_init 12 = .ok (.newarray .int, 2) := by decide +kernel
theorem dX1_init_14 : decode cX1_init 14 = .ok (.dup, 1) := by decide +kernel
theorem dX1_init_15 : decode cX1_init 15 = .ok (.iconst 0, 1) := by decide +kernel
theorem dX1_init_16 : decode cX1_init 16 = .ok (.iconst 0, 1) := by decide +kernel
theorem dX1_init_17 : decode cX1_init 17 = .ok (.iastore, 1) := by decide +kernel
theorem dX1_init_18 : decode cX1_init 18 = .ok (.dup, 1) := by decide +kernel
theorem dX1_init_19 : decode cX1_init 19 = .ok (.iconst 1, 1) := by decide +kernel
theorem dX1_init_20 : decode cX1_init 20 = .ok (.iconst 1, 1) := by decide +kernel
theorem dX1_init_21 : decode cX1_init 21 = .ok (.iastore, 1) := by decide +kernel
theorem dX1_init_22 : decode cX1_init 22 = .ok (.dup, 1) := by decide +kernel
theorem dX1_init_23 : decode cX1_init 23 = .ok (.iconst 2, 1) := by decide +kernel
theorem dX1_init_24 : decode cX1_init 24 = .ok (.iconst 0, 1) := by decide +kernel
theorem dX1_init_25 : decode cX1_init 25 = .ok (.iastore, 1) := by decide +kernel
theorem dX1_init_26 : decode cX1_init 26 = .ok (.dup, 1) := by decide +kernel
theorem dX1_init_27 : decode cX1_init 27 = .ok (.iconst 3, 1) := by decide +kernel
theorem dX1_init_28 : decode cX1_init 28 = .ok (.iconst 0, 1) := by decide +kernel
theorem dX1_init_29 : decode cX1_init 29 = .ok (.iastore, 1) := by decide +kernel
theorem dX1_init_30 : decode cX1_init 30 = .ok (.dup, 1) := by decide +kernel
theorem dX1_init_31 : decode cX1_init 31 = .ok (.iconst 4, 1) := by decide +kernel
theorem dX1_init_32 : decode cX1_init 32 = .ok (.iconst 0, 1) := by decide +kernel
theorem dX1_init_33 : decode cX1_init 33 = .ok (.iastore, 1) := by decide +kernel
theorem dX1_init_34 : decode cX1_init 34 = .ok (.dup, 1) := by decide +kernel
theorem dX1_init_35 : decode cX1_init 35 = .ok (.iconst 5, 1) := by decide +kernel
theorem dX1_init_36 : decode cX1_init 36 = .ok (.iconst 0, 1) := by decide +kernel
theorem dX1_init_37 : decode cX1_init 37 = .ok (.iastore, 1) := by decide +kernel
theorem dX1_init_38 : decode cX1_init 38 = .ok (.dup, 1) := by decide +kernel
theorem dX1_init_39 : decode cX1_init 39 = .ok (.bipush 6, 2) := by decide +kernel
theorem dX1_init_41 : decode cX1_init 41 = .ok (.iconst 0, 1) := by decide +kernel
theorem dX1_init_42 : decode cX1_init 42 = .ok (.iastore, 1) := by decide +kernel
theorem dX1_init_43 : decode cX1_init 43 = .ok (.dup, 1) := by decide +kernel
theorem dX1_init_44 : decode cX1_init 44 = .ok (.bipush 7, 2) := by decide +kernel
theorem dX1_init_46 : decode cX1_init 46 = .ok (.iconst 0, 1) := by decide +kernel
theorem dX1_init_47 : decode cX1_init 47 = .ok (.iastore, 1) := by decide +kernel
theorem dX1_init_48 : decode cX1_init 48 = .ok (.putfield 15, 3) := by decide +kernel
theorem dX1_init_51 : decode cX1_init 51 = .ok (.aload_n 0, 1) := by decide +kernel
theorem dX1_init_52 : decode cX1_init 52 = .ok (.iconst 4, 1) := by decide +kernel
theorem dX1_init_53 : decode cX1_init 53 = .ok (.bipush 8, 2) := by decide +kernel
theorem dX1_init_55 : decode cX1_init 55 = .ok (.multianewarray 19 2, 4) := by decide +kernel
theorem dX1_init_59 : decode cX1_init 59 = .ok (.putfield 21, 3) := by decide +kernel
theorem dX1_init_62 : decode cX1_init 62 = .ok (.return_, 1) := by decide +kernel
theorem dX1_width_0 : decode cX1_width 0 = .ok (.iconst 1, 1) := by decide +kernel
theorem dX1_width_1 : decode cX1_width 1 = .ok (.aload_n 0, 1) := by decide +kernel
theorem dX1_width_2 : decode cX1_width 2 = .ok (.getfield 9, 3) := by decide +kernel
theorem dX1_width_5 : decode cX1_width 5 = .ok (.ishl, 1) := by decide +kernel
theorem dX1_width_6 : decode cX1_width 6 = .ok (.ireturn, 1) := by decide +kernel
theorem dX1_takeOrder_0 : decode cX1_takeOrder 0 = .ok (.iconst 1, 1) := by decide +kernel
theorem dX1_takeOrder_1 : decode cX1_takeOrder 1 = .ok (.iload_n 1, 1) := by decide +kernel
theorem dX1_takeOrder_2 : decode cX1_takeOrder 2 = .ok (.ishl, 1) := by decide +kernel
theorem dX1_takeOrder_3 : decode cX1_takeOrder 3 = .ok (.istore_n 3, 1) := by decide +kernel
theorem dX1_takeOrder_4 : decode cX1_takeOrder 4 = .ok (.iconst 0, 1) := by decide +kernel
theorem dX1_takeOrder_5 : decode cX1_takeOrder 5 = .ok (.istore 4, 2) := by decide +kernel
theorem dX1_takeOrder_7 : decode cX1_takeOrder 7 = .ok (.iconst 0, 1) := by decide +kernel
theorem dX1_takeOrder_8 : decode cX1_takeOrder 8 = .ok (.istore 5, 2) := by decide +kernel
theorem dX1_takeOrder_10 : decode cX1_takeOrder 10 = .ok (.iload 5, 2) := by decide +kernel
theorem dX1_takeOrder_12 : decode cX1_takeOrder 12 = .ok (.iload_n 3, 1) := by decide +kernel
theorem dX1_takeOrder_13 : decode cX1_takeOrder 13 = .ok (.if_icmp .ge 36, 3) := by decide +kernel
theorem dX1_takeOrder_16 : decode cX1_takeOrder 16 = .ok (.aload_n 2, 1) := by decide +kernel
theorem dX1_takeOrder_17 : decode cX1_takeOrder 17 = .ok (.iload 5, 2) := by decide +kernel
theorem dX1_takeOrder_19 : decode cX1_takeOrder 19 = .ok (.iaload, 1) := by decide +kernel
theorem dX1_takeOrder_20 : decode cX1_takeOrder 20 = .ok (.iconst 0, 1) := by decide +kernel
theorem dX1_takeOrder_21 : decode cX1_takeOrder 21 = .ok (.iload_n 3, 1) := by decide +kernel
theorem dX1_takeOrder_22 : decode cX1_takeOrder 22 = .ok (.iconst 1, 1) := by decide +kernel
theorem dX1_takeOrder_23 : decode cX1_takeOrder 23 = .ok (.isub, 1) := by decide +kernel
theorem dX1_takeOrder_24 : decode cX1_takeOrder 24 = .ok (.invokestatic 24, 3) := by decide +kernel
theorem dX1_takeOrder_27 : decode cX1_takeOrder 27 = .ok (.ifCond .ne 5, 3) := by decide +kernel
theorem dX1_takeOrder_30 : decode cX1_takeOrder 30 = .ok (.iconst 0, 1) := by decide +kernel
theorem dX1_takeOrder_31 : decode cX1_takeOrder 31 = .ok (.ireturn, 1) := by decide +kernel
theorem dX1_takeOrder_32 : decode cX1_takeOrder 32 = .ok (.iload 4, 2) := by decide +kernel
theorem dX1_takeOrder_34 : decode cX1_takeOrder 34 = .ok (.iconst 1, 1) := by decide +kernel
theorem dX1_takeOrder_35 : decode cX1_takeOrder 35 = .ok (.aload_n 2, 1) := by decide +kernel
theorem dX1_takeOrder_36 : decode cX1_takeOrder 36 = .ok (.iload 5, 2) := by decide +kernel
theorem dX1_takeOrder_38 : decode cX1_takeOrder 38 = .ok (.iaload, 1) := by decide +kernel
theorem dX1_takeOrder_39 : decode cX1_takeOrder 39 = .ok (.ishl, 1) := by decide +kernel
theorem dX1_takeOrder_40 : decode cX1_takeOrder 40 = .ok (.ior, 1) := by decide +kernel
theorem dX1_takeOrder_41 : decode cX1_takeOrder 41 = .ok (.istore 4, 2) := by decide +kernel
theorem dX1_takeOrder_43 : decode cX1_takeOrder 43 = .ok (.iinc 5 1, 3) := by decide +kernel
theorem dX1_takeOrder_46 : decode cX1_takeOrder 46 = .ok (.goto (-36), 3) := by decide +kernel
theorem dX1_takeOrder_49 : decode cX1_takeOrder 49 = .ok (.iload 4, 2) := by decide +kernel
theorem dX1_takeOrder_51 : decode cX1_takeOrder 51 = .ok (.iconst 1, 1) := by decide +kernel
theorem dX1_takeOrder_52 : decode cX1_takeOrder 52 = .ok (.iload_n 3, 1) := by decide +kernel
theorem dX1_takeOrder_53 : decode cX1_takeOrder 53 = .ok (.ishl, 1) := by decide +kernel
theorem dX1_takeOrder_54 : decode cX1_takeOrder 54 = .ok (.iconst 1, 1) := by decide +kernel
theorem dX1_takeOrder_55 : decode cX1_takeOrder 55 = .ok (.isub, 1) := by decide +kernel
theorem dX1_takeOrder_56 : decode cX1_takeOrder 56 = .ok (.if_icmp .eq 5, 3) := by decide +kernel
theorem dX1_takeOrder_59 : decode cX1_takeOrder 59 = .ok (.iconst 0, 1) := by decide +kernel
theorem dX1_takeOrder_60 : decode cX1_takeOrder 60 = .ok (.ireturn, 1) := by decide +kernel
theorem dX1_takeOrder_61 : decode cX1_takeOrder 61 = .ok (.aload_n 0, 1) := by decide +kernel
theorem dX1_takeOrder_62 : decode cX1_takeOrder 62 = .ok (.iload_n 1, 1) := by decide +kernel
theorem dX1_takeOrder_63 : decode cX1_takeOrder 63 = .ok (.putfield 9, 3) := by decide +kernel
theorem dX1_takeOrder_66 : decode cX1_takeOrder 66 = .ok (.aload_n 2, 1) := by decide +kernel
theorem dX1_takeOrder_67 : decode cX1_takeOrder 67 = .ok (.iconst 0, 1) := by decide +kernel
theorem dX1_takeOrder_68 : decode cX1_takeOrder 68 = .ok (.aload_n 0, 1) := by decide +kernel
theorem dX1_takeOrder_69 : decode cX1_takeOrder 69 = .ok (.getfield 15, 3) := by decide +kernel
theorem dX1_takeOrder_72 : decode cX1_takeOrder 72 = .ok (.iconst 0, 1) := by decide +kernel
theorem dX1_takeOrder_73 : decode cX1_takeOrder 73 = .ok (.iload_n 3, 1) := by decide +kernel
theorem dX1_takeOrder_74 : decode cX1_takeOrder 74 = .ok (.invokestatic 28, 3) := by decide +kernel
theorem dX1_takeOrder_77 : decode cX1_takeOrder 77 = .ok (.iconst 1, 1) := by decide +kernel
theorem dX1_takeOrder_78 : decode cX1_takeOrder 78 = .ok (.ireturn, 1) := by decide +kernel
theorem dX1_carryBy_0 : decode cX1_carryBy 0 = .ok (.aload_n 0, 1) := by decide +kernel
theorem dX1_carryBy_1 : decode cX1_carryBy 1 = .ok (.iload_n 1, 1) := by decide +kernel
theorem dX1_carryBy_2 : decode cX1_carryBy 2 = .ok (.putfield 9, 3) := by decide +kernel
theorem dX1_carryBy_5 : decode cX1_carryBy 5 = .ok (.iconst 0, 1) := by decide +kernel
theorem dX1_carryBy_6 : decode cX1_carryBy 6 = .ok (.istore_n 3, 1) := by decide +kernel
theorem dX1_carryBy_7 : decode cX1_carryBy 7 = .ok (.iload_n 3, 1) := by decide +kernel
theorem dX1_carryBy_8 : decode cX1_carryBy 8 = .ok (.aload_n 0, 1) := by decide +kernel
theorem dX1_carryBy_9 : decode cX1_carryBy 9 = .ok (.invokevirtual 34, 3) := by decide +kernel
theorem dX1_carryBy_12 : decode cX1_carryBy 12 = .ok (.if_icmp .ge 21, 3) := by decide +kernel
theorem dX1_carryBy_15 : decode cX1_carryBy 15 = .ok (.aload_n 0, 1) := by decide +kernel
theorem dX1_carryBy_16 : decode cX1_carryBy 16 = .ok (.getfield 15, 3) := by decide +kernel
theorem dX1_carryBy_19 : decode cX1_carryBy 19 = .ok (.iload_n 3, 1) := by decide +kernel
theorem dX1_carryBy_20 : decode cX1_carryBy 20 = .ok (.iload_n 1, 1) := by decide +kernel
theorem dX1_carryBy_21 : decode cX1_carryBy 21 = .ok (.iload_n 2, 1) := by decide +kernel
theorem dX1_carryBy_22 : decode cX1_carryBy 22 = .ok (.iload_n 3, 1) := by decide +kernel
theorem dX1_carryBy_23 : decode cX1_carryBy 23 = .ok (.invokestatic 38, 3) := by decide +kernel
theorem dX1_carryBy_26 : decode cX1_carryBy 26 = .ok (.iastore, 1) := by decide +kernel
theorem dX1_carryBy_27 : decode cX1_carryBy 27 = .ok (.iinc 3 1, 3) := by decide +kernel
theorem dX1_carryBy_30 : decode cX1_carryBy 30 = .ok (.goto (-23), 3) := by decide +kernel
theorem dX1_carryBy_33 : decode cX1_carryBy 33 = .ok (.return_, 1) := by decide +kernel
theorem dX1_countSettings_0 : decode cX1_countSettings 0 = .ok (.aload_n 0, 1) := by decide +kernel
theorem dX1_countSettings_1 : decode cX1_countSettings 1 = .ok (.getfield 15, 3) := by decide +kernel
theorem dX1_countSettings_4 : decode cX1_countSettings 4 = .ok (.iconst 0, 1) := by decide +kernel
theorem dX1_countSettings_5 : decode cX1_countSettings 5 = .ok (.aload_n 0, 1) := by decide +kernel
theorem dX1_countSettings_6 : decode cX1_countSettings 6 = .ok (.getfield 21, 3) := by decide +kernel
theorem dX1_countSettings_9 : decode cX1_countSettings 9 = .ok (.aload_n 0, 1) := by decide +kernel
theorem dX1_countSettings_10 : decode cX1_countSettings 10 = .ok (.getfield 9, 3) := by decide +kernel
theorem dX1_countSettings_13 : decode cX1_countSettings 13 = .ok (.aaload, 1) := by decide +kernel
theorem dX1_countSettings_14 : decode cX1_countSettings 14 = .ok (.iconst 0, 1) := by decide +kernel
theorem dX1_countSettings_15 : decode cX1_countSettings 15 = .ok (.aload_n 0, 1) := by decide +kernel
theorem dX1_countSettings_16 : decode cX1_countSettings 16 = .ok (.invokevirtual 34, 3) := by decide +kernel
theorem dX1_countSettings_19 : decode cX1_countSettings 19 = .ok (.invokestatic 28, 3) := by decide +kernel
theorem dX1_countSettings_22 : decode cX1_countSettings 22 = .ok (.aload_n 0, 1) := by decide +kernel
theorem dX1_countSettings_23 : decode cX1_countSettings 23 = .ok (.aload_n 0, 1) := by decide +kernel
theorem dX1_countSettings_24 : decode cX1_countSettings 24 = .ok (.getfield 9, 3) := by decide +kernel
theorem dX1_countSettings_27 : decode cX1_countSettings 27 = .ok (.iconst 0, 1) := by decide +kernel
theorem dX1_countSettings_28 : decode cX1_countSettings 28 = .ok (.invokevirtual 42, 3) := by decide +kernel
theorem dX1_countSettings_31 : decode cX1_countSettings 31 = .ok (.lreturn, 1) := by decide +kernel
theorem dX1_leastSettings_0 : decode cX1_leastSettings 0 = .ok (.aload_n 0, 1) := by decide +kernel
theorem dX1_leastSettings_1 : decode cX1_leastSettings 1 = .ok (.getfield 15, 3) := by decide +kernel
theorem dX1_leastSettings_4 : decode cX1_leastSettings 4 = .ok (.iconst 0, 1) := by decide +kernel
theorem dX1_leastSettings_5 : decode cX1_leastSettings 5 = .ok (.aload_n 0, 1) := by decide +kernel
theorem dX1_leastSettings_6 : decode cX1_leastSettings 6 = .ok (.getfield 21, 3) := by decide +kernel
theorem dX1_leastSettings_9 : decode cX1_leastSettings 9 = .ok (.aload_n 0, 1) := by decide +kernel
theorem dX1_leastSettings_10 : decode cX1_leastSettings 10 = .ok (.getfield 9, 3) := by decide +kernel
theorem dX1_leastSettings_13 : decode cX1_leastSettings 13 = .ok (.aaload, 1) := by decide +kernel
theorem dX1_leastSettings_14 : decode cX1_leastSettings 14 = .ok (.iconst 0, 1) := by decide +kernel
theorem dX1_leastSettings_15 : decode cX1_leastSettings 15 = .ok (.aload_n 0, 1) := by decide +kernel
theorem dX1_leastSettings_16 : decode cX1_leastSettings 16 = .ok (.invokevirtual 34, 3) := by decide +kernel
theorem dX1_leastSettings_19 : decode cX1_leastSettings 19 = .ok (.invokestatic 28, 3) := by decide +kernel
theorem dX1_leastSettings_22 : decode cX1_leastSettings 22 = .ok (.aload_n 0, 1) := by decide +kernel
theorem dX1_leastSettings_23 : decode cX1_leastSettings 23 = .ok (.aload_n 0, 1) := by decide +kernel
theorem dX1_leastSettings_24 : decode cX1_leastSettings 24 = .ok (.getfield 9, 3) := by decide +kernel
theorem dX1_leastSettings_27 : decode cX1_leastSettings 27 = .ok (.iconst 0, 1) := by decide +kernel
theorem dX1_leastSettings_28 : decode cX1_leastSettings 28 = .ok (.invokevirtual 46, 3) := by decide +kernel
theorem dX1_leastSettings_31 : decode cX1_leastSettings 31 = .ok (.lreturn, 1) := by decide +kernel
theorem dX1_carried_0 : decode cX1_carried 0 = .ok (.iload_n 0, 1) := by decide +kernel
theorem dX1_carried_1 : decode cX1_carried 1 = .ok (.iconst 1, 1) := by decide +kernel
theorem dX1_carried_2 : decode cX1_carried 2 = .ok (.if_icmp .gt 9, 3) := by decide +kernel
theorem dX1_carried_5 : decode cX1_carried 5 = .ok (.iload_n 2, 1) := by decide +kernel
theorem dX1_carried_6 : decode cX1_carried 6 = .ok (.iload_n 1, 1) := by decide +kernel
theorem dX1_carried_7 : decode cX1_carried 7 = .ok (.iconst 1, 1) := by decide +kernel
theorem dX1_carried_8 : decode cX1_carried 8 = .ok (.iand, 1) := by decide +kernel
theorem dX1_carried_9 : decode cX1_carried 9 = .ok (.ixor, 1) := by decide +kernel
theorem dX1_carried_10 : decode cX1_carried 10 = .ok (.ireturn, 1) := by decide +kernel
theorem dX1_carried_11 : decode cX1_carried 11 = .ok (.iconst 1, 1) := by decide +kernel
theorem dX1_carried_12 : decode cX1_carried 12 = .ok (.iload_n 0, 1) := by decide +kernel
theorem dX1_carried_13 : decode cX1_carried 13 = .ok (.ishl, 1) := by decide +kernel
theorem dX1_carried_14 : decode cX1_carried 14 = .ok (.istore_n 3, 1) := by decide +kernel
theorem dX1_carried_15 : decode cX1_carried 15 = .ok (.iload_n 2, 1) := by decide +kernel
theorem dX1_carried_16 : decode cX1_carried 16 = .ok (.iconst 1, 1) := by decide +kernel
theorem dX1_carried_17 : decode cX1_carried 17 = .ok (.iand, 1) := by decide +kernel
theorem dX1_carried_18 : decode cX1_carried 18 = .ok (.iload_n 1, 1) := by decide +kernel
theorem dX1_carried_19 : decode cX1_carried 19 = .ok (.iload_n 2, 1) := by decide +kernel
theorem dX1_carried_20 : decode cX1_carried 20 = .ok (.iconst 1, 1) := by decide +kernel
theorem dX1_carried_21 : decode cX1_carried 21 = .ok (.ishr, 1) := by decide +kernel
theorem dX1_carried_22 : decode cX1_carried 22 = .ok (.invokestatic 49, 3) := by decide +kernel
theorem dX1_carried_25 : decode cX1_carried 25 = .ok (.ixor, 1) := by decide +kernel
theorem dX1_carried_26 : decode cX1_carried 26 = .ok (.istore 4, 2) := by decide +kernel
theorem dX1_carried_28 : decode cX1_carried 28 = .ok (.iload_n 1, 1) := by decide +kernel
theorem dX1_carried_29 : decode cX1_carried 29 = .ok (.iload_n 3, 1) := by decide +kernel
theorem dX1_carried_30 : decode cX1_carried 30 = .ok (.iload 4, 2) := by decide +kernel
theorem dX1_carried_32 : decode cX1_carried 32 = .ok (.getstatic 53, 3) := by decide +kernel
theorem dX1_carried_35 : decode cX1_carried 35 = .ok (.iload_n 0, 1) := by decide +kernel
theorem dX1_carried_36 : decode cX1_carried 36 = .ok (.iconst 1, 1) := by decide +kernel
theorem dX1_carried_37 : decode cX1_carried 37 = .ok (.isub, 1) := by decide +kernel
theorem dX1_carried_38 : decode cX1_carried 38 = .ok (.iaload, 1) := by decide +kernel
theorem dX1_carried_39 : decode cX1_carried 39 = .ok (.imul, 1) := by decide +kernel
theorem dX1_carried_40 : decode cX1_carried 40 = .ok (.iadd, 1) := by decide +kernel
theorem dX1_carried_41 : decode cX1_carried 41 = .ok (.ishr, 1) := by decide +kernel
theorem dX1_carried_42 : decode cX1_carried 42 = .ok (.istore 5, 2) := by decide +kernel
theorem dX1_carried_44 : decode cX1_carried 44 = .ok (.iload_n 0, 1) := by decide +kernel
theorem dX1_carried_45 : decode cX1_carried 45 = .ok (.iconst 1, 1) := by decide +kernel
theorem dX1_carried_46 : decode cX1_carried 46 = .ok (.isub, 1) := by decide +kernel
theorem dX1_carried_47 : decode cX1_carried 47 = .ok (.iload 5, 2) := by decide +kernel
theorem dX1_carried_49 : decode cX1_carried 49 = .ok (.iload_n 2, 1) := by decide +kernel
theorem dX1_carried_50 : decode cX1_carried 50 = .ok (.iconst 1, 1) := by decide +kernel
theorem dX1_carried_51 : decode cX1_carried 51 = .ok (.ishr, 1) := by decide +kernel
theorem dX1_carried_52 : decode cX1_carried 52 = .ok (.invokestatic 38, 3) := by decide +kernel
theorem dX1_carried_55 : decode cX1_carried 55 = .ok (.istore 6, 2) := by decide +kernel
theorem dX1_carried_57 : decode cX1_carried 57 = .ok (.iconst 2, 1) := by decide +kernel
theorem dX1_carried_58 : decode cX1_carried 58 = .ok (.iload 6, 2) := by decide +kernel
theorem dX1_carried_60 : decode cX1_carried 60 = .ok (.imul, 1) := by decide +kernel
theorem dX1_carried_61 : decode cX1_carried 61 = .ok (.iload 4, 2) := by decide +kernel
theorem dX1_carried_63 : decode cX1_carried 63 = .ok (.iload_n 1, 1) := by decide +kernel
theorem dX1_carried_64 : decode cX1_carried 64 = .ok (.iload_n 3, 1) := by decide +kernel
theorem dX1_carried_65 : decode cX1_carried 65 = .ok (.iconst 2, 1) := by decide +kernel
theorem dX1_carried_66 : decode cX1_carried 66 = .ok (.idiv, 1) := by decide +kernel
theorem dX1_carried_67 : decode cX1_carried 67 = .ok (.iload 6, 2) := by decide +kernel
theorem dX1_carried_69 : decode cX1_carried 69 = .ok (.iadd, 1) := by decide +kernel
theorem dX1_carried_70 : decode cX1_carried 70 = .ok (.invokestatic 49, 3) := by decide +kernel
theorem dX1_carried_73 : decode cX1_carried 73 = .ok (.ixor, 1) := by decide +kernel
theorem dX1_carried_74 : decode cX1_carried 74 = .ok (.iadd, 1) := by decide +kernel
theorem dX1_carried_75 : decode cX1_carried 75 = .ok (.ireturn, 1) := by decide +kernel
theorem dX1_settingsOf_0 : decode cX1_settingsOf 0 = .ok (.iload_n 1, 1) := by decide +kernel
theorem dX1_settingsOf_1 : decode cX1_settingsOf 1 = .ok (.iconst 1, 1) := by decide +kernel
theorem dX1_settingsOf_2 : decode cX1_settingsOf 2 = .ok (.if_icmp .gt 5, 3) := by decide +kernel
theorem dX1_settingsOf_5 : decode cX1_settingsOf 5 = .ok (.lconst 1, 1) := by decide +kernel
theorem dX1_settingsOf_6 : decode cX1_settingsOf 6 = .ok (.lreturn, 1) := by decide +kernel
theorem dX1_settingsOf_7 : decode cX1_settingsOf 7 = .ok (.iconst 1, 1) := by decide +kernel
theorem dX1_settingsOf_8 : decode cX1_settingsOf 8 = .ok (.iload_n 1, 1) := by decide +kernel
theorem dX1_settingsOf_9 : decode cX1_settingsOf 9 = .ok (.iconst 1, 1) := by decide +kernel
theorem dX1_settingsOf_10 : decode cX1_settingsOf 10 = .ok (.isub, 1) := by decide +kernel
theorem dX1_settingsOf_11 : decode cX1_settingsOf 11 = .ok (.ishl, 1) := by decide +kernel
theorem dX1_settingsOf_12 : decode cX1_settingsOf 12 = .ok (.istore_n 3, 1) := by decide +kernel
theorem dX1_settingsOf_13 : decode cX1_settingsOf 13 = .ok (.lconst 0, 1) := by decide +kernel
theorem dX1_settingsOf_14 : decode cX1_settingsOf 14 = .ok (.lstore 4, 2) := by decide +kernel
theorem dX1_settingsOf_16 : decode cX1_settingsOf 16 = .ok (.iconst 0, 1) := by decide +kernel
theorem dX1_settingsOf_17 : decode cX1_settingsOf 17 = .ok (.istore 6, 2) := by decide +kernel
theorem dX1_settingsOf_19 : decode cX1_settingsOf 19 = .ok (.iload 6, 2) := by decide +kernel
theorem dX1_settingsOf_21 : decode cX1_settingsOf 21 = .ok (.iconst 1, 1) := by decide +kernel
theorem dX1_settingsOf_22 : decode cX1_settingsOf 22 = .ok (.iload_n 3, 1) := by decide +kernel
theorem dX1_settingsOf_23 : decode cX1_settingsOf 23 = .ok (.ishl, 1) := by decide +kernel
theorem dX1_settingsOf_24 : decode cX1_settingsOf 24 = .ok (.if_icmp .ge 44, 3) := by decide +kernel
theorem dX1_settingsOf_27 : decode cX1_settingsOf 27 = .ok (.aload_n 0, 1) := by decide +kernel
theorem dX1_settingsOf_28 : decode cX1_settingsOf 28 = .ok (.iload 6, 2) := by decide +kernel
theorem dX1_settingsOf_30 : decode cX1_settingsOf 30 = .ok (.iload_n 1, 1) := by decide +kernel
theorem dX1_settingsOf_31 : decode cX1_settingsOf 31 = .ok (.iload_n 2, 1) := by decide +kernel
theorem dX1_settingsOf_32 : decode cX1_settingsOf 32 = .ok (.invokevirtual 56, 3) := by decide +kernel
theorem dX1_settingsOf_35 : decode cX1_settingsOf 35 = .ok (.bipush (-9), 2) := by decide +kernel
theorem dX1_settingsOf_37 : decode cX1_settingsOf 37 = .ok (.if_icmp .eq 25, 3) := by decide +kernel
theorem dX1_settingsOf_40 : decode cX1_settingsOf 40 = .ok (.lload 4, 2) := by decide +kernel
theorem dX1_settingsOf_42 : decode cX1_settingsOf 42 = .ok (.aload_n 0, 1) := by decide +kernel
theorem dX1_settingsOf_43 : decode cX1_settingsOf 43 = .ok (.iload_n 1, 1) := by decide +kernel
theorem dX1_settingsOf_44 : decode cX1_settingsOf 44 = .ok (.iconst 1, 1) := by decide +kernel
theorem dX1_settingsOf_45 : decode cX1_settingsOf 45 = .ok (.isub, 1) := by decide +kernel
theorem dX1_settingsOf_46 : decode cX1_settingsOf 46 = .ok (.iconst 0, 1) := by decide +kernel
theorem dX1_settingsOf_47 : decode cX1_settingsOf 47 = .ok (.invokevirtual 42, 3) := by decide +kernel
theorem dX1_settingsOf_50 : decode cX1_settingsOf 50 = .ok (.aload_n 0, 1) := by decide +kernel
theorem dX1_settingsOf_51 : decode cX1_settingsOf 51 = .ok (.iload_n 1, 1) := by decide +kernel
theorem dX1_settingsOf_52 : decode cX1_settingsOf 52 = .ok (.iconst 1, 1) := by decide +kernel
theorem dX1_settingsOf_53 : decode cX1_settingsOf 53 = .ok (.isub, 1) := by decide +kernel
theorem dX1_settingsOf_54 : decode cX1_settingsOf 54 = .ok (.iload_n 3, 1) := by decide +kernel
theorem dX1_settingsOf_55 : decode cX1_settingsOf 55 = .ok (.invokevirtual 42, 3) := by decide +kernel
theorem dX1_settingsOf_58 : decode cX1_settingsOf 58 = .ok (.lmul, 1) := by decide +kernel
theorem dX1_settingsOf_59 : decode cX1_settingsOf 59 = .ok (.ladd, 1) := by decide +kernel
theorem dX1_settingsOf_60 : decode cX1_settingsOf 60 = .ok (.lstore 4, 2) := by decide +kernel
theorem dX1_settingsOf_62 : decode cX1_settingsOf 62 = .ok (.iinc 6 1, 3) := by decide +kernel
theorem dX1_settingsOf_65 : decode cX1_settingsOf 65 = .ok (.goto (-46), 3) := by decide +kernel
theorem dX1_settingsOf_68 : decode cX1_settingsOf 68 = .ok (.lload 4, 2) := by decide +kernel
theorem dX1_settingsOf_70 : decode cX1_settingsOf 70 = .ok (.lreturn, 1) := by decide +kernel
theorem dX1_leastOf_0 : decode cX1_leastOf 0 = .ok (.iload_n 1, 1) := by decide +kernel
theorem dX1_leastOf_1 : decode cX1_leastOf 1 = .ok (.iconst 1, 1) := by decide +kernel
theorem dX1_leastOf_2 : decode cX1_leastOf 2 = .ok (.if_icmp .gt 13, 3) := by decide +kernel
theorem dX1_leastOf_5 : decode cX1_leastOf 5 = .ok (.aload_n 0, 1) := by decide +kernel
theorem dX1_leastOf_6 : decode cX1_leastOf 6 = .ok (.getfield 21, 3) := by decide +kernel
theorem dX1_leastOf_9 : decode cX1_leastOf 9 = .ok (.iconst 1, 1) := by decide +kernel
theorem dX1_leastOf_10 : decode cX1_leastOf 10 = .ok (.aaload, 1) := by decide +kernel
theorem dX1_leastOf_11 : decode cX1_leastOf 11 = .ok (.iload_n 2, 1) := by decide +kernel
theorem dX1_leastOf_12 : decode cX1_leastOf 12 = .ok (.iaload, 1) := by decide +kernel
theorem dX1_leastOf_13 : decode cX1_leastOf 13 = .ok (.i2l, 1) := by decide +kernel
theorem dX1_leastOf_14 : decode cX1_leastOf 14 = .ok (.lreturn, 1) := by decide +kernel
theorem dX1_leastOf_15 : decode cX1_leastOf 15 = .ok (.iconst 1, 1) := by decide +kernel
theorem dX1_leastOf_16 : decode cX1_leastOf 16 = .ok (.iload_n 1, 1) := by decide +kernel
theorem dX1_leastOf_17 : decode cX1_leastOf 17 = .ok (.ishl, 1) := by decide +kernel
theorem dX1_leastOf_18 : decode cX1_leastOf 18 = .ok (.istore_n 3, 1) := by decide +kernel
theorem dX1_leastOf_19 : decode cX1_leastOf 19 = .ok (.iload_n 3, 1) := by decide +kernel
theorem dX1_leastOf_20 : decode cX1_leastOf 20 = .ok (.iconst 2, 1) := by decide +kernel
theorem dX1_leastOf_21 : decode cX1_leastOf 21 = .ok (.idiv, 1) := by decide +kernel
theorem dX1_leastOf_22 : decode cX1_leastOf 22 = .ok (.istore 4, 2) := by decide +kernel
theorem dX1_leastOf_24 : decode cX1_leastOf 24 = .ok (.ldc2_w 59, 3) := by decide +kernel
theorem dX1_leastOf_27 : decode cX1_leastOf 27 = .ok (.lstore 5, 2) := by decide +kernel
theorem dX1_leastOf_29 : decode cX1_leastOf 29 = .ok (.iconst 0, 1) := by decide +kernel
theorem dX1_leastOf_30 : decode cX1_leastOf 30 = .ok (.istore 7, 2) := by decide +kernel
theorem dX1_leastOf_32 : decode cX1_leastOf 32 = .ok (.iload 7, 2) := by decide +kernel
theorem dX1_leastOf_34 : decode cX1_leastOf 34 = .ok (.iconst 1, 1) := by decide +kernel
theorem dX1_leastOf_35 : decode cX1_leastOf 35 = .ok (.iload 4, 2) := by decide +kernel
theorem dX1_leastOf_37 : decode cX1_leastOf 37 = .ok (.ishl, 1) := by decide +kernel
theorem dX1_leastOf_38 : decode cX1_leastOf 38 = .ok (.if_icmp .ge 94, 3) := by decide +kernel
theorem dX1_leastOf_41 : decode cX1_leastOf 41 = .ok (.aload_n 0, 1) := by decide +kernel
theorem dX1_leastOf_42 : decode cX1_leastOf 42 = .ok (.iload 7, 2) := by decide +kernel
theorem dX1_leastOf_44 : decode cX1_leastOf 44 = .ok (.iload_n 1, 1) := by decide +kernel
theorem dX1_leastOf_45 : decode cX1_leastOf 45 = .ok (.iload_n 2, 1) := by decide +kernel
theorem dX1_leastOf_46 : decode cX1_leastOf 46 = .ok (.invokevirtual 56, 3) := by decide +kernel
theorem dX1_leastOf_49 : decode cX1_leastOf 49 = .ok (.istore 8, 2) := by decide +kernel
theorem dX1_leastOf_51 : decode cX1_leastOf 51 = .ok (.iload 8, 2) := by decide +kernel
theorem dX1_leastOf_53 : decode cX1_leastOf 53 = .ok (.bipush (-9), 2) := by decide +kernel
theorem dX1_leastOf_55 : decode cX1_leastOf 55 = .ok (.if_icmp .ne 6, 3) := by decide +kernel
theorem dX1_leastOf_58 : decode cX1_leastOf 58 = .ok (.goto 68, 3) := by decide +kernel
theorem dX1_leastOf_61 : decode cX1_leastOf 61 = .ok (.aload_n 0, 1) := by decide +kernel
theorem dX1_leastOf_62 : decode cX1_leastOf 62 = .ok (.iload_n 1, 1) := by decide +kernel
theorem dX1_leastOf_63 : decode cX1_leastOf 63 = .ok (.iconst 1, 1) := by decide +kernel
theorem dX1_leastOf_64 : decode cX1_leastOf 64 = .ok (.isub, 1) := by decide +kernel
theorem dX1_leastOf_65 : decode cX1_leastOf 65 = .ok (.iconst 0, 1) := by decide +kernel
theorem dX1_leastOf_66 : decode cX1_leastOf 66 = .ok (.invokevirtual 46, 3) := by decide +kernel
theorem dX1_leastOf_69 : decode cX1_leastOf 69 = .ok (.aload_n 0, 1) := by decide +kernel
theorem dX1_leastOf_70 : decode cX1_leastOf 70 = .ok (.iload_n 1, 1) := by decide +kernel
theorem dX1_leastOf_71 : decode cX1_leastOf 71 = .ok (.iconst 1, 1) := by decide +kernel
theorem dX1_leastOf_72 : decode cX1_leastOf 72 = .ok (.isub, 1) := by decide +kernel
theorem dX1_leastOf_73 : decode cX1_leastOf 73 = .ok (.iload 4, 2) := by decide +kernel
theorem dX1_leastOf_75 : decode cX1_leastOf 75 = .ok (.invokevirtual 46, 3) := by decide +kernel
theorem dX1_leastOf_78 : decode cX1_leastOf 78 = .ok (.getstatic 53, 3) := by decide +kernel
theorem dX1_leastOf_81 : decode cX1_leastOf 81 = .ok (.iload_n 1, 1) := by decide +kernel
theorem dX1_leastOf_82 : decode cX1_leastOf 82 = .ok (.iconst 1, 1) := by decide +kernel
theorem dX1_leastOf_83 : decode cX1_leastOf 83 = .ok (.isub, 1) := by decide +kernel
theorem dX1_leastOf_84 : decode cX1_leastOf 84 = .ok (.iaload, 1) := by decide +kernel
theorem dX1_leastOf_85 : decode cX1_leastOf 85 = .ok (.lshl, 1) := by decide +kernel
theorem dX1_leastOf_86 : decode cX1_leastOf 86 = .ok (.lor, 1) := by decide +kernel
theorem dX1_leastOf_87 : decode cX1_leastOf 87 = .ok (.lstore 9, 2) := by decide +kernel
theorem dX1_leastOf_89 : decode cX1_leastOf 89 = .ok (.iload 7, 2) := by decide +kernel
theorem dX1_leastOf_91 : decode cX1_leastOf 91 = .ok (.iload 8, 2) := by decide +kernel
theorem dX1_leastOf_93 : decode cX1_leastOf 93 = .ok (.iload 4, 2) := by decide +kernel
theorem dX1_leastOf_95 : decode cX1_leastOf 95 = .ok (.ishl, 1) := by decide +kernel
theorem dX1_leastOf_96 : decode cX1_leastOf 96 = .ok (.ior, 1) := by decide +kernel
theorem dX1_leastOf_97 : decode cX1_leastOf 97 = .ok (.i2l, 1) := by decide +kernel
theorem dX1_leastOf_98 : decode cX1_leastOf 98 = .ok (.lload 9, 2) := by decide +kernel
theorem dX1_leastOf_100 : decode cX1_leastOf 100 = .ok (.iload_n 3, 1) := by decide +kernel
theorem dX1_leastOf_101 : decode cX1_leastOf 101 = .ok (.lshl, 1) := by decide +kernel
theorem dX1_leastOf_102 : decode cX1_leastOf 102 = .ok (.lor, 1) := by decide +kernel
theorem dX1_leastOf_103 : decode cX1_leastOf 103 = .ok (.lstore 11, 2) := by decide +kernel
theorem dX1_leastOf_105 : decode cX1_leastOf 105 = .ok (.lload 5, 2) := by decide +kernel
theorem dX1_leastOf_107 : decode cX1_leastOf 107 = .ok (.ldc2_w 59, 3) := by decide +kernel
theorem dX1_leastOf_110 : decode cX1_leastOf 110 = .ok (.lcmp, 1) := by decide +kernel
theorem dX1_leastOf_111 : decode cX1_leastOf 111 = .ok (.ifCond .eq 11, 3) := by decide +kernel
theorem dX1_leastOf_114 : decode cX1_leastOf 114 = .ok (.lload 11, 2) := by decide +kernel
theorem dX1_leastOf_116 : decode cX1_leastOf 116 = .ok (.lload 5, 2) := by decide +kernel
theorem dX1_leastOf_118 : decode cX1_leastOf 118 = .ok (.lcmp, 1) := by decide +kernel
theorem dX1_leastOf_119 : decode cX1_leastOf 119 = .ok (.ifCond .ge 7, 3) := by decide +kernel
theorem dX1_leastOf_122 : decode cX1_leastOf 122 = .ok (.lload 11, 2) := by decide +kernel
theorem dX1_leastOf_124 : decode cX1_leastOf 124 = .ok (.lstore 5, 2) := by decide +kernel
theorem dX1_leastOf_126 : decode cX1_leastOf 126 = .ok (.iinc 7 1, 3) := by decide +kernel
theorem dX1_leastOf_129 : decode cX1_leastOf 129 = .ok (.goto (-97), 3) := by decide +kernel
theorem dX1_leastOf_132 : decode cX1_leastOf 132 = .ok (.lload 5, 2) := by decide +kernel
theorem dX1_leastOf_134 : decode cX1_leastOf 134 = .ok (.lreturn, 1) := by decide +kernel
theorem dX1_splitBy_0 : decode cX1_splitBy 0 = .ok (.iconst 1, 1) := by decide +kernel
theorem dX1_splitBy_1 : decode cX1_splitBy 1 = .ok (.iload_n 2, 1) := by decide +kernel
theorem dX1_splitBy_2 : decode cX1_splitBy 2 = .ok (.ishl, 1) := by decide +kernel
theorem dX1_splitBy_3 : decode cX1_splitBy 3 = .ok (.istore 4, 2) := by decide +kernel
theorem dX1_splitBy_5 : decode cX1_splitBy 5 = .ok (.iload 4, 2) := by decide +kernel
theorem dX1_splitBy_7 : decode cX1_splitBy 7 = .ok (.iconst 2, 1) := by decide +kernel
theorem dX1_splitBy_8 : decode cX1_splitBy 8 = .ok (.idiv, 1) := by decide +kernel
theorem dX1_splitBy_9 : decode cX1_splitBy 9 = .ok (.istore 5, 2) := by decide +kernel
theorem dX1_splitBy_11 : decode cX1_splitBy 11 = .ok (.iconst 0, 1) := by decide +kernel
theorem dX1_splitBy_12 : decode cX1_splitBy 12 = .ok (.istore 6, 2) := by decide +kernel
theorem dX1_splitBy_14 : decode cX1_splitBy 14 = .ok (.iconst 0, 1) := by decide +kernel
theorem dX1_splitBy_15 : decode cX1_splitBy 15 = .ok (.istore 7, 2) := by decide +kernel
theorem dX1_splitBy_17 : decode cX1_splitBy 17 = .ok (.iconst 0, 1) := by decide +kernel
theorem dX1_splitBy_18 : decode cX1_splitBy 18 = .ok (.istore 8, 2) := by decide +kernel
theorem dX1_splitBy_20 : decode cX1_splitBy 20 = .ok (.iload 8, 2) := by decide +kernel
theorem dX1_splitBy_22 : decode cX1_splitBy 22 = .ok (.iload 4, 2) := by decide +kernel
theorem dX1_splitBy_24 : decode cX1_splitBy 24 = .ok (.if_icmp .ge 112, 3) := by decide +kernel
theorem dX1_splitBy_27 : decode cX1_splitBy 27 = .ok (.aload_n 0, 1) := by decide +kernel
theorem dX1_splitBy_28 : decode cX1_splitBy 28 = .ok (.getfield 21, 3) := by decide +kernel
theorem dX1_splitBy_31 : decode cX1_splitBy 31 = .ok (.iload_n 2, 1) := by decide +kernel
theorem dX1_splitBy_32 : decode cX1_splitBy 32 = .ok (.aaload, 1) := by decide +kernel
theorem dX1_splitBy_33 : decode cX1_splitBy 33 = .ok (.iload_n 3, 1) := by decide +kernel
theorem dX1_splitBy_34 : decode cX1_splitBy 34 = .ok (.iload 8, 2) := by decide +kernel
theorem dX1_splitBy_36 : decode cX1_splitBy 36 = .ok (.iadd, 1) := by decide +kernel
theorem dX1_splitBy_37 : decode cX1_splitBy 37 = .ok (.iaload, 1) := by decide +kernel
theorem dX1_splitBy_38 : decode cX1_splitBy 38 = .ok (.istore 9, 2) := by decide +kernel
theorem dX1_splitBy_40 : decode cX1_splitBy 40 = .ok (.iload 8, 2) := by decide +kernel
theorem dX1_splitBy_42 : decode cX1_splitBy 42 = .ok (.iconst 1, 1) := by decide +kernel
theorem dX1_splitBy_43 : decode cX1_splitBy 43 = .ok (.iand, 1) := by decide +kernel
theorem dX1_splitBy_44 : decode cX1_splitBy 44 = .ok (.iload_n 1, 1) := by decide +kernel
theorem dX1_splitBy_45 : decode cX1_splitBy 45 = .ok (.iload 8, 2) := by decide +kernel
theorem dX1_splitBy_47 : decode cX1_splitBy 47 = .ok (.iconst 1, 1) := by decide +kernel
theorem dX1_splitBy_48 : decode cX1_splitBy 48 = .ok (.ishr, 1) := by decide +kernel
theorem dX1_splitBy_49 : decode cX1_splitBy 49 = .ok (.invokestatic 49, 3) := by decide +kernel
theorem dX1_splitBy_52 : decode cX1_splitBy 52 = .ok (.ixor, 1) := by decide +kernel
theorem dX1_splitBy_53 : decode cX1_splitBy 53 = .ok (.istore 10, 2) := by decide +kernel
theorem dX1_splitBy_55 : decode cX1_splitBy 55 = .ok (.iload 10, 2) := by decide +kernel
theorem dX1_splitBy_57 : decode cX1_splitBy 57 = .ok (.iload 5, 2) := by decide +kernel
theorem dX1_splitBy_59 : decode cX1_splitBy 59 = .ok (.imul, 1) := by decide +kernel
theorem dX1_splitBy_60 : decode cX1_splitBy 60 = .ok (.iload 9, 2) := by decide +kernel
theorem dX1_splitBy_62 : decode cX1_splitBy 62 = .ok (.iconst 1, 1) := by decide +kernel
theorem dX1_splitBy_63 : decode cX1_splitBy 63 = .ok (.ishr, 1) := by decide +kernel
theorem dX1_splitBy_64 : decode cX1_splitBy 64 = .ok (.iadd, 1) := by decide +kernel
theorem dX1_splitBy_65 : decode cX1_splitBy 65 = .ok (.istore 11, 2) := by decide +kernel
theorem dX1_splitBy_67 : decode cX1_splitBy 67 = .ok (.iload 7, 2) := by decide +kernel
theorem dX1_splitBy_69 : decode cX1_splitBy 69 = .ok (.iload 11, 2) := by decide +kernel
theorem dX1_splitBy_71 : decode cX1_splitBy 71 = .ok (.invokestatic 49, 3) := by decide +kernel
theorem dX1_splitBy_74 : decode cX1_splitBy 74 = .ok (.iconst 1, 1) := by decide +kernel
theorem dX1_splitBy_75 : decode cX1_splitBy 75 = .ok (.if_icmp .ne 6, 3) := by decide +kernel
theorem dX1_splitBy_78 : decode cX1_splitBy 78 = .ok (.bipush (-9), 2) := by decide +kernel
theorem dX1_splitBy_80 : decode cX1_splitBy 80 = .ok (.ireturn, 1) := by decide +kernel
theorem dX1_splitBy_81 : decode cX1_splitBy 81 = .ok (.iload 7, 2) := by decide +kernel
theorem dX1_splitBy_83 : decode cX1_splitBy 83 = .ok (.iconst 1, 1) := by decide +kernel
theorem dX1_splitBy_84 : decode cX1_splitBy 84 = .ok (.iload 11, 2) := by decide +kernel
theorem dX1_splitBy_86 : decode cX1_splitBy 86 = .ok (.ishl, 1) := by decide +kernel
theorem dX1_splitBy_87 : decode cX1_splitBy 87 = .ok (.ior, 1) := by decide +kernel
theorem dX1_splitBy_88 : decode cX1_splitBy 88 = .ok (.istore 7, 2) := by decide +kernel
theorem dX1_splitBy_90 : decode cX1_splitBy 90 = .ok (.iload 6, 2) := by decide +kernel
theorem dX1_splitBy_92 : decode cX1_splitBy 92 = .ok (.iload 10, 2) := by decide +kernel
theorem dX1_splitBy_94 : decode cX1_splitBy 94 = .ok (.iload 9, 2) := by decide +kernel
theorem dX1_splitBy_96 : decode cX1_splitBy 96 = .ok (.iconst 1, 1) := by decide +kernel
theorem dX1_splitBy_97 : decode cX1_splitBy 97 = .ok (.iand, 1) := by decide +kernel
theorem dX1_splitBy_98 : decode cX1_splitBy 98 = .ok (.ixor, 1) := by decide +kernel
theorem dX1_splitBy_99 : decode cX1_splitBy 99 = .ok (.iload 9, 2) := by decide +kernel
theorem dX1_splitBy_101 : decode cX1_splitBy 101 = .ok (.iconst 1, 1) := by decide +kernel
theorem dX1_splitBy_102 : decode cX1_splitBy 102 = .ok (.ishr, 1) := by decide +kernel
theorem dX1_splitBy_103 : decode cX1_splitBy 103 = .ok (.ishl, 1) := by decide +kernel
theorem dX1_splitBy_104 : decode cX1_splitBy 104 = .ok (.ior, 1) := by decide +kernel
theorem dX1_splitBy_105 : decode cX1_splitBy 105 = .ok (.istore 6, 2) := by decide +kernel
theorem dX1_splitBy_107 : decode cX1_splitBy 107 = .ok (.aload_n 0, 1) := by decide +kernel
theorem dX1_splitBy_108 : decode cX1_splitBy 108 = .ok (.getfield 21, 3) := by decide +kernel
theorem dX1_splitBy_111 : decode cX1_splitBy 111 = .ok (.iload_n 2, 1) := by decide +kernel
theorem dX1_splitBy_112 : decode cX1_splitBy 112 = .ok (.iconst 1, 1) := by decide +kernel
theorem dX1_splitBy_113 : decode cX1_splitBy 113 = .ok (.isub, 1) := by decide +kernel
theorem dX1_splitBy_114 : decode cX1_splitBy 114 = .ok (.aaload, 1) := by decide +kernel
theorem dX1_splitBy_115 : decode cX1_splitBy 115 = .ok (.iload 10, 2) := by decide +kernel
theorem dX1_splitBy_117 : decode cX1_splitBy 117 = .ok (.iload 5, 2) := by decide +kernel
theorem dX1_splitBy_119 : decode cX1_splitBy 119 = .ok (.imul, 1) := by decide +kernel
theorem dX1_splitBy_120 : decode cX1_splitBy 120 = .ok (.iload 8, 2) := by decide +kernel
theorem dX1_splitBy_122 : decode cX1_splitBy 122 = .ok (.iconst 1, 1) := by decide +kernel
theorem dX1_splitBy_123 : decode cX1_splitBy 123 = .ok (.ishr, 1) := by decide +kernel
theorem dX1_splitBy_124 : decode cX1_splitBy 124 = .ok (.iadd, 1) := by decide +kernel
theorem dX1_splitBy_125 : decode cX1_splitBy 125 = .ok (.iload 9, 2) := by decide +kernel
theorem dX1_splitBy_127 : decode cX1_splitBy 127 = .ok (.iconst 1, 1) := by decide +kernel
theorem dX1_splitBy_128 : decode cX1_splitBy 128 = .ok (.ishr, 1) := by decide +kernel
theorem dX1_splitBy_129 : decode cX1_splitBy 129 = .ok (.iastore, 1) := by decide +kernel
theorem dX1_splitBy_130 : decode cX1_splitBy 130 = .ok (.iinc 8 1, 3) := by decide +kernel
theorem dX1_splitBy_133 : decode cX1_splitBy 133 = .ok (.goto (-113), 3) := by decide +kernel
theorem dX1_splitBy_136 : decode cX1_splitBy 136 = .ok (.iload 6, 2) := by decide +kernel
theorem dX1_splitBy_138 : decode cX1_splitBy 138 = .ok (.ireturn, 1) := by decide +kernel
theorem dX1_bit_0 : decode cX1_bit 0 = .ok (.iload_n 0, 1) := by decide +kernel
theorem dX1_bit_1 : decode cX1_bit 1 = .ok (.iload_n 1, 1) := by decide +kernel
theorem dX1_bit_2 : decode cX1_bit 2 = .ok (.ishr, 1) := by decide +kernel
theorem dX1_bit_3 : decode cX1_bit 3 = .ok (.iconst 1, 1) := by decide +kernel
theorem dX1_bit_4 : decode cX1_bit 4 = .ok (.iand, 1) := by decide +kernel
theorem dX1_bit_5 : decode cX1_bit 5 = .ok (.ireturn, 1) := by decide +kernel
theorem dX2_init_0 : decode cX2_init 0 = .ok (.aload_n 0, 1) := by decide +kernel
theorem dX2_init_1 : decode cX2_init 1 = .ok (.invokespecial 3, 3) := by decide +kernel
theorem dX2_init_4 : decode cX2_init 4 = .ok (.aload_n 0, 1) := by decide +kernel
theorem dX2_init_5 : decode cX2_init 5 = .ok (.bipush 8, 2) := by decide +kernel
theorem dX2_init_7 : decode cX2_init 7 = .ok (.newarray .int, 2) := by decide +kernel
theorem dX2_init_9 : decode cX2_init 9 = .ok (.putfield 9, 3) := by decide +kernel
theorem dX2_init_12 : decode cX2_init 12 = .ok (.aload_n 0, 1) := by decide +kernel
theorem dX2_init_13 : decode cX2_init 13 = .ok (.bipush 8, 2) := by decide +kernel
theorem dX2_init_15 : decode cX2_init 15 = .ok (.newarray .int, 2) := by decide +kernel
theorem dX2_init_17 : decode cX2_init 17 = .ok (.putfield 15, 3) := by decide +kernel
theorem dX2_init_20 : decode cX2_init 20 = .ok (.aload_n 0, 1) := by decide +kernel
theorem dX2_init_21 : decode cX2_init 21 = .ok (.bipush 8, 2) := by decide +kernel
theorem dX2_init_23 : decode cX2_init 23 = .ok (.newarray .int, 2) := by decide +kernel
theorem dX2_init_25 : decode cX2_init 25 = .ok (.putfield 18, 3) := by decide +kernel
theorem dX2_init_28 : decode cX2_init 28 = .ok (.aload_n 0, 1) := by decide +kernel
theorem dX2_init_29 : decode cX2_init 29 = .ok (.aload_n 1, 1) := by decide +kernel
theorem dX2_init_30 : decode cX2_init 30 = .ok (.putfield 21, 3) := by decide +kernel
theorem dX2_init_33 : decode cX2_init 33 = .ok (.return_, 1) := by decide +kernel
theorem dX2_lineBehind_0 : decode cX2_lineBehind 0 = .ok (.iload_n 1, 1) := by decide +kernel
theorem dX2_lineBehind_1 : decode cX2_lineBehind 1 = .ok (.istore_n 3, 1) := by decide +kernel
theorem dX2_lineBehind_2 : decode cX2_lineBehind 2 = .ok (.iconst 0, 1) := by decide +kernel
theorem dX2_lineBehind_3 : decode cX2_lineBehind 3 = .ok (.istore 4, 2) := by decide +kernel
theorem dX2_lineBehind_5 : decode cX2_lineBehind 5 = .ok (.iload 4, 2) := by decide +kernel
theorem dX2_lineBehind_7 : decode cX2_lineBehind 7 = .ok (.iload_n 2, 1) := by decide +kernel
theorem dX2_lineBehind_8 : decode cX2_lineBehind 8 = .ok (.if_icmp .gt 47, 3) := by decide +kernel
theorem dX2_lineBehind_11 : decode cX2_lineBehind 11 = .ok (.aload_n 0, 1) := by decide +kernel
theorem dX2_lineBehind_12 : decode cX2_lineBehind 12 = .ok (.getfield 21, 3) := by decide +kernel
theorem dX2_lineBehind_15 : decode cX2_lineBehind 15 = .ok (.getfield 25, 3) := by decide +kernel
theorem dX2_lineBehind_18 : decode cX2_lineBehind 18 = .ok (.iload_n 1, 1) := by decide +kernel
theorem dX2_lineBehind_19 : decode cX2_lineBehind 19 = .ok (.iaload, 1) := by decide +kernel
theorem dX2_lineBehind_20 : decode cX2_lineBehind 20 = .ok (.aload_n 0, 1) := by decide +kernel
theorem dX2_lineBehind_21 : decode cX2_lineBehind 21 = .ok (.getfield 21, 3) := by decide +kernel
theorem dX2_lineBehind_24 : decode cX2_lineBehind 24 = .ok (.getfield 30, 3) := by decide +kernel
theorem dX2_lineBehind_27 : decode cX2_lineBehind 27 = .ok (.iconst 1, 1) := by decide +kernel
theorem dX2_lineBehind_28 : decode cX2_lineBehind 28 = .ok (.isub, 1) := by decide +kernel
theorem dX2_lineBehind_29 : decode cX2_lineBehind 29 = .ok (.iload 4, 2) := by decide +kernel
theorem dX2_lineBehind_31 : decode cX2_lineBehind 31 = .ok (.isub, 1) := by decide +kernel
theorem dX2_lineBehind_32 : decode cX2_lineBehind 32 = .ok (.ishr, 1) := by decide +kernel
theorem dX2_lineBehind_33 : decode cX2_lineBehind 33 = .ok (.iconst 1, 1) := by decide +kernel
theorem dX2_lineBehind_34 : decode cX2_lineBehind 34 = .ok (.iand, 1) := by decide +kernel
theorem dX2_lineBehind_35 : decode cX2_lineBehind 35 = .ok (.istore 5, 2) := by decide +kernel
theorem dX2_lineBehind_37 : decode cX2_lineBehind 37 = .ok (.aload_n 0, 1) := by decide +kernel
theorem dX2_lineBehind_38 : decode cX2_lineBehind 38 = .ok (.iload_n 3, 1) := by decide +kernel
theorem dX2_lineBehind_39 : decode cX2_lineBehind 39 = .ok (.invokevirtual 34, 3) := by decide +kernel
theorem dX2_lineBehind_42 : decode cX2_lineBehind 42 = .ok (.bipush (-2), 2) := by decide +kernel
theorem dX2_lineBehind_44 : decode cX2_lineBehind 44 = .ok (.iand, 1) := by decide +kernel
theorem dX2_lineBehind_45 : decode cX2_lineBehind 45 = .ok (.iload 5, 2) := by decide +kernel
theorem dX2_lineBehind_47 : decode cX2_lineBehind 47 = .ok (.ior, 1) := by decide +kernel
theorem dX2_lineBehind_48 : decode cX2_lineBehind 48 = .ok (.istore_n 3, 1) := by decide +kernel
theorem dX2_lineBehind_49 : decode cX2_lineBehind 49 = .ok (.iinc 4 1, 3) := by decide +kernel
theorem dX2_lineBehind_52 : decode cX2_lineBehind 52 = .ok (.goto (-47), 3) := by decide +kernel
theorem dX2_lineBehind_55 : decode cX2_lineBehind 55 = .ok (.iload_n 3, 1) := by decide +kernel
theorem dX2_lineBehind_56 : decode cX2_lineBehind 56 = .ok (.ireturn, 1) := by decide +kernel
theorem dX2_rowOfClash_0 : decode cX2_rowOfClash 0 = .ok (.iconst 0, 1) := by decide +kernel
theorem dX2_rowOfClash_1 : decode cX2_rowOfClash 1 = .ok (.istore_n 3, 1) := by decide +kernel
theorem dX2_rowOfClash_2 : decode cX2_rowOfClash 2 = .ok (.iload_n 3, 1) := by decide +kernel
theorem dX2_rowOfClash_3 : decode cX2_rowOfClash 3 = .ok (.aload_n 0, 1) := by decide +kernel
theorem dX2_rowOfClash_4 : decode cX2_rowOfClash 4 = .ok (.getfield 21, 3) := by decide +kernel
theorem dX2_rowOfClash_7 : decode cX2_rowOfClash 7 = .ok (.getfield 30, 3) := by decide +kernel
theorem dX2_rowOfClash_10 : decode cX2_rowOfClash 10 = .ok (.if_icmp .ge 26, 3) := by decide +kernel
theorem dX2_rowOfClash_13 : decode cX2_rowOfClash 13 = .ok (.aload_n 0, 1) := by decide +kernel
theorem dX2_rowOfClash_14 : decode cX2_rowOfClash 14 = .ok (.iload_n 1, 1) := by decide +kernel
theorem dX2_rowOfClash_15 : decode cX2_rowOfClash 15 = .ok (.iload_n 3, 1) := by decide +kernel
theorem dX2_rowOfClash_16 : decode cX2_rowOfClash 16 = .ok (.invokevirtual 38, 3) := by decide +kernel
theorem dX2_rowOfClash_19 : decode cX2_rowOfClash 19 = .ok (.aload_n 0, 1) := by decide +kernel
theorem dX2_rowOfClash_20 : decode cX2_rowOfClash 20 = .ok (.iload_n 2, 1) := by decide +kernel
theorem dX2_rowOfClash_21 : decode cX2_rowOfClash 21 = .ok (.iload_n 3, 1) := by decide +kernel
theorem dX2_rowOfClash_22 : decode cX2_rowOfClash 22 = .ok (.invokevirtual 38, 3) := by decide +kernel
theorem dX2_rowOfClash_25 : decode cX2_rowOfClash 25 = .ok (.if_icmp .ne 5, 3) := by decide +kernel
theorem dX2_rowOfClash_28 : decode cX2_rowOfClash 28 = .ok (.iload_n 3, 1) := by decide +kernel
theorem dX2_rowOfClash_29 : decode cX2_rowOfClash 29 = .ok (.ireturn, 1) := by decide +kernel
theorem dX2_rowOfClash_30 : decode cX2_rowOfClash 30 = .ok (.iinc 3 1, 3) := by decide +kernel
theorem dX2_rowOfClash_33 : decode cX2_rowOfClash 33 = .ok (.goto (-31), 3) := by decide +kernel
theorem dX2_rowOfClash_36 : decode cX2_rowOfClash 36 = .ok (.bipush (-9), 2) := by decide +kernel
theorem dX2_rowOfClash_38 : decode cX2_rowOfClash 38 = .ok (.ireturn, 1) := by decide +kernel
theorem dX2_partInlets_0 : decode cX2_partInlets 0 = .ok (.aload_n 0, 1) := by decide +kernel
theorem dX2_partInlets_1 : decode cX2_partInlets 1 = .ok (.invokevirtual 42, 3) := by decide +kernel
theorem dX2_partInlets_4 : decode cX2_partInlets 4 = .ok (.iconst 1, 1) := by decide +kernel
theorem dX2_partInlets_5 : decode cX2_partInlets 5 = .ok (.istore_n 1, 1) := by decide +kernel
theorem dX2_partInlets_6 : decode cX2_partInlets 6 = .ok (.iload_n 1, 1) := by decide +kernel
theorem dX2_partInlets_7 : decode cX2_partInlets 7 = .ok (.aload_n 0, 1) := by decide +kernel
theorem dX2_partInlets_8 : decode cX2_partInlets 8 = .ok (.getfield 21, 3) := by decide +kernel
theorem dX2_partInlets_11 : decode cX2_partInlets 11 = .ok (.invokevirtual 45, 3) := by decide +kernel
theorem dX2_partInlets_14 : decode cX2_partInlets 14 = .ok (.if_icmp .gt 29, 3) := by decide +kernel
theorem dX2_partInlets_17 : decode cX2_partInlets 17 = .ok (.aload_n 0, 1) := by decide +kernel
theorem dX2_partInlets_18 : decode cX2_partInlets 18 = .ok (.getfield 18, 3) := by decide +kernel
theorem dX2_partInlets_21 : decode cX2_partInlets 21 = .ok (.iconst 0, 1) := by decide +kernel
theorem dX2_partInlets_22 : decode cX2_partInlets 22 = .ok (.invokestatic 49, 3) := by decide +kernel
theorem dX2_partInlets_25 : decode cX2_partInlets 25 = .ok (.aload_n 0, 1) := by decide +kernel
theorem dX2_partInlets_26 : decode cX2_partInlets 26 = .ok (.iconst 0, 1) := by decide +kernel
theorem dX2_partInlets_27 : decode cX2_partInlets 27 = .ok (.iconst 0, 1) := by decide +kernel
theorem dX2_partInlets_28 : decode cX2_partInlets 28 = .ok (.iload_n 1, 1) := by decide +kernel
theorem dX2_partInlets_29 : decode cX2_partInlets 29 = .ok (.invokevirtual 55, 3) := by decide +kernel
theorem dX2_partInlets_32 : decode cX2_partInlets 32 = .ok (.ifCond .eq 5, 3) := by decide +kernel
theorem dX2_partInlets_35 : decode cX2_partInlets 35 = .ok (.iload_n 1, 1) := by decide +kernel
theorem dX2_partInlets_36 : decode cX2_partInlets 36 = .ok (.ireturn, 1) := by decide +kernel
theorem dX2_partInlets_37 : decode cX2_partInlets 37 = .ok (.iinc 1 1, 3) := by decide +kernel
theorem dX2_partInlets_40 : decode cX2_partInlets 40 = .ok (.goto (-34), 3) := by decide +kernel
theorem dX2_partInlets_43 : decode cX2_partInlets 43 = .ok (.aload_n 0, 1) := by decide +kernel
theorem dX2_partInlets_44 : decode cX2_partInlets 44 = .ok (.getfield 21, 3) := by decide +kernel
theorem dX2_partInlets_47 : decode cX2_partInlets 47 = .ok (.invokevirtual 45, 3) := by decide +kernel
theorem dX2_partInlets_50 : decode cX2_partInlets 50 = .ok (.ireturn, 1) := by decide +kernel
theorem dX2_shuffled_0 : decode cX2_shuffled 0 = .ok (.aload_n 0, 1) := by decide +kernel
theorem dX2_shuffled_1 : decode cX2_shuffled 1 = .ok (.getfield 21, 3) := by decide +kernel
theorem dX2_shuffled_4 : decode cX2_shuffled 4 = .ok (.invokevirtual 45, 3) := by decide +kernel
theorem dX2_shuffled_7 : decode cX2_shuffled 7 = .ok (.istore_n 2, 1) := by decide +kernel
theorem dX2_shuffled_8 : decode cX2_shuffled 8 = .ok (.iload_n 1, 1) := by decide +kernel
theorem dX2_shuffled_9 : decode cX2_shuffled 9 = .ok (.iload_n 2, 1) := by decide +kernel
theorem dX2_shuffled_10 : decode cX2_shuffled 10 = .ok (.iconst 2, 1) := by decide +kernel
theorem dX2_shuffled_11 : decode cX2_shuffled 11 = .ok (.idiv, 1) := by decide +kernel
theorem dX2_shuffled_12 : decode cX2_shuffled 12 = .ok (.if_icmp .ge 9, 3) := by decide +kernel
theorem dX2_shuffled_15 : decode cX2_shuffled 15 = .ok (.iconst 2, 1) := by decide +kernel
theorem dX2_shuffled_16 : decode cX2_shuffled 16 = .ok (.iload_n 1, 1) := by decide +kernel
theorem dX2_shuffled_17 : decode cX2_shuffled 17 = .ok (.imul, 1) := by decide +kernel
theorem dX2_shuffled_18 : decode cX2_shuffled 18 = .ok (.goto 10, 3) := by decide +kernel
theorem dX2_shuffled_21 : decode cX2_shuffled 21 = .ok (.iconst 2, 1) := by decide +kernel
theorem dX2_shuffled_22 : decode cX2_shuffled 22 = .ok (.iload_n 1, 1) := by decide +kernel
theorem dX2_shuffled_23 : decode cX2_shuffled 23 = .ok (.imul, 1) := by decide +kernel
theorem dX2_shuffled_24 : decode cX2_shuffled 24 = .ok (.iload_n 2, 1) := by decide +kernel
theorem dX2_shuffled_25 : decode cX2_shuffled 25 = .ok (.iconst 1, 1) := by decide +kernel
theorem dX2_shuffled_26 : decode cX2_shuffled 26 = .ok (.isub, 1) := by decide +kernel
theorem dX2_shuffled_27 : decode cX2_shuffled 27 = .ok (.isub, 1) := by decide +kernel
theorem dX2_shuffled_28 : decode cX2_shuffled 28 = .ok (.ireturn, 1) := by decide +kernel
theorem dX2_findClashes_0 : decode cX2_findClashes 0 = .ok (.aload_n 0, 1) := by decide +kernel
theorem dX2_findClashes_1 : decode cX2_findClashes 1 = .ok (.getfield 15, 3) := by decide +kernel
theorem dX2_findClashes_4 : decode cX2_findClashes 4 = .ok (.iconst 0, 1) := by decide +kernel
theorem dX2_findClashes_5 : decode cX2_findClashes 5 = .ok (.invokestatic 49, 3) := by decide +kernel
theorem dX2_findClashes_8 : decode cX2_findClashes 8 = .ok (.iconst 0, 1) := by decide +kernel
theorem dX2_findClashes_9 : decode cX2_findClashes 9 = .ok (.istore_n 1, 1) := by decide +kernel
theorem dX2_findClashes_10 : decode cX2_findClashes 10 = .ok (.iload_n 1, 1) := by decide +kernel
theorem dX2_findClashes_11 : decode cX2_findClashes 11 = .ok (.aload_n 0, 1) := by decide +kernel
theorem dX2_findClashes_12 : decode cX2_findClashes 12 = .ok (.getfield 21, 3) := by decide +kernel
theorem dX2_findClashes_15 : decode cX2_findClashes 15 = .ok (.invokevirtual 45, 3) := by decide +kernel
theorem dX2_findClashes_18 : decode cX2_findClashes 18 = .ok (.if_icmp .ge 56, 3) := by decide +kernel
theorem dX2_findClashes_21 : decode cX2_findClashes 21 = .ok (.iconst 0, 1) := by decide +kernel
theorem dX2_findClashes_22 : decode cX2_findClashes 22 = .ok (.istore_n 2, 1) := by decide +kernel
theorem dX2_findClashes_23 : decode cX2_findClashes 23 = .ok (.iload_n 2, 1) := by decide +kernel
theorem dX2_findClashes_24 : decode cX2_findClashes 24 = .ok (.aload_n 0, 1) := by decide +kernel
theorem dX2_findClashes_25 : decode cX2_findClashes 25 = .ok (.getfield 21, 3) := by decide +kernel
theorem dX2_findClashes_28 : decode cX2_findClashes 28 = .ok (.invokevirtual 45, 3) := by decide +kernel
theorem dX2_findClashes_31 : decode cX2_findClashes 31 = .ok (.if_icmp .ge 37, 3) := by decide +kernel
theorem dX2_findClashes_34 : decode cX2_findClashes 34 = .ok (.iload_n 1, 1) := by decide +kernel
theorem dX2_findClashes_35 : decode cX2_findClashes 35 = .ok (.iload_n 2, 1) := by decide +kernel
theorem dX2_findClashes_36 : decode cX2_findClashes 36 = .ok (.if_icmp .eq 26, 3) := by decide +kernel
theorem dX2_findClashes_39 : decode cX2_findClashes 39 = .ok (.aload_n 0, 1) := by decide +kernel
theorem dX2_findClashes_40 : decode cX2_findClashes 40 = .ok (.iload_n 1, 1) := by decide +kernel
theorem dX2_findClashes_41 : decode cX2_findClashes 41 = .ok (.iload_n 2, 1) := by decide +kernel
theorem dX2_findClashes_42 : decode cX2_findClashes 42 = .ok (.invokevirtual 59, 3) := by decide +kernel
theorem dX2_findClashes_45 : decode cX2_findClashes 45 = .ok (.bipush (-9), 2) := by decide +kernel
theorem dX2_findClashes_47 : decode cX2_findClashes 47 = .ok (.if_icmp .eq 15, 3) := by decide +kernel
theorem dX2_findClashes_50 : decode cX2_findClashes 50 = .ok (.aload_n 0, 1) := by decide +kernel
theorem dX2_findClashes_51 : decode cX2_findClashes 51 = .ok (.getfield 15, 3) := by decide +kernel
theorem dX2_findClashes_54 : decode cX2_findClashes 54 = .ok (.iload_n 1, 1) := by decide +kernel
theorem dX2_findClashes_55 : decode cX2_findClashes 55 = .ok (.dup2, 1) := by decide +kernel
theorem dX2_findClashes_56 : decode cX2_findClashes 56 = .ok (.iaload, 1) := by decide +kernel
theorem dX2_findClashes_57 : decode cX2_findClashes 57 = .ok (.iconst 1, 1) := by decide +kernel
theorem dX2_findClashes_58 : decode cX2_findClashes 58 = .ok (.iload_n 2, 1) := by decide +kernel
theorem dX2_findClashes_59 : decode cX2_findClashes 59 = .ok (.ishl, 1) := by decide +kernel
theorem dX2_findClashes_60 : decode cX2_findClashes 60 = .ok (.ior, 1) := by decide +kernel
theorem dX2_findClashes_61 : decode cX2_findClashes 61 = .ok (.iastore, 1) := by decide +kernel
theorem dX2_findClashes_62 : decode cX2_findClashes 62 = .ok (.iinc 2 1, 3) := by decide +kernel
theorem dX2_findClashes_65 : decode cX2_findClashes 65 = .ok (.goto (-42), 3) := by decide +kernel
theorem dX2_findClashes_68 : decode cX2_findClashes 68 = .ok (.iinc 1 1, 3) := by decide +kernel
theorem dX2_findClashes_71 : decode cX2_findClashes 71 = .ok (.goto (-61), 3) := by decide +kernel
theorem dX2_findClashes_74 : decode cX2_findClashes 74 = .ok (.return_, 1) := by decide +kernel
theorem dX2_canPart_0 : decode cX2_canPart 0 = .ok (.iload_n 1, 1) := by decide +kernel
theorem dX2_canPart_1 : decode cX2_canPart 1 = .ok (.aload_n 0, 1) := by decide +kernel
theorem dX2_canPart_2 : decode cX2_canPart 2 = .ok (.getfield 21, 3) := by decide +kernel
theorem dX2_canPart_5 : decode cX2_canPart 5 = .ok (.invokevirtual 45, 3) := by decide +kernel
theorem dX2_canPart_8 : decode cX2_canPart 8 = .ok (.if_icmp .lt 5, 3) := by decide +kernel
theorem dX2_canPart_11 : decode cX2_canPart 11 = .ok (.iconst 1, 1) := by decide +kernel
theorem dX2_canPart_12 : decode cX2_canPart 12 = .ok (.ireturn, 1) := by decide +kernel
theorem dX2_canPart_13 : decode cX2_canPart 13 = .ok (.iconst 0, 1) := by decide +kernel
theorem dX2_canPart_14 : decode cX2_canPart 14 = .ok (.istore 4, 2) := by decide +kernel
theorem dX2_canPart_16 : decode cX2_canPart 16 = .ok (.iload 4, 2) := by decide +kernel
theorem dX2_canPart_18 : decode cX2_canPart 18 = .ok (.iload_n 2, 1) := by decide +kernel
theorem dX2_canPart_19 : decode cX2_canPart 19 = .ok (.if_icmp .gt 92, 3) := by decide +kernel
theorem dX2_canPart_22 : decode cX2_canPart 22 = .ok (.iload 4, 2) := by decide +kernel
theorem dX2_canPart_24 : decode cX2_canPart 24 = .ok (.iload_n 3, 1) := by decide +kernel
theorem dX2_canPart_25 : decode cX2_canPart 25 = .ok (.if_icmp .ge 86, 3) := by decide +kernel
theorem dX2_canPart_28 : decode cX2_canPart 28 = .ok (.aload_n 0, 1) := by decide +kernel
theorem dX2_canPart_29 : decode cX2_canPart 29 = .ok (.getfield 18, 3) := by decide +kernel
theorem dX2_canPart_32 : decode cX2_canPart 32 = .ok (.iload 4, 2) := by decide +kernel
theorem dX2_canPart_34 : decode cX2_canPart 34 = .ok (.iaload, 1) := by decide +kernel
theorem dX2_canPart_35 : decode cX2_canPart 35 = .ok (.aload_n 0, 1) := by decide +kernel
theorem dX2_canPart_36 : decode cX2_canPart 36 = .ok (.getfield 15, 3) := by decide +kernel
theorem dX2_canPart_39 : decode cX2_canPart 39 = .ok (.iload_n 1, 1) := by decide +kernel
theorem dX2_canPart_40 : decode cX2_canPart 40 = .ok (.iaload, 1) := by decide +kernel
theorem dX2_canPart_41 : decode cX2_canPart 41 = .ok (.iand, 1) := by decide +kernel
theorem dX2_canPart_42 : decode cX2_canPart 42 = .ok (.ifCond .eq 6, 3) := by decide +kernel
theorem dX2_canPart_45 : decode cX2_canPart 45 = .ok (.goto 60, 3) := by decide +kernel
theorem dX2_canPart_48 : decode cX2_canPart 48 = .ok (.aload_n 0, 1) := by decide +kernel
theorem dX2_canPart_49 : decode cX2_canPart 49 = .ok (.getfield 18, 3) := by decide +kernel
theorem dX2_canPart_52 : decode cX2_canPart 52 = .ok (.iload 4, 2) := by decide +kernel
theorem dX2_canPart_54 : decode cX2_canPart 54 = .ok (.dup2, 1) := by decide +kernel
theorem dX2_canPart_55 : decode cX2_canPart 55 = .ok (.iaload, 1) := by decide +kernel
theorem dX2_canPart_56 : decode cX2_canPart 56 = .ok (.iconst 1, 1) := by decide +kernel
theorem dX2_canPart_57 : decode cX2_canPart 57 = .ok (.iload_n 1, 1) := by decide +kernel
theorem dX2_canPart_58 : decode cX2_canPart 58 = .ok (.ishl, 1) := by decide +kernel
theorem dX2_canPart_59 : decode cX2_canPart 59 = .ok (.ior, 1) := by decide +kernel
theorem dX2_canPart_60 : decode cX2_canPart 60 = .ok (.iastore, 1) := by decide +kernel
theorem dX2_canPart_61 : decode cX2_canPart 61 = .ok (.aload_n 0, 1) := by decide +kernel
theorem dX2_canPart_62 : decode cX2_canPart 62 = .ok (.getfield 9, 3) := by decide +kernel
theorem dX2_canPart_65 : decode cX2_canPart 65 = .ok (.iload_n 1, 1) := by decide +kernel
theorem dX2_canPart_66 : decode cX2_canPart 66 = .ok (.iload 4, 2) := by decide +kernel
theorem dX2_canPart_68 : decode cX2_canPart 68 = .ok (.iastore, 1) := by decide +kernel
theorem dX2_canPart_69 : decode cX2_canPart 69 = .ok (.aload_n 0, 1) := by decide +kernel
theorem dX2_canPart_70 : decode cX2_canPart 70 = .ok (.iload_n 1, 1) := by decide +kernel
theorem dX2_canPart_71 : decode cX2_canPart 71 = .ok (.iconst 1, 1) := by decide +kernel
theorem dX2_canPart_72 : decode cX2_canPart 72 = .ok (.iadd, 1) := by decide +kernel
theorem dX2_canPart_73 : decode cX2_canPart 73 = .ok (.iload_n 2, 1) := by decide +kernel
theorem dX2_canPart_74 : decode cX2_canPart 74 = .ok (.iload 4, 2) := by decide +kernel
theorem dX2_canPart_76 : decode cX2_canPart 76 = .ok (.iconst 1, 1) := by decide +kernel
theorem dX2_canPart_77 : decode cX2_canPart 77 = .ok (.iadd, 1) := by decide +kernel
theorem dX2_canPart_78 : decode cX2_canPart 78 = .ok (.invokestatic 62, 3) := by decide +kernel
theorem dX2_canPart_81 : decode cX2_canPart 81 = .ok (.iload_n 3, 1) := by decide +kernel
theorem dX2_canPart_82 : decode cX2_canPart 82 = .ok (.invokevirtual 55, 3) := by decide +kernel
theorem dX2_canPart_85 : decode cX2_canPart 85 = .ok (.ifCond .eq 5, 3) := by decide +kernel
theorem dX2_canPart_88 : decode cX2_canPart 88 = .ok (.iconst 1, 1) := by decide +kernel
theorem dX2_canPart_89 : decode cX2_canPart 89 = .ok (.ireturn, 1) := by decide +kernel
theorem dX2_canPart_90 : decode cX2_canPart 90 = .ok (.aload_n 0, 1) := by decide +kernel
theorem dX2_canPart_91 : decode cX2_canPart 91 = .ok (.getfield 18, 3) := by decide +kernel
theorem dX2_canPart_94 : decode cX2_canPart 94 = .ok (.iload 4, 2) := by decide +kernel
theorem dX2_canPart_96 : decode cX2_canPart 96 = .ok (.dup2, 1) := by decide +kernel
theorem dX2_canPart_97 : decode cX2_canPart 97 = .ok (.iaload, 1) := by decide +kernel
theorem dX2_canPart_98 : decode cX2_canPart 98 = .ok (.iconst 1, 1) := by decide +kernel
theorem dX2_canPart_99 : decode cX2_canPart 99 = .ok (.iload_n 1, 1) := by decide +kernel
theorem dX2_canPart_100 : decode cX2_canPart 100 = .ok (.ishl, 1) := by decide +kernel
theorem dX2_canPart_101 : decode cX2_canPart 101 = .ok (.iconst (-1), 1) := by decide +kernel
theorem dX2_canPart_102 : decode cX2_canPart 102 = .ok (.ixor, 1) := by decide +kernel
theorem dX2_canPart_103 : decode cX2_canPart 103 = .ok (.iand, 1) := by decide +kernel
theorem dX2_canPart_104 : decode cX2_canPart 104 = .ok (.iastore, 1) := by decide +kernel
theorem dX2_canPart_105 : decode cX2_canPart 105 = .ok (.iinc 4 1, 3) := by decide +kernel
theorem dX2_canPart_108 : decode cX2_canPart 108 = .ok (.goto (-92), 3) := by decide +kernel
theorem dX2_canPart_111 : decode cX2_canPart 111 = .ok (.iconst 0, 1) := by decide +kernel
theorem dX2_canPart_112 : decode cX2_canPart 112 = .ok (.ireturn, 1) := by decide +kernel
theorem dX3_init_0 : decode cX3_init 0 = .ok (.aload_n 0, 1) := by decide +kernel
theorem dX3_init_1 : decode cX3_init 1 = .ok (.invokespecial 3, 3) := by decide +kernel
theorem dX3_init_4 : decode cX3_init 4 = .ok (.aload_n 0, 1) := by decide +kernel
theorem dX3_init_5 : decode cX3_init 5 = .ok (.iconst 3, 1) := by decide +kernel
theorem dX3_init_6 : decode cX3_init 6 = .ok (.putfield 9, 3) := by decide +kernel
theorem dX3_init_9 : decode cX3_init 9 = .ok (.aload_n 0, 1) := by decide +kernel
theorem dX3_init_10 : decode cX3_init 10 = .ok (.iconst 0, 1) := by decide +kernel
theorem dX3_init_11 : decode cX3_init 11 = .ok (.putfield 15, 3) := by decide +kernel
theorem dX3_init_14 : decode cX3_init 14 = .ok (.aload_n 0, 1) := by decide +kernel
theorem dX3_init_15 : decode cX3_init 15 = .ok (.iconst 0, 1) := by decide +kernel
theorem dX3_init_16 : decode cX3_init 16 = .ok (.putfield 18, 3) := by decide +kernel
theorem dX3_init_19 : decode cX3_init 19 = .ok (.aload_n 0, 1) := by decide +kernel
theorem dX3_init_20 : decode cX3_init 20 = .ok (.iconst 0, 1) := by decide +kernel
theorem dX3_init_21 : decode cX3_init 21 = .ok (.putfield 22, 3) := by decide +kernel
theorem dX3_init_24 : decode cX3_init 24 = .ok (.aload_n 0, 1) := by decide +kernel
theorem dX3_init_25 : decode cX3_init 25 = .ok (.iconst 5, 1) := by decide +kernel
theorem dX3_init_26 : decode cX3_init 26 = .ok (.iconst 5, 1) := by decide +kernel
theorem dX3_init_27 : decode cX3_init 27 = .ok (.multianewarray 25 2, 4) := by decide +kernel
theorem dX3_init_31 : decode cX3_init 31 = .ok (.putfield 27, 3) := by decide +kernel
theorem dX3_init_34 : decode cX3_init 34 = .ok (.aload_n 0, 1) := by decide +kernel
theorem dX3_init_35 : decode cX3_init 35 = .ok (.iconst 5, 1) := by decide +kernel
theorem dX3_init_36 : decode cX3_init 36 = .ok (.iconst 5, 1) := by decide +kernel
theorem dX3_init_37 : decode cX3_init 37 = .ok (.multianewarray 25 2, 4) := by decide +kernel
theorem dX3_init_41 : decode cX3_init 41 = .ok (.putfield 30, 3) := by decide +kernel
theorem dX3_init_44 : decode cX3_init 44 = .ok (.aload_n 0, 1) := by decide +kernel
theorem dX3_init_45 : decode cX3_init 45 = .ok (.iconst 5, 1) := by decide +kernel
theorem dX3_init_46 : decode cX3_init 46 = .ok (.newarray .int, 2) := by decide +kernel
theorem dX3_init_48 : decode cX3_init 48 = .ok (.putfield 33, 3) := by decide +kernel
theorem dX3_init_51 : decode cX3_init 51 = .ok (.aload_n 0, 1) := by decide +kernel
theorem dX3_init_52 : decode cX3_init 52 = .ok (.iconst 5, 1) := by decide +kernel
theorem dX3_init_53 : decode cX3_init 53 = .ok (.newarray .int, 2) := by decide +kernel
theorem dX3_init_55 : decode cX3_init 55 = .ok (.putfield 37, 3) := by decide +kernel
theorem dX3_init_58 : decode cX3_init 58 = .ok (.aload_n 0, 1) := by decide +kernel
theorem dX3_init_59 : decode cX3_init 59 = .ok (.bipush 36, 2) := by decide +kernel
theorem dX3_init_61 : decode cX3_init 61 = .ok (.iconst 5, 1) := by decide +kernel
theorem dX3_init_62 : decode cX3_init 62 = .ok (.multianewarray 25 2, 4) := by decide +kernel
theorem dX3_init_66 : decode cX3_init 66 = .ok (.putfield 40, 3) := by decide +kernel
theorem dX3_init_69 : decode cX3_init 69 = .ok (.aload_n 0, 1) := by decide +kernel
theorem dX3_init_70 : decode cX3_init 70 = .ok (.bipush 36, 2) := by decide +kernel
theorem dX3_init_72 : decode cX3_init 72 = .ok (.newarray .int, 2) := by decide +kernel
theorem dX3_init_74 : decode cX3_init 74 = .ok (.putfield 43, 3) := by decide +kernel
theorem dX3_init_77 : decode cX3_init 77 = .ok (.aload_n 0, 1) := by decide +kernel
theorem dX3_init_78 : decode cX3_init 78 = .ok (.bipush 6, 2) := by decide +kernel
theorem dX3_init_80 : decode cX3_init 80 = .ok (.newarray .int, 2) := by decide +kernel
theorem dX3_init_82 : decode cX3_init 82 = .ok (.putfield 46, 3) := by decide +kernel
theorem dX3_init_85 : decode cX3_init 85 = .ok (.return_, 1) := by decide +kernel
theorem dX3_begin_0 : decode cX3_begin 0 = .ok (.aload_n 0, 1) := by decide +kernel
theorem dX3_begin_1 : decode cX3_begin 1 = .ok (.iload_n 1, 1) := by decide +kernel
theorem dX3_begin_2 : decode cX3_begin 2 = .ok (.putfield 9, 3) := by decide +kernel
theorem dX3_begin_5 : decode cX3_begin 5 = .ok (.iconst 0, 1) := by decide +kernel
theorem dX3_begin_6 : decode cX3_begin 6 = .ok (.istore_n 2, 1) := by decide +kernel
theorem dX3_begin_7 : decode cX3_begin 7 = .ok (.iload_n 2, 1) := by decide +kernel
theorem dX3_begin_8 : decode cX3_begin 8 = .ok (.iconst 5, 1) := by decide +kernel
theorem dX3_begin_9 : decode cX3_begin 9 = .ok (.if_icmp .ge 19, 3) := by decide +kernel
theorem dX3_begin_12 : decode cX3_begin 12 = .ok (.aload_n 0, 1) := by decide +kernel
theorem dX3_begin_13 : decode cX3_begin 13 = .ok (.getfield 27, 3) := by decide +kernel
theorem dX3_begin_16 : decode cX3_begin 16 = .ok (.iload_n 2, 1) := by decide +kernel
theorem dX3_begin_17 : decode cX3_begin 17 = .ok (.aaload, 1) := by decide +kernel
theorem dX3_begin_18 : decode cX3_begin 18 = .ok (.iconst 0, 1) := by decide +kernel
theorem dX3_begin_19 : decode cX3_begin 19 = .ok (.invokestatic 49, 3) := by decide +kernel
theorem dX3_begin_22 : decode cX3_begin 22 = .ok (.iinc 2 1, 3) := by decide +kernel
theorem dX3_begin_25 : decode cX3_begin 25 = .ok (.goto (-18), 3) := by decide +kernel
theorem dX3_begin_28 : decode cX3_begin 28 = .ok (.aload_n 0, 1) := by decide +kernel
theorem dX3_begin_29 : decode cX3_begin 29 = .ok (.iconst 1, 1) := by decide +kernel
theorem dX3_begin_30 : decode cX3_begin 30 = .ok (.putfield 18, 3) := by decide +kernel
theorem dX3_begin_33 : decode cX3_begin 33 = .ok (.return_, 1) := by decide +kernel
theorem dX3_change_0 : decode cX3_change 0 = .ok (.aload_n 0, 1) := by decide +kernel
theorem dX3_change_1 : decode cX3_change 1 = .ok (.getfield 27, 3) := by decide +kernel
theorem dX3_change_4 : decode cX3_change 4 = .ok (.iload_n 1, 1) := by decide +kernel
theorem dX3_change_5 : decode cX3_change 5 = .ok (.aaload, 1) := by decide +kernel
theorem dX3_change_6 : decode cX3_change 6 = .ok (.iload_n 2, 1) := by decide +kernel
theorem dX3_change_7 : decode cX3_change 7 = .ok (.iaload, 1) := by decide +kernel
theorem dX3_change_8 : decode cX3_change 8 = .ok (.istore 4, 2) := by decide +kernel
theorem dX3_change_10 : decode cX3_change 10 = .ok (.aload_n 0, 1) := by decide +kernel
theorem dX3_change_11 : decode cX3_change 11 = .ok (.getfield 27, 3) := by decide +kernel
theorem dX3_change_14 : decode cX3_change 14 = .ok (.iload_n 1, 1) := by decide +kernel
theorem dX3_change_15 : decode cX3_change 15 = .ok (.aaload, 1) := by decide +kernel
theorem dX3_change_16 : decode cX3_change 16 = .ok (.iload_n 2, 1) := by decide +kernel
theorem dX3_change_17 : decode cX3_change 17 = .ok (.iload_n 3, 1) := by decide +kernel
theorem dX3_change_18 : decode cX3_change 18 = .ok (.iastore, 1) := by decide +kernel
theorem dX3_change_19 : decode cX3_change 19 = .ok (.aload_n 0, 1) := by decide +kernel
theorem dX3_change_20 : decode cX3_change 20 = .ok (.iconst 1, 1) := by decide +kernel
theorem dX3_change_21 : decode cX3_change 21 = .ok (.putfield 18, 3) := by decide +kernel
theorem dX3_change_24 : decode cX3_change 24 = .ok (.iload 4, 2) := by decide +kernel
theorem dX3_change_26 : decode cX3_change 26 = .ok (.ireturn, 1) := by decide +kernel
theorem dX3_wholeSpan_0 : decode cX3_wholeSpan 0 = .ok (.aload_n 0, 1) := by decide +kernel
theorem dX3_wholeSpan_1 : decode cX3_wholeSpan 1 = .ok (.aload_n 0, 1) := by decide +kernel
theorem dX3_wholeSpan_2 : decode cX3_wholeSpan 2 = .ok (.getfield 27, 3) := by decide +kernel
theorem dX3_wholeSpan_5 : decode cX3_wholeSpan 5 = .ok (.invokevirtual 55, 3) := by decide +kernel
theorem dX3_wholeSpan_8 : decode cX3_wholeSpan 8 = .ok (.aload_n 0, 1) := by decide +kernel
theorem dX3_wholeSpan_9 : decode cX3_wholeSpan 9 = .ok (.getfield 22, 3) := by decide +kernel
theorem dX3_wholeSpan_12 : decode cX3_wholeSpan 12 = .ok (.ireturn, 1) := by decide +kernel
theorem dX3_phasesInAll_0 : decode cX3_phasesInAll 0 = .ok (.aload_n 0, 1) := by decide +kernel
theorem dX3_phasesInAll_1 : decode cX3_phasesInAll 1 = .ok (.invokevirtual 59, 3) := by decide +kernel
theorem dX3_phasesInAll_4 : decode cX3_phasesInAll 4 = .ok (.aload_n 0, 1) := by decide +kernel
theorem dX3_phasesInAll_5 : decode cX3_phasesInAll 5 = .ok (.getfield 15, 3) := by decide +kernel
theorem dX3_phasesInAll_8 : decode cX3_phasesInAll 8 = .ok (.ireturn, 1) := by decide +kernel
theorem dX3_outletIn_0 : decode cX3_outletIn 0 = .ok (.aload_n 0, 1) := by decide +kernel
theorem dX3_outletIn_1 : decode cX3_outletIn 1 = .ok (.invokevirtual 59, 3) := by decide +kernel
theorem dX3_outletIn_4 : decode cX3_outletIn 4 = .ok (.iconst 0, 1) := by decide +kernel
theorem dX3_outletIn_5 : decode cX3_outletIn 5 = .ok (.istore_n 3, 1) := by decide +kernel
theorem dX3_outletIn_6 : decode cX3_outletIn 6 = .ok (.iload_n 3, 1) := by decide +kernel
theorem dX3_outletIn_7 : decode cX3_outletIn 7 = .ok (.aload_n 0, 1) := by decide +kernel
theorem dX3_outletIn_8 : decode cX3_outletIn 8 = .ok (.getfield 15, 3) := by decide +kernel
theorem dX3_outletIn_11 : decode cX3_outletIn 11 = .ok (.if_icmp .ge 28, 3) := by decide +kernel
theorem dX3_outletIn_14 : decode cX3_outletIn 14 = .ok (.iload_n 1, 1) := by decide +kernel
theorem dX3_outletIn_15 : decode cX3_outletIn 15 = .ok (.aload_n 0, 1) := by decide +kernel
theorem dX3_outletIn_16 : decode cX3_outletIn 16 = .ok (.getfield 43, 3) := by decide +kernel
theorem dX3_outletIn_19 : decode cX3_outletIn 19 = .ok (.iload_n 3, 1) := by decide +kernel
theorem dX3_outletIn_20 : decode cX3_outletIn 20 = .ok (.iaload, 1) := by decide +kernel
theorem dX3_outletIn_21 : decode cX3_outletIn 21 = .ok (.if_icmp .ge 12, 3) := by decide +kernel
theorem dX3_outletIn_24 : decode cX3_outletIn 24 = .ok (.aload_n 0, 1) := by decide +kernel
theorem dX3_outletIn_25 : decode cX3_outletIn 25 = .ok (.getfield 40, 3) := by decide +kernel
theorem dX3_outletIn_28 : decode cX3_outletIn 28 = .ok (.iload_n 3, 1) := by decide +kernel
theorem dX3_outletIn_29 : decode cX3_outletIn 29 = .ok (.aaload, 1) := by decide +kernel
theorem dX3_outletIn_30 : decode cX3_outletIn 30 = .ok (.iload_n 2, 1) := by decide +kernel
theorem dX3_outletIn_31 : decode cX3_outletIn 31 = .ok (.iaload, 1) := by decide +kernel
theorem dX3_outletIn_32 : decode cX3_outletIn 32 = .ok (.ireturn, 1) := by decide +kernel
theorem dX3_outletIn_33 : decode cX3_outletIn 33 = .ok (.iinc 3 1, 3) := by decide +kernel
theorem dX3_outletIn_36 : decode cX3_outletIn 36 = .ok (.goto (-30), 3) := by decide +kernel
theorem dX3_outletIn_39 : decode cX3_outletIn 39 = .ok (.bipush (-9), 2) := by decide +kernel
theorem dX3_outletIn_41 : decode cX3_outletIn 41 = .ok (.ireturn, 1) := by decide +kernel
theorem dX3_partIfStale_0 : decode cX3_partIfStale 0 = .ok (.aload_n 0, 1) := by decide +kernel
theorem dX3_partIfStale_1 : decode cX3_partIfStale 1 = .ok (.getfield 18, 3) := by decide +kernel
theorem dX3_partIfStale_4 : decode cX3_partIfStale 4 = .ok (.ifCond .ne 4, 3) := by decide +kernel
theorem dX3_partIfStale_7 : decode cX3_partIfStale 7 = .ok (.return_, 1) := by decide +kernel
theorem dX3_partIfStale_8 : decode cX3_partIfStale 8 = .ok (.aload_n 0, 1) := by decide +kernel
theorem dX3_partIfStale_9 : decode cX3_partIfStale 9 = .ok (.iconst 0, 1) := by decide +kernel
theorem dX3_partIfStale_10 : decode cX3_partIfStale 10 = .ok (.putfield 18, 3) := by decide +kernel
theorem dX3_partIfStale_13 : decode cX3_partIfStale 13 = .ok (.iconst 0, 1) := by decide +kernel
theorem dX3_partIfStale_14 : decode cX3_partIfStale 14 = .ok (.istore_n 1, 1) := by decide +kernel
theorem dX3_partIfStale_15 : decode cX3_partIfStale 15 = .ok (.iload_n 1, 1) := by decide +kernel
theorem dX3_partIfStale_16 : decode cX3_partIfStale 16 = .ok (.aload_n 0, 1) := by decide +kernel
theorem dX3_partIfStale_17 : decode cX3_partIfStale 17 = .ok (.getfield 9, 3) := by decide +kernel
theorem dX3_partIfStale_20 : decode cX3_partIfStale 20 = .ok (.if_icmp .ge 30, 3) := by decide +kernel
theorem dX3_partIfStale_23 : decode cX3_partIfStale 23 = .ok (.aload_n 0, 1) := by decide +kernel
theorem dX3_partIfStale_24 : decode cX3_partIfStale 24 = .ok (.getfield 27, 3) := by decide +kernel
theorem dX3_partIfStale_27 : decode cX3_partIfStale 27 = .ok (.iload_n 1, 1) := by decide +kernel
theorem dX3_partIfStale_28 : decode cX3_partIfStale 28 = .ok (.aaload, 1) := by decide +kernel
theorem dX3_partIfStale_29 : decode cX3_partIfStale 29 = .ok (.iconst 0, 1) := by decide +kernel
theorem dX3_partIfStale_30 : decode cX3_partIfStale 30 = .ok (.aload_n 0, 1) := by decide +kernel
theorem dX3_partIfStale_31 : decode cX3_partIfStale 31 = .ok (.getfield 30, 3) := by decide +kernel
theorem dX3_partIfStale_34 : decode cX3_partIfStale 34 = .ok (.iload_n 1, 1) := by decide +kernel
theorem dX3_partIfStale_35 : decode cX3_partIfStale 35 = .ok (.aaload, 1) := by decide +kernel
theorem dX3_partIfStale_36 : decode cX3_partIfStale 36 = .ok (.iconst 0, 1) := by decide +kernel
theorem dX3_partIfStale_37 : decode cX3_partIfStale 37 = .ok (.aload_n 0, 1) := by decide +kernel
theorem dX3_partIfStale_38 : decode cX3_partIfStale 38 = .ok (.getfield 9, 3) := by decide +kernel
theorem dX3_partIfStale_41 : decode cX3_partIfStale 41 = .ok (.invokestatic 62, 3) := by decide +kernel
theorem dX3_partIfStale_44 : decode cX3_partIfStale 44 = .ok (.iinc 1 1, 3) := by decide +kernel
theorem dX3_partIfStale_47 : decode cX3_partIfStale 47 = .ok (.goto (-32), 3) := by decide +kernel
theorem dX3_partIfStale_50 : decode cX3_partIfStale 50 = .ok (.aload_n 0, 1) := by decide +kernel
theorem dX3_partIfStale_51 : decode cX3_partIfStale 51 = .ok (.aload_n 0, 1) := by decide +kernel
theorem dX3_partIfStale_52 : decode cX3_partIfStale 52 = .ok (.getfield 30, 3) := by decide +kernel
theorem dX3_partIfStale_55 : decode cX3_partIfStale 55 = .ok (.invokevirtual 55, 3) := by decide +kernel
theorem dX3_partIfStale_58 : decode cX3_partIfStale 58 = .ok (.iconst 0, 1) := by decide +kernel
theorem dX3_partIfStale_59 : decode cX3_partIfStale 59 = .ok (.istore_n 1, 1) := by decide +kernel
theorem dX3_partIfStale_60 : decode cX3_partIfStale 60 = .ok (.aload_n 0, 1) := by decide +kernel
theorem dX3_partIfStale_61 : decode cX3_partIfStale 61 = .ok (.iconst 0, 1) := by decide +kernel
theorem dX3_partIfStale_62 : decode cX3_partIfStale 62 = .ok (.putfield 15, 3) := by decide +kernel
theorem dX3_partIfStale_65 : decode cX3_partIfStale 65 = .ok (.aload_n 0, 1) := by decide +kernel
theorem dX3_partIfStale_66 : decode cX3_partIfStale 66 = .ok (.getfield 15, 3) := by decide +kernel
theorem dX3_partIfStale_69 : decode cX3_partIfStale 69 = .ok (.bipush 36, 2) := by decide +kernel
theorem dX3_partIfStale_71 : decode cX3_partIfStale 71 = .ok (.if_icmp .ge 72, 3) := by decide +kernel
theorem dX3_partIfStale_74 : decode cX3_partIfStale 74 = .ok (.aload_n 0, 1) := by decide +kernel
theorem dX3_partIfStale_75 : decode cX3_partIfStale 75 = .ok (.getfield 22, 3) := by decide +kernel
theorem dX3_partIfStale_78 : decode cX3_partIfStale 78 = .ok (.ifCond .le 65, 3) := by decide +kernel
theorem dX3_partIfStale_81 : decode cX3_partIfStale 81 = .ok (.aload_n 0, 1) := by decide +kernel
theorem dX3_partIfStale_82 : decode cX3_partIfStale 82 = .ok (.getfield 40, 3) := by decide +kernel
theorem dX3_partIfStale_85 : decode cX3_partIfStale 85 = .ok (.aload_n 0, 1) := by decide +kernel
theorem dX3_partIfStale_86 : decode cX3_partIfStale 86 = .ok (.getfield 15, 3) := by decide +kernel
theorem dX3_partIfStale_89 : decode cX3_partIfStale 89 = .ok (.aaload, 1) := by decide +kernel
theorem dX3_partIfStale_90 : decode cX3_partIfStale 90 = .ok (.astore_n 2, 1) := by decide +kernel
theorem dX3_partIfStale_91 : decode cX3_partIfStale 91 = .ok (.aload_n 0, 1) := by decide +kernel
theorem dX3_partIfStale_92 : decode cX3_partIfStale 92 = .ok (.aload_n 2, 1) := by decide +kernel
theorem dX3_partIfStale_93 : decode cX3_partIfStale 93 = .ok (.invokevirtual 68, 3) := by decide +kernel
theorem dX3_partIfStale_96 : decode cX3_partIfStale 96 = .ok (.aload_n 0, 1) := by decide +kernel
theorem dX3_partIfStale_97 : decode cX3_partIfStale 97 = .ok (.aload_n 2, 1) := by decide +kernel
theorem dX3_partIfStale_98 : decode cX3_partIfStale 98 = .ok (.invokevirtual 72, 3) := by decide +kernel
theorem dX3_partIfStale_101 : decode cX3_partIfStale 101 = .ok (.istore_n 3, 1) := by decide +kernel
theorem dX3_partIfStale_102 : decode cX3_partIfStale 102 = .ok (.aload_n 0, 1) := by decide +kernel
theorem dX3_partIfStale_103 : decode cX3_partIfStale 103 = .ok (.aload_n 2, 1) := by decide +kernel
theorem dX3_partIfStale_104 : decode cX3_partIfStale 104 = .ok (.iload_n 3, 1) := by decide +kernel
theorem dX3_partIfStale_105 : decode cX3_partIfStale 105 = .ok (.invokevirtual 76, 3) := by decide +kernel
theorem dX3_partIfStale_108 : decode cX3_partIfStale 108 = .ok (.iload_n 1, 1) := by decide +kernel
theorem dX3_partIfStale_109 : decode cX3_partIfStale 109 = .ok (.iload_n 3, 1) := by decide +kernel
theorem dX3_partIfStale_110 : decode cX3_partIfStale 110 = .ok (.iadd, 1) := by decide +kernel
theorem dX3_partIfStale_111 : decode cX3_partIfStale 111 = .ok (.istore_n 1, 1) := by decide +kernel
theorem dX3_partIfStale_112 : decode cX3_partIfStale 112 = .ok (.aload_n 0, 1) := by decide +kernel
theorem dX3_partIfStale_113 : decode cX3_partIfStale 113 = .ok (.getfield 43, 3) := by decide +kernel
theorem dX3_partIfStale_116 : decode cX3_partIfStale 116 = .ok (.aload_n 0, 1) := by decide +kernel
theorem dX3_partIfStale_117 : decode cX3_partIfStale 117 = .ok (.getfield 15, 3) := by decide +kernel
theorem dX3_partIfStale_120 : decode cX3_partIfStale 120 = .ok (.iload_n 1, 1) := by decide +kernel
theorem dX3_partIfStale_121 : decode cX3_partIfStale 121 = .ok (.iastore, 1) := by decide +kernel
theorem dX3_partIfStale_122 : decode cX3_partIfStale 122 = .ok (.aload_n 0, 1) := by decide +kernel
theorem dX3_partIfStale_123 : decode cX3_partIfStale 123 = .ok (.aload_n 0, 1) := by decide +kernel
theorem dX3_partIfStale_124 : decode cX3_partIfStale 124 = .ok (.getfield 30, 3) := by decide +kernel
theorem dX3_partIfStale_127 : decode cX3_partIfStale 127 = .ok (.invokevirtual 55, 3) := by decide +kernel
theorem dX3_partIfStale_130 : decode cX3_partIfStale 130 = .ok (.aload_n 0, 1) := by decide +kernel
theorem dX3_partIfStale_131 : decode cX3_partIfStale 131 = .ok (.dup, 1) := by decide +kernel
theorem dX3_partIfStale_132 : decode cX3_partIfStale 132 = .ok (.getfield 15, 3) := by decide +kernel
theorem dX3_partIfStale_135 : decode cX3_partIfStale 135 = .ok (.iconst 1, 1) := by decide +kernel
theorem dX3_partIfStale_136 : decode cX3_partIfStale 136 = .ok (.iadd, 1) := by decide +kernel
theorem dX3_partIfStale_137 : decode cX3_partIfStale 137 = .ok (.putfield 15, 3) := by decide +kernel
theorem dX3_partIfStale_140 : decode cX3_partIfStale 140 = .ok (.goto (-75), 3) := by decide +kernel
theorem dX3_partIfStale_143 : decode cX3_partIfStale 143 = .ok (.return_, 1) := by decide +kernel
theorem dX3_addUp_0 : decode cX3_addUp 0 = .ok (.aload_n 0, 1) := by decide +kernel
theorem dX3_addUp_1 : decode cX3_addUp 1 = .ok (.getfield 33, 3) := by decide +kernel
theorem dX3_addUp_4 : decode cX3_addUp 4 = .ok (.iconst 0, 1) := by decide +kernel
theorem dX3_addUp_5 : decode cX3_addUp 5 = .ok (.invokestatic 49, 3) := by decide +kernel
theorem dX3_addUp_8 : decode cX3_addUp 8 = .ok (.aload_n 0, 1) := by decide +kernel
theorem dX3_addUp_9 : decode cX3_addUp 9 = .ok (.getfield 37, 3) := by decide +kernel
theorem dX3_addUp_12 : decode cX3_addUp 12 = .ok (.iconst 0, 1) := by decide +kernel
theorem dX3_addUp_13 : decode cX3_addUp 13 = .ok (.invokestatic 49, 3) := by decide +kernel
theorem dX3_addUp_16 : decode cX3_addUp 16 = .ok (.iconst 0, 1) := by decide +kernel
theorem dX3_addUp_17 : decode cX3_addUp 17 = .ok (.istore_n 2, 1) := by decide +kernel
theorem dX3_addUp_18 : decode cX3_addUp 18 = .ok (.iload_n 2, 1) := by decide +kernel
theorem dX3_addUp_19 : decode cX3_addUp 19 = .ok (.aload_n 0, 1) := by decide +kernel
theorem dX3_addUp_20 : decode cX3_addUp 20 = .ok (.getfield 9, 3) := by decide +kernel
theorem dX3_addUp_23 : decode cX3_addUp 23 = .ok (.if_icmp .ge 53, 3) := by decide +kernel
theorem dX3_addUp_26 : decode cX3_addUp 26 = .ok (.iconst 0, 1) := by decide +kernel
theorem dX3_addUp_27 : decode cX3_addUp 27 = .ok (.istore_n 3, 1) := by decide +kernel
theorem dX3_addUp_28 : decode cX3_addUp 28 = .ok (.iload_n 3, 1) := by decide +kernel
theorem dX3_addUp_29 : decode cX3_addUp 29 = .ok (.aload_n 0, 1) := by decide +kernel
theorem dX3_addUp_30 : decode cX3_addUp 30 = .ok (.getfield 9, 3) := by decide +kernel
theorem dX3_addUp_33 : decode cX3_addUp 33 = .ok (.if_icmp .ge 37, 3) := by decide +kernel
theorem dX3_addUp_36 : decode cX3_addUp 36 = .ok (.aload_n 0, 1) := by decide +kernel
theorem dX3_addUp_37 : decode cX3_addUp 37 = .ok (.getfield 33, 3) := by decide +kernel
theorem dX3_addUp_40 : decode cX3_addUp 40 = .ok (.iload_n 2, 1) := by decide +kernel
theorem dX3_addUp_41 : decode cX3_addUp 41 = .ok (.dup2, 1) := by decide +kernel
theorem dX3_addUp_42 : decode cX3_addUp 42 = .ok (.iaload, 1) := by decide +kernel
theorem dX3_addUp_43 : decode cX3_addUp 43 = .ok (.aload_n 1, 1) := by decide +kernel
theorem dX3_addUp_44 : decode cX3_addUp 44 = .ok (.iload_n 2, 1) := by decide +kernel
theorem dX3_addUp_45 : decode cX3_addUp 45 = .ok (.aaload, 1) := by decide +kernel
theorem dX3_addUp_46 : decode cX3_addUp 46 = .ok (.iload_n 3, 1) := by decide +kernel
theorem dX3_addUp_47 : decode cX3_addUp 47 = .ok (.iaload, 1) := by decide +kernel
theorem dX3_addUp_48 : decode cX3_addUp 48 = .ok (.iadd, 1) := by decide +kernel
theorem dX3_addUp_49 : decode cX3_addUp 49 = .ok (.iastore, 1) := by decide +kernel
theorem dX3_addUp_50 : decode cX3_addUp 50 = .ok (.aload_n 0, 1) := by decide +kernel
theorem dX3_addUp_51 : decode cX3_addUp 51 = .ok (.getfield 37, 3) := by decide +kernel
theorem dX3_addUp_54 : decode cX3_addUp 54 = .ok (.iload_n 3, 1) := by decide +kernel
theorem dX3_addUp_55 : decode cX3_addUp 55 = .ok (.dup2, 1) := by decide +kernel
theorem dX3_addUp_56 : decode cX3_addUp 56 = .ok (.iaload, 1) := by decide +kernel
theorem dX3_addUp_57 : decode cX3_addUp 57 = .ok (.aload_n 1, 1) := by decide +kernel
theorem dX3_addUp_58 : decode cX3_addUp 58 = .ok (.iload_n 2, 1) := by decide +kernel
theorem dX3_addUp_59 : decode cX3_addUp 59 = .ok (.aaload, 1) := by decide +kernel
theorem dX3_addUp_60 : decode cX3_addUp 60 = .ok (.iload_n 3, 1) := by decide +kernel
theorem dX3_addUp_61 : decode cX3_addUp 61 = .ok (.iaload, 1) := by decide +kernel
theorem dX3_addUp_62 : decode cX3_addUp 62 = .ok (.iadd, 1) := by decide +kernel
theorem dX3_addUp_63 : decode cX3_addUp 63 = .ok (.iastore, 1) := by decide +kernel
theorem dX3_addUp_64 : decode cX3_addUp 64 = .ok (.iinc 3 1, 3) := by decide +kernel
theorem dX3_addUp_67 : decode cX3_addUp 67 = .ok (.goto (-39), 3) := by decide +kernel
theorem dX3_addUp_70 : decode cX3_addUp 70 = .ok (.iinc 2 1, 3) := by decide +kernel
theorem dX3_addUp_73 : decode cX3_addUp 73 = .ok (.goto (-55), 3) := by decide +kernel
theorem dX3_addUp_76 : decode cX3_addUp 76 = .ok (.aload_n 0, 1) := by decide +kernel
theorem dX3_addUp_77 : decode cX3_addUp 77 = .ok (.iconst 0, 1) := by decide +kernel
theorem dX3_addUp_78 : decode cX3_addUp 78 = .ok (.putfield 22, 3) := by decide +kernel
theorem dX3_addUp_81 : decode cX3_addUp 81 = .ok (.iconst 0, 1) := by decide +kernel
theorem dX3_addUp_82 : decode cX3_addUp 82 = .ok (.istore_n 2, 1) := by decide +kernel
theorem dX3_addUp_83 : decode cX3_addUp 83 = .ok (.iload_n 2, 1) := by decide +kernel
theorem dX3_addUp_84 : decode cX3_addUp 84 = .ok (.aload_n 0, 1) := by decide +kernel
theorem dX3_addUp_85 : decode cX3_addUp 85 = .ok (.getfield 9, 3) := by decide +kernel
theorem dX3_addUp_88 : decode cX3_addUp 88 = .ok (.if_icmp .ge 35, 3) := by decide +kernel
theorem dX3_addUp_91 : decode cX3_addUp 91 = .ok (.aload_n 0, 1) := by decide +kernel
theorem dX3_addUp_92 : decode cX3_addUp 92 = .ok (.aload_n 0, 1) := by decide +kernel
theorem dX3_addUp_93 : decode cX3_addUp 93 = .ok (.getfield 22, 3) := by decide +kernel
theorem dX3_addUp_96 : decode cX3_addUp 96 = .ok (.aload_n 0, 1) := by decide +kernel
theorem dX3_addUp_97 : decode cX3_addUp 97 = .ok (.getfield 33, 3) := by decide +kernel
theorem dX3_addUp_100 : decode cX3_addUp 100 = .ok (.iload_n 2, 1) := by decide +kernel
theorem dX3_addUp_101 : decode cX3_addUp 101 = .ok (.iaload, 1) := by decide +kernel
theorem dX3_addUp_102 : decode cX3_addUp 102 = .ok (.aload_n 0, 1) := by decide +kernel
theorem dX3_addUp_103 : decode cX3_addUp 103 = .ok (.getfield 37, 3) := by decide +kernel
theorem dX3_addUp_106 : decode cX3_addUp 106 = .ok (.iload_n 2, 1) := by decide +kernel
theorem dX3_addUp_107 : decode cX3_addUp 107 = .ok (.iaload, 1) := by decide +kernel
theorem dX3_addUp_108 : decode cX3_addUp 108 = .ok (.invokestatic 79, 3) := by decide +kernel
theorem dX3_addUp_111 : decode cX3_addUp 111 = .ok (.invokestatic 79, 3) := by decide +kernel
theorem dX3_addUp_114 : decode cX3_addUp 114 = .ok (.putfield 22, 3) := by decide +kernel
theorem dX3_addUp_117 : decode cX3_addUp 117 = .ok (.iinc 2 1, 3) := by decide +kernel
theorem dX3_addUp_120 : decode cX3_addUp 120 = .ok (.goto (-37), 3) := by decide +kernel
theorem dX3_addUp_123 : decode cX3_addUp 123 = .ok (.return_, 1) := by decide +kernel
theorem dX3_chooseRow_0 : decode cX3_chooseRow 0 = .ok (.aload_n 0, 1) := by decide +kernel
theorem dX3_chooseRow_1 : decode cX3_chooseRow 1 = .ok (.invokevirtual 85, 3) := by decide +kernel
theorem dX3_chooseRow_4 : decode cX3_chooseRow 4 = .ok (.iconst 0, 1) := by decide +kernel
theorem dX3_chooseRow_5 : decode cX3_chooseRow 5 = .ok (.istore_n 2, 1) := by decide +kernel
theorem dX3_chooseRow_6 : decode cX3_chooseRow 6 = .ok (.iconst 0, 1) := by decide +kernel
theorem dX3_chooseRow_7 : decode cX3_chooseRow 7 = .ok (.istore_n 3, 1) := by decide +kernel
theorem dX3_chooseRow_8 : decode cX3_chooseRow 8 = .ok (.iload_n 3, 1) := by decide +kernel
theorem dX3_chooseRow_9 : decode cX3_chooseRow 9 = .ok (.aload_n 0, 1) := by decide +kernel
theorem dX3_chooseRow_10 : decode cX3_chooseRow 10 = .ok (.getfield 9, 3) := by decide +kernel
theorem dX3_chooseRow_13 : decode cX3_chooseRow 13 = .ok (.if_icmp .ge 72, 3) := by decide +kernel
theorem dX3_chooseRow_16 : decode cX3_chooseRow 16 = .ok (.aload_n 1, 1) := by decide +kernel
theorem dX3_chooseRow_17 : decode cX3_chooseRow 17 = .ok (.iload_n 3, 1) := by decide +kernel
theorem dX3_chooseRow_18 : decode cX3_chooseRow 18 = .ok (.bipush (-9), 2) := by decide +kernel
theorem dX3_chooseRow_20 : decode cX3_chooseRow 20 = .ok (.iastore, 1) := by decide +kernel
theorem dX3_chooseRow_21 : decode cX3_chooseRow 21 = .ok (.iconst 0, 1) := by decide +kernel
theorem dX3_chooseRow_22 : decode cX3_chooseRow 22 = .ok (.istore 4, 2) := by decide +kernel
theorem dX3_chooseRow_24 : decode cX3_chooseRow 24 = .ok (.iload 4, 2) := by decide +kernel
theorem dX3_chooseRow_26 : decode cX3_chooseRow 26 = .ok (.aload_n 0, 1) := by decide +kernel
theorem dX3_chooseRow_27 : decode cX3_chooseRow 27 = .ok (.getfield 9, 3) := by decide +kernel
theorem dX3_chooseRow_30 : decode cX3_chooseRow 30 = .ok (.if_icmp .ge 33, 3) := by decide +kernel
theorem dX3_chooseRow_33 : decode cX3_chooseRow 33 = .ok (.aload_n 1, 1) := by decide +kernel
theorem dX3_chooseRow_34 : decode cX3_chooseRow 34 = .ok (.iload_n 3, 1) := by decide +kernel
theorem dX3_chooseRow_35 : decode cX3_chooseRow 35 = .ok (.iaload, 1) := by decide +kernel
theorem dX3_chooseRow_36 : decode cX3_chooseRow 36 = .ok (.bipush (-9), 2) := by decide +kernel
theorem dX3_chooseRow_38 : decode cX3_chooseRow 38 = .ok (.if_icmp .ne 25, 3) := by decide +kernel
theorem dX3_chooseRow_41 : decode cX3_chooseRow 41 = .ok (.aload_n 0, 1) := by decide +kernel
theorem dX3_chooseRow_42 : decode cX3_chooseRow 42 = .ok (.iload_n 3, 1) := by decide +kernel
theorem dX3_chooseRow_43 : decode cX3_chooseRow 43 = .ok (.iload 4, 2) := by decide +kernel
theorem dX3_chooseRow_45 : decode cX3_chooseRow 45 = .ok (.iload_n 2, 1) := by decide +kernel
theorem dX3_chooseRow_46 : decode cX3_chooseRow 46 = .ok (.invokevirtual 88, 3) := by decide +kernel
theorem dX3_chooseRow_49 : decode cX3_chooseRow 49 = .ok (.ifCond .eq 8, 3) := by decide +kernel
theorem dX3_chooseRow_52 : decode cX3_chooseRow 52 = .ok (.aload_n 1, 1) := by decide +kernel
theorem dX3_chooseRow_53 : decode cX3_chooseRow 53 = .ok (.iload_n 3, 1) := by decide +kernel
theorem dX3_chooseRow_54 : decode cX3_chooseRow 54 = .ok (.iload 4, 2) := by decide +kernel
theorem dX3_chooseRow_56 : decode cX3_chooseRow 56 = .ok (.iastore, 1) := by decide +kernel
theorem dX3_chooseRow_57 : decode cX3_chooseRow 57 = .ok (.iinc 4 1, 3) := by decide +kernel
theorem dX3_chooseRow_60 : decode cX3_chooseRow 60 = .ok (.goto (-36), 3) := by decide +kernel
theorem dX3_chooseRow_63 : decode cX3_chooseRow 63 = .ok (.aload_n 1, 1) := by decide +kernel
theorem dX3_chooseRow_64 : decode cX3_chooseRow 64 = .ok (.iload_n 3, 1) := by decide +kernel
theorem dX3_chooseRow_65 : decode cX3_chooseRow 65 = .ok (.iaload, 1) := by decide +kernel
theorem dX3_chooseRow_66 : decode cX3_chooseRow 66 = .ok (.bipush (-9), 2) := by decide +kernel
theorem dX3_chooseRow_68 : decode cX3_chooseRow 68 = .ok (.if_icmp .eq 11, 3) := by decide +kernel
theorem dX3_chooseRow_71 : decode cX3_chooseRow 71 = .ok (.iload_n 2, 1) := by decide +kernel
theorem dX3_chooseRow_72 : decode cX3_chooseRow 72 = .ok (.iconst 1, 1) := by decide +kernel
theorem dX3_chooseRow_73 : decode cX3_chooseRow 73 = .ok (.aload_n 1, 1) := by decide +kernel
theorem dX3_chooseRow_74 : decode cX3_chooseRow 74 = .ok (.iload_n 3, 1) := by decide +kernel
theorem dX3_chooseRow_75 : decode cX3_chooseRow 75 = .ok (.iaload, 1) := by decide +kernel
theorem dX3_chooseRow_76 : decode cX3_chooseRow 76 = .ok (.ishl, 1) := by decide +kernel
theorem dX3_chooseRow_77 : decode cX3_chooseRow 77 = .ok (.ior, 1) := by decide +kernel
theorem dX3_chooseRow_78 : decode cX3_chooseRow 78 = .ok (.istore_n 2, 1) := by decide +kernel
theorem dX3_chooseRow_79 : decode cX3_chooseRow 79 = .ok (.iinc 3 1, 3) := by decide +kernel
theorem dX3_chooseRow_82 : decode cX3_chooseRow 82 = .ok (.goto (-74), 3) := by decide +kernel
theorem dX3_chooseRow_85 : decode cX3_chooseRow 85 = .ok (.return_, 1) := by decide +kernel
theorem dX3_findWhatGoesOn_0 : decode cX3_findWhatGoesOn 0 = .ok (.iconst 0, 1) := by decide +kernel
theorem dX3_findWhatGoesOn_1 : decode cX3_findWhatGoesOn 1 = .ok (.istore_n 1, 1) := by decide +kernel
theorem dX3_findWhatGoesOn_2 : decode cX3_findWhatGoesOn 2 = .ok (.iconst 0, 1) := by decide +kernel
theorem dX3_findWhatGoesOn_3 : decode cX3_findWhatGoesOn 3 = .ok (.istore_n 2, 1) := by decide +kernel
theorem dX3_findWhatGoesOn_4 : decode cX3_findWhatGoesOn 4 = .ok (.iload_n 2, 1) := by decide +kernel
theorem dX3_findWhatGoesOn_5 : decode cX3_findWhatGoesOn 5 = .ok (.aload_n 0, 1) := by decide +kernel
theorem dX3_findWhatGoesOn_6 : decode cX3_findWhatGoesOn 6 = .ok (.getfield 9, 3) := by decide +kernel
theorem dX3_findWhatGoesOn_9 : decode cX3_findWhatGoesOn 9 = .ok (.if_icmp .ge 28, 3) := by decide +kernel
theorem dX3_findWhatGoesOn_12 : decode cX3_findWhatGoesOn 12 = .ok (.aload_n 0, 1) := by decide +kernel
theorem dX3_findWhatGoesOn_13 : decode cX3_findWhatGoesOn 13 = .ok (.getfield 37, 3) := by decide +kernel
theorem dX3_findWhatGoesOn_16 : decode cX3_findWhatGoesOn 16 = .ok (.iload_n 2, 1) := by decide +kernel
theorem dX3_findWhatGoesOn_17 : decode cX3_findWhatGoesOn 17 = .ok (.iaload, 1) := by decide +kernel
theorem dX3_findWhatGoesOn_18 : decode cX3_findWhatGoesOn 18 = .ok (.aload_n 0, 1) := by decide +kernel
theorem dX3_findWhatGoesOn_19 : decode cX3_findWhatGoesOn 19 = .ok (.getfield 22, 3) := by decide +kernel
theorem dX3_findWhatGoesOn_22 : decode cX3_findWhatGoesOn 22 = .ok (.if_icmp .ne 9, 3) := by decide +kernel
theorem dX3_findWhatGoesOn_25 : decode cX3_findWhatGoesOn 25 = .ok (.iload_n 1, 1) := by decide +kernel
theorem dX3_findWhatGoesOn_26 : decode cX3_findWhatGoesOn 26 = .ok (.iconst 1, 1) := by decide +kernel
theorem dX3_findWhatGoesOn_27 : decode cX3_findWhatGoesOn 27 = .ok (.iload_n 2, 1) := by decide +kernel
theorem dX3_findWhatGoesOn_28 : decode cX3_findWhatGoesOn 28 = .ok (.ishl, 1) := by decide +kernel
theorem dX3_findWhatGoesOn_29 : decode cX3_findWhatGoesOn 29 = .ok (.ior, 1) := by decide +kernel
theorem dX3_findWhatGoesOn_30 : decode cX3_findWhatGoesOn 30 = .ok (.istore_n 1, 1) := by decide +kernel
theorem dX3_findWhatGoesOn_31 : decode cX3_findWhatGoesOn 31 = .ok (.iinc 2 1, 3) := by decide +kernel
theorem dX3_findWhatGoesOn_34 : decode cX3_findWhatGoesOn 34 = .ok (.goto (-30), 3) := by decide +kernel
theorem dX3_findWhatGoesOn_37 : decode cX3_findWhatGoesOn 37 = .ok (.aload_n 0, 1) := by decide +kernel
theorem dX3_findWhatGoesOn_38 : decode cX3_findWhatGoesOn 38 = .ok (.getfield 46, 3) := by decide +kernel
theorem dX3_findWhatGoesOn_41 : decode cX3_findWhatGoesOn 41 = .ok (.aload_n 0, 1) := by decide +kernel
theorem dX3_findWhatGoesOn_42 : decode cX3_findWhatGoesOn 42 = .ok (.getfield 9, 3) := by decide +kernel
theorem dX3_findWhatGoesOn_45 : decode cX3_findWhatGoesOn 45 = .ok (.iconst 0, 1) := by decide +kernel
theorem dX3_findWhatGoesOn_46 : decode cX3_findWhatGoesOn 46 = .ok (.iastore, 1) := by decide +kernel
theorem dX3_findWhatGoesOn_47 : decode cX3_findWhatGoesOn 47 = .ok (.iconst 0, 1) := by decide +kernel
theorem dX3_findWhatGoesOn_48 : decode cX3_findWhatGoesOn 48 = .ok (.istore_n 2, 1) := by decide +kernel
theorem dX3_findWhatGoesOn_49 : decode cX3_findWhatGoesOn 49 = .ok (.iload_n 2, 1) := by decide +kernel
theorem dX3_findWhatGoesOn_50 : decode cX3_findWhatGoesOn 50 = .ok (.iconst 1, 1) := by decide +kernel
theorem dX3_findWhatGoesOn_51 : decode cX3_findWhatGoesOn 51 = .ok (.aload_n 0, 1) := by decide +kernel
theorem dX3_findWhatGoesOn_52 : decode cX3_findWhatGoesOn 52 = .ok (.getfield 9, 3) := by decide +kernel
theorem dX3_findWhatGoesOn_55 : decode cX3_findWhatGoesOn 55 = .ok (.ishl, 1) := by decide +kernel
theorem dX3_findWhatGoesOn_56 : decode cX3_findWhatGoesOn 56 = .ok (.if_icmp .ge 32, 3) := by decide +kernel
theorem dX3_findWhatGoesOn_59 : decode cX3_findWhatGoesOn 59 = .ok (.iload_n 1, 1) := by decide +kernel
theorem dX3_findWhatGoesOn_60 : decode cX3_findWhatGoesOn 60 = .ok (.iload_n 2, 1) := by decide +kernel
theorem dX3_findWhatGoesOn_61 : decode cX3_findWhatGoesOn 61 = .ok (.iconst (-1), 1) := by decide +kernel
theorem dX3_findWhatGoesOn_62 : decode cX3_findWhatGoesOn 62 = .ok (.ixor, 1) := by decide +kernel
theorem dX3_findWhatGoesOn_63 : decode cX3_findWhatGoesOn 63 = .ok (.iand, 1) := by decide +kernel
theorem dX3_findWhatGoesOn_64 : decode cX3_findWhatGoesOn 64 = .ok (.ifCond .ne 18, 3) := by decide +kernel
theorem dX3_findWhatGoesOn_67 : decode cX3_findWhatGoesOn 67 = .ok (.aload_n 0, 1) := by decide +kernel
theorem dX3_findWhatGoesOn_68 : decode cX3_findWhatGoesOn 68 = .ok (.getfield 46, 3) := by decide +kernel
theorem dX3_findWhatGoesOn_71 : decode cX3_findWhatGoesOn 71 = .ok (.aload_n 0, 1) := by decide +kernel
theorem dX3_findWhatGoesOn_72 : decode cX3_findWhatGoesOn 72 = .ok (.getfield 9, 3) := by decide +kernel
theorem dX3_findWhatGoesOn_75 : decode cX3_findWhatGoesOn 75 = .ok (.dup2, 1) := by decide +kernel
theorem dX3_findWhatGoesOn_76 : decode cX3_findWhatGoesOn 76 = .ok (.iaload, 1) := by decide +kernel
theorem dX3_findWhatGoesOn_77 : decode cX3_findWhatGoesOn 77 = .ok (.iconst 1, 1) := by decide +kernel
theorem dX3_findWhatGoesOn_78 : decode cX3_findWhatGoesOn 78 = .ok (.iload_n 2, 1) := by decide +kernel
theorem dX3_findWhatGoesOn_79 : decode cX3_findWhatGoesOn 79 = .ok (.ishl, 1) := by decide +kernel
theorem dX3_findWhatGoesOn_80 : decode cX3_findWhatGoesOn 80 = .ok (.ior, 1) := by decide +kernel
theorem dX3_findWhatGoesOn_81 : decode cX3_findWhatGoesOn 81 = .ok (.iastore, 1) := by decide +kernel
theorem dX3_findWhatGoesOn_82 : decode cX3_findWhatGoesOn 82 = .ok (.iinc 2 1, 3) := by decide +kernel
theorem dX3_findWhatGoesOn_85 : decode cX3_findWhatGoesOn 85 = .ok (.goto (-36), 3) := by decide +kernel
theorem dX3_findWhatGoesOn_88 : decode cX3_findWhatGoesOn 88 = .ok (.aload_n 0, 1) := by decide +kernel
theorem dX3_findWhatGoesOn_89 : decode cX3_findWhatGoesOn 89 = .ok (.getfield 9, 3) := by decide +kernel
theorem dX3_findWhatGoesOn_92 : decode cX3_findWhatGoesOn 92 = .ok (.iconst 1, 1) := by decide +kernel
theorem dX3_findWhatGoesOn_93 : decode cX3_findWhatGoesOn 93 = .ok (.isub, 1) := by decide +kernel
theorem dX3_findWhatGoesOn_94 : decode cX3_findWhatGoesOn 94 = .ok (.istore_n 2, 1) := by decide +kernel
theorem dX3_findWhatGoesOn_95 : decode cX3_findWhatGoesOn 95 = .ok (.iload_n 2, 1) := by decide +kernel
theorem dX3_findWhatGoesOn_96 : decode cX3_findWhatGoesOn 96 = .ok (.ifCond .lt 79, 3) := by decide +kernel
theorem dX3_findWhatGoesOn_99 : decode cX3_findWhatGoesOn 99 = .ok (.aload_n 0, 1) := by decide +kernel
theorem dX3_findWhatGoesOn_100 : decode cX3_findWhatGoesOn 100 = .ok (.getfield 46, 3) := by decide +kernel
theorem dX3_findWhatGoesOn_103 : decode cX3_findWhatGoesOn 103 = .ok (.iload_n 2, 1) := by decide +kernel
theorem dX3_findWhatGoesOn_104 : decode cX3_findWhatGoesOn 104 = .ok (.aload_n 0, 1) := by decide +kernel
theorem dX3_findWhatGoesOn_105 : decode cX3_findWhatGoesOn 105 = .ok (.getfield 33, 3) := by decide +kernel
theorem dX3_findWhatGoesOn_108 : decode cX3_findWhatGoesOn 108 = .ok (.iload_n 2, 1) := by decide +kernel
theorem dX3_findWhatGoesOn_109 : decode cX3_findWhatGoesOn 109 = .ok (.iaload, 1) := by decide +kernel
theorem dX3_findWhatGoesOn_110 : decode cX3_findWhatGoesOn 110 = .ok (.aload_n 0, 1) := by decide +kernel
theorem dX3_findWhatGoesOn_111 : decode cX3_findWhatGoesOn 111 = .ok (.getfield 22, 3) := by decide +kernel
theorem dX3_findWhatGoesOn_114 : decode cX3_findWhatGoesOn 114 = .ok (.if_icmp .ge 14, 3) := by decide +kernel
theorem dX3_findWhatGoesOn_117 : decode cX3_findWhatGoesOn 117 = .ok (.aload_n 0, 1) := by decide +kernel
theorem dX3_findWhatGoesOn_118 : decode cX3_findWhatGoesOn 118 = .ok (.getfield 46, 3) := by decide +kernel
theorem dX3_findWhatGoesOn_121 : decode cX3_findWhatGoesOn 121 = .ok (.iload_n 2, 1) := by decide +kernel
theorem dX3_findWhatGoesOn_122 : decode cX3_findWhatGoesOn 122 = .ok (.iconst 1, 1) := by decide +kernel
theorem dX3_findWhatGoesOn_123 : decode cX3_findWhatGoesOn 123 = .ok (.iadd, 1) := by decide +kernel
theorem dX3_findWhatGoesOn_124 : decode cX3_findWhatGoesOn 124 = .ok (.iaload, 1) := by decide +kernel
theorem dX3_findWhatGoesOn_125 : decode cX3_findWhatGoesOn 125 = .ok (.goto 4, 3) := by decide +kernel
theorem dX3_findWhatGoesOn_128 : decode cX3_findWhatGoesOn 128 = .ok (.iconst 0, 1) := by decide +kernel
theorem dX3_findWhatGoesOn_129 : decode cX3_findWhatGoesOn 129 = .ok (.iastore, 1) := by decide +kernel
theorem dX3_findWhatGoesOn_130 : decode cX3_findWhatGoesOn 130 = .ok (.iconst 0, 1) := by decide +kernel
theorem dX3_findWhatGoesOn_131 : decode cX3_findWhatGoesOn 131 = .ok (.istore_n 3, 1) := by decide +kernel
theorem dX3_findWhatGoesOn_132 : decode cX3_findWhatGoesOn 132 = .ok (.iload_n 3, 1) := by decide +kernel
theorem dX3_findWhatGoesOn_133 : decode cX3_findWhatGoesOn 133 = .ok (.iconst 1, 1) := by decide +kernel
theorem dX3_findWhatGoesOn_134 : decode cX3_findWhatGoesOn 134 = .ok (.aload_n 0, 1) := by decide +kernel
theorem dX3_findWhatGoesOn_135 : decode cX3_findWhatGoesOn 135 = .ok (.getfield 9, 3) := by decide +kernel
theorem dX3_findWhatGoesOn_138 : decode cX3_findWhatGoesOn 138 = .ok (.ishl, 1) := by decide +kernel
theorem dX3_findWhatGoesOn_139 : decode cX3_findWhatGoesOn 139 = .ok (.if_icmp .ge 30, 3) := by decide +kernel
theorem dX3_findWhatGoesOn_142 : decode cX3_findWhatGoesOn 142 = .ok (.aload_n 0, 1) := by decide +kernel
theorem dX3_findWhatGoesOn_143 : decode cX3_findWhatGoesOn 143 = .ok (.iload_n 2, 1) := by decide +kernel
theorem dX3_findWhatGoesOn_144 : decode cX3_findWhatGoesOn 144 = .ok (.iload_n 3, 1) := by decide +kernel
theorem dX3_findWhatGoesOn_145 : decode cX3_findWhatGoesOn 145 = .ok (.invokevirtual 92, 3) := by decide +kernel
theorem dX3_findWhatGoesOn_148 : decode cX3_findWhatGoesOn 148 = .ok (.ifCond .eq 15, 3) := by decide +kernel
theorem dX3_findWhatGoesOn_151 : decode cX3_findWhatGoesOn 151 = .ok (.aload_n 0, 1) := by decide +kernel
theorem dX3_findWhatGoesOn_152 : decode cX3_findWhatGoesOn 152 = .ok (.getfield 46, 3) := by decide +kernel
theorem dX3_findWhatGoesOn_155 : decode cX3_findWhatGoesOn 155 = .ok (.iload_n 2, 1) := by decide +kernel
theorem dX3_findWhatGoesOn_156 : decode cX3_findWhatGoesOn 156 = .ok (.dup2, 1) := by decide +kernel
theorem dX3_findWhatGoesOn_157 : decode cX3_findWhatGoesOn 157 = .ok (.iaload, 1) := by decide +kernel
theorem dX3_findWhatGoesOn_158 : decode cX3_findWhatGoesOn 158 = .ok (.iconst 1, 1) := by decide +kernel
theorem dX3_findWhatGoesOn_159 : decode cX3_findWhatGoesOn 159 = .ok (.iload_n 3, 1) := by decide +kernel
theorem dX3_findWhatGoesOn_160 : decode cX3_findWhatGoesOn 160 = .ok (.ishl, 1) := by decide +kernel
theorem dX3_findWhatGoesOn_161 : decode cX3_findWhatGoesOn 161 = .ok (.ior, 1) := by decide +kernel
theorem dX3_findWhatGoesOn_162 : decode cX3_findWhatGoesOn 162 = .ok (.iastore, 1) := by decide +kernel
theorem dX3_findWhatGoesOn_163 : decode cX3_findWhatGoesOn 163 = .ok (.iinc 3 1, 3) := by decide +kernel
theorem dX3_findWhatGoesOn_166 : decode cX3_findWhatGoesOn 166 = .ok (.goto (-34), 3) := by decide +kernel
theorem dX3_findWhatGoesOn_169 : decode cX3_findWhatGoesOn 169 = .ok (.iinc 2 (-1), 3) := by decide +kernel
theorem dX3_findWhatGoesOn_172 : decode cX3_findWhatGoesOn 172 = .ok (.goto (-77), 3) := by decide +kernel
theorem dX3_findWhatGoesOn_175 : decode cX3_findWhatGoesOn 175 = .ok (.return_, 1) := by decide +kernel
theorem dX3_canGiveAny_0 : decode cX3_canGiveAny 0 = .ok (.iconst 0, 1) := by decide +kernel
theorem dX3_canGiveAny_1 : decode cX3_canGiveAny 1 = .ok (.istore_n 3, 1) := by decide +kernel
theorem dX3_canGiveAny_2 : decode cX3_canGiveAny 2 = .ok (.iload_n 3, 1) := by decide +kernel
theorem dX3_canGiveAny_3 : decode cX3_canGiveAny 3 = .ok (.aload_n 0, 1) := by decide +kernel
theorem dX3_canGiveAny_4 : decode cX3_canGiveAny 4 = .ok (.getfield 9, 3) := by decide +kernel
theorem dX3_canGiveAny_7 : decode cX3_canGiveAny 7 = .ok (.if_icmp .ge 21, 3) := by decide +kernel
theorem dX3_canGiveAny_10 : decode cX3_canGiveAny 10 = .ok (.aload_n 0, 1) := by decide +kernel
theorem dX3_canGiveAny_11 : decode cX3_canGiveAny 11 = .ok (.iload_n 1, 1) := by decide +kernel
theorem dX3_canGiveAny_12 : decode cX3_canGiveAny 12 = .ok (.iload_n 3, 1) := by decide +kernel
theorem dX3_canGiveAny_13 : decode cX3_canGiveAny 13 = .ok (.iload_n 2, 1) := by decide +kernel
theorem dX3_canGiveAny_14 : decode cX3_canGiveAny 14 = .ok (.invokevirtual 88, 3) := by decide +kernel
theorem dX3_canGiveAny_17 : decode cX3_canGiveAny 17 = .ok (.ifCond .eq 5, 3) := by decide +kernel
theorem dX3_canGiveAny_20 : decode cX3_canGiveAny 20 = .ok (.iconst 1, 1) := by decide +kernel
theorem dX3_canGiveAny_21 : decode cX3_canGiveAny 21 = .ok (.ireturn, 1) := by decide +kernel
theorem dX3_canGiveAny_22 : decode cX3_canGiveAny 22 = .ok (.iinc 3 1, 3) := by decide +kernel
theorem dX3_canGiveAny_25 : decode cX3_canGiveAny 25 = .ok (.goto (-23), 3) := by decide +kernel
theorem dX3_canGiveAny_28 : decode cX3_canGiveAny 28 = .ok (.iconst 0, 1) := by decide +kernel
theorem dX3_canGiveAny_29 : decode cX3_canGiveAny 29 = .ok (.ireturn, 1) := by decide +kernel
theorem dX3_canGive_0 : decode cX3_canGive 0 = .ok (.aload_n 0, 1) := by decide +kernel
theorem dX3_canGive_1 : decode cX3_canGive 1 = .ok (.getfield 30, 3) := by decide +kernel
theorem dX3_canGive_4 : decode cX3_canGive 4 = .ok (.iload_n 1, 1) := by decide +kernel
theorem dX3_canGive_5 : decode cX3_canGive 5 = .ok (.aaload, 1) := by decide +kernel
theorem dX3_canGive_6 : decode cX3_canGive 6 = .ok (.iload_n 2, 1) := by decide +kernel
theorem dX3_canGive_7 : decode cX3_canGive 7 = .ok (.iaload, 1) := by decide +kernel
theorem dX3_canGive_8 : decode cX3_canGive 8 = .ok (.ifCond .le 35, 3) := by decide +kernel
theorem dX3_canGive_11 : decode cX3_canGive 11 = .ok (.iload_n 3, 1) := by decide +kernel
theorem dX3_canGive_12 : decode cX3_canGive 12 = .ok (.iload_n 2, 1) := by decide +kernel
theorem dX3_canGive_13 : decode cX3_canGive 13 = .ok (.ishr, 1) := by decide +kernel
theorem dX3_canGive_14 : decode cX3_canGive 14 = .ok (.iconst 1, 1) := by decide +kernel
theorem dX3_canGive_15 : decode cX3_canGive 15 = .ok (.iand, 1) := by decide +kernel
theorem dX3_canGive_16 : decode cX3_canGive 16 = .ok (.ifCond .ne 27, 3) := by decide +kernel
theorem dX3_canGive_19 : decode cX3_canGive 19 = .ok (.aload_n 0, 1) := by decide +kernel
theorem dX3_canGive_20 : decode cX3_canGive 20 = .ok (.getfield 46, 3) := by decide +kernel
theorem dX3_canGive_23 : decode cX3_canGive 23 = .ok (.iload_n 1, 1) := by decide +kernel
theorem dX3_canGive_24 : decode cX3_canGive 24 = .ok (.iconst 1, 1) := by decide +kernel
theorem dX3_canGive_25 : decode cX3_canGive 25 = .ok (.iadd, 1) := by decide +kernel
theorem dX3_canGive_26 : decode cX3_canGive 26 = .ok (.iaload, 1) := by decide +kernel
theorem dX3_canGive_27 : decode cX3_canGive 27 = .ok (.iload_n 3, 1) := by decide +kernel
theorem dX3_canGive_28 : decode cX3_canGive 28 = .ok (.iconst 1, 1) := by decide +kernel
theorem dX3_canGive_29 : decode cX3_canGive 29 = .ok (.iload_n 2, 1) := by decide +kernel
theorem dX3_canGive_30 : decode cX3_canGive 30 = .ok (.ishl, 1) := by decide +kernel
theorem dX3_canGive_31 : decode cX3_canGive 31 = .ok (.ior, 1) := by decide +kernel
theorem dX3_canGive_32 : decode cX3_canGive 32 = .ok (.ishr, 1) := by decide +kernel
theorem dX3_canGive_33 : decode cX3_canGive 33 = .ok (.iconst 1, 1) := by decide +kernel
theorem dX3_canGive_34 : decode cX3_canGive 34 = .ok (.iand, 1) := by decide +kernel
theorem dX3_canGive_35 : decode cX3_canGive 35 = .ok (.iconst 1, 1) := by decide +kernel
theorem dX3_canGive_36 : decode cX3_canGive 36 = .ok (.if_icmp .ne 7, 3) := by decide +kernel
theorem dX3_canGive_39 : decode cX3_canGive 39 = .ok (.iconst 1, 1) := by decide +kernel
theorem dX3_canGive_40 : decode cX3_canGive 40 = .ok (.goto 4, 3) := by decide +kernel
theorem dX3_canGive_43 : decode cX3_canGive 43 = .ok (.iconst 0, 1) := by decide +kernel
theorem dX3_canGive_44 : decode cX3_canGive 44 = .ok (.ireturn, 1) := by decide +kernel
theorem dX3_roundsOf_0 : decode cX3_roundsOf 0 = .ok (.aload_n 0, 1) := by decide +kernel
theorem dX3_roundsOf_1 : decode cX3_roundsOf 1 = .ok (.getfield 22, 3) := by decide +kernel
theorem dX3_roundsOf_4 : decode cX3_roundsOf 4 = .ok (.istore_n 2, 1) := by decide +kernel
theorem dX3_roundsOf_5 : decode cX3_roundsOf 5 = .ok (.iconst 0, 1) := by decide +kernel
theorem dX3_roundsOf_6 : decode cX3_roundsOf 6 = .ok (.istore_n 3, 1) := by decide +kernel
theorem dX3_roundsOf_7 : decode cX3_roundsOf 7 = .ok (.iconst 0, 1) := by decide +kernel
theorem dX3_roundsOf_8 : decode cX3_roundsOf 8 = .ok (.istore 4, 2) := by decide +kernel
theorem dX3_roundsOf_10 : decode cX3_roundsOf 10 = .ok (.iload 4, 2) := by decide +kernel
theorem dX3_roundsOf_12 : decode cX3_roundsOf 12 = .ok (.aload_n 0, 1) := by decide +kernel
theorem dX3_roundsOf_13 : decode cX3_roundsOf 13 = .ok (.getfield 9, 3) := by decide +kernel
theorem dX3_roundsOf_16 : decode cX3_roundsOf 16 = .ok (.if_icmp .ge 76, 3) := by decide +kernel
theorem dX3_roundsOf_19 : decode cX3_roundsOf 19 = .ok (.aload_n 1, 1) := by decide +kernel
theorem dX3_roundsOf_20 : decode cX3_roundsOf 20 = .ok (.iload 4, 2) := by decide +kernel
theorem dX3_roundsOf_22 : decode cX3_roundsOf 22 = .ok (.iaload, 1) := by decide +kernel
theorem dX3_roundsOf_23 : decode cX3_roundsOf 23 = .ok (.bipush (-9), 2) := by decide +kernel
theorem dX3_roundsOf_25 : decode cX3_roundsOf 25 = .ok (.if_icmp .eq 7, 3) := by decide +kernel
theorem dX3_roundsOf_28 : decode cX3_roundsOf 28 = .ok (.iconst 1, 1) := by decide +kernel
theorem dX3_roundsOf_29 : decode cX3_roundsOf 29 = .ok (.goto 4, 3) := by decide +kernel
theorem dX3_roundsOf_32 : decode cX3_roundsOf 32 = .ok (.iconst 0, 1) := by decide +kernel
theorem dX3_roundsOf_33 : decode cX3_roundsOf 33 = .ok (.istore 5, 2) := by decide +kernel
theorem dX3_roundsOf_35 : decode cX3_roundsOf 35 = .ok (.iload_n 2, 1) := by decide +kernel
theorem dX3_roundsOf_36 : decode cX3_roundsOf 36 = .ok (.iload 5, 2) := by decide +kernel
theorem dX3_roundsOf_38 : decode cX3_roundsOf 38 = .ok (.ifCond .eq 18, 3) := by decide +kernel
theorem dX3_roundsOf_41 : decode cX3_roundsOf 41 = .ok (.aload_n 0, 1) := by decide +kernel
theorem dX3_roundsOf_42 : decode cX3_roundsOf 42 = .ok (.getfield 30, 3) := by decide +kernel
theorem dX3_roundsOf_45 : decode cX3_roundsOf 45 = .ok (.iload 4, 2) := by decide +kernel
theorem dX3_roundsOf_47 : decode cX3_roundsOf 47 = .ok (.aaload, 1) := by decide +kernel
theorem dX3_roundsOf_48 : decode cX3_roundsOf 48 = .ok (.aload_n 1, 1) := by decide +kernel
theorem dX3_roundsOf_49 : decode cX3_roundsOf 49 = .ok (.iload 4, 2) := by decide +kernel
theorem dX3_roundsOf_51 : decode cX3_roundsOf 51 = .ok (.iaload, 1) := by decide +kernel
theorem dX3_roundsOf_52 : decode cX3_roundsOf 52 = .ok (.iaload, 1) := by decide +kernel
theorem dX3_roundsOf_53 : decode cX3_roundsOf 53 = .ok (.goto 15, 3) := by decide +kernel
theorem dX3_roundsOf_56 : decode cX3_roundsOf 56 = .ok (.aload_n 0, 1) := by decide +kernel
theorem dX3_roundsOf_57 : decode cX3_roundsOf 57 = .ok (.getfield 22, 3) := by decide +kernel
theorem dX3_roundsOf_60 : decode cX3_roundsOf 60 = .ok (.aload_n 0, 1) := by decide +kernel
theorem dX3_roundsOf_61 : decode cX3_roundsOf 61 = .ok (.getfield 33, 3) := by decide +kernel
theorem dX3_roundsOf_64 : decode cX3_roundsOf 64 = .ok (.iload 4, 2) := by decide +kernel
theorem dX3_roundsOf_66 : decode cX3_roundsOf 66 = .ok (.iaload, 1) := by decide +kernel
theorem dX3_roundsOf_67 : decode cX3_roundsOf 67 = .ok (.isub, 1) := by decide +kernel
theorem dX3_roundsOf_68 : decode cX3_roundsOf 68 = .ok (.invokestatic 96, 3) := by decide +kernel
theorem dX3_roundsOf_71 : decode cX3_roundsOf 71 = .ok (.istore_n 2, 1) := by decide +kernel
theorem dX3_roundsOf_72 : decode cX3_roundsOf 72 = .ok (.iload 5, 2) := by decide +kernel
theorem dX3_roundsOf_74 : decode cX3_roundsOf 74 = .ok (.ifCond .eq 12, 3) := by decide +kernel
theorem dX3_roundsOf_77 : decode cX3_roundsOf 77 = .ok (.iload_n 3, 1) := by decide +kernel
theorem dX3_roundsOf_78 : decode cX3_roundsOf 78 = .ok (.iconst 1, 1) := by decide +kernel
theorem dX3_roundsOf_79 : decode cX3_roundsOf 79 = .ok (.aload_n 1, 1) := by decide +kernel
theorem dX3_roundsOf_80 : decode cX3_roundsOf 80 = .ok (.iload 4, 2) := by decide +kernel
theorem dX3_roundsOf_82 : decode cX3_roundsOf 82 = .ok (.iaload, 1) := by decide +kernel
theorem dX3_roundsOf_83 : decode cX3_roundsOf 83 = .ok (.ishl, 1) := by decide +kernel
theorem dX3_roundsOf_84 : decode cX3_roundsOf 84 = .ok (.ior, 1) := by decide +kernel
theorem dX3_roundsOf_85 : decode cX3_roundsOf 85 = .ok (.istore_n 3, 1) := by decide +kernel
theorem dX3_roundsOf_86 : decode cX3_roundsOf 86 = .ok (.iinc 4 1, 3) := by decide +kernel
theorem dX3_roundsOf_89 : decode cX3_roundsOf 89 = .ok (.goto (-79), 3) := by decide +kernel
theorem dX3_roundsOf_92 : decode cX3_roundsOf 92 = .ok (.iconst 0, 1) := by decide +kernel
theorem dX3_roundsOf_93 : decode cX3_roundsOf 93 = .ok (.istore 4, 2) := by decide +kernel
theorem dX3_roundsOf_95 : decode cX3_roundsOf 95 = .ok (.iload 4, 2) := by decide +kernel
theorem dX3_roundsOf_97 : decode cX3_roundsOf 97 = .ok (.aload_n 0, 1) := by decide +kernel
theorem dX3_roundsOf_98 : decode cX3_roundsOf 98 = .ok (.getfield 9, 3) := by decide +kernel
theorem dX3_roundsOf_101 : decode cX3_roundsOf 101 = .ok (.if_icmp .ge 35, 3) := by decide +kernel
theorem dX3_roundsOf_104 : decode cX3_roundsOf 104 = .ok (.iload_n 3, 1) := by decide +kernel
theorem dX3_roundsOf_105 : decode cX3_roundsOf 105 = .ok (.iload 4, 2) := by decide +kernel
theorem dX3_roundsOf_107 : decode cX3_roundsOf 107 = .ok (.ishr, 1) := by decide +kernel
theorem dX3_roundsOf_108 : decode cX3_roundsOf 108 = .ok (.iconst 1, 1) := by decide +kernel
theorem dX3_roundsOf_109 : decode cX3_roundsOf 109 = .ok (.iand, 1) := by decide +kernel
theorem dX3_roundsOf_110 : decode cX3_roundsOf 110 = .ok (.ifCond .ne 20, 3) := by decide +kernel
theorem dX3_roundsOf_113 : decode cX3_roundsOf 113 = .ok (.iload_n 2, 1) := by decide +kernel
theorem dX3_roundsOf_114 : decode cX3_roundsOf 114 = .ok (.aload_n 0, 1) := by decide +kernel
theorem dX3_roundsOf_115 : decode cX3_roundsOf 115 = .ok (.getfield 22, 3) := by decide +kernel
theorem dX3_roundsOf_118 : decode cX3_roundsOf 118 = .ok (.aload_n 0, 1) := by decide +kernel
theorem dX3_roundsOf_119 : decode cX3_roundsOf 119 = .ok (.getfield 37, 3) := by decide +kernel
theorem dX3_roundsOf_122 : decode cX3_roundsOf 122 = .ok (.iload 4, 2) := by decide +kernel
theorem dX3_roundsOf_124 : decode cX3_roundsOf 124 = .ok (.iaload, 1) := by decide +kernel
theorem dX3_roundsOf_125 : decode cX3_roundsOf 125 = .ok (.isub, 1) := by decide +kernel
theorem dX3_roundsOf_126 : decode cX3_roundsOf 126 = .ok (.invokestatic 96, 3) := by decide +kernel
theorem dX3_roundsOf_129 : decode cX3_roundsOf 129 = .ok (.istore_n 2, 1) := by decide +kernel
theorem dX3_roundsOf_130 : decode cX3_roundsOf 130 = .ok (.iinc 4 1, 3) := by decide +kernel
theorem dX3_roundsOf_133 : decode cX3_roundsOf 133 = .ok (.goto (-38), 3) := by decide +kernel
theorem dX3_roundsOf_136 : decode cX3_roundsOf 136 = .ok (.iload_n 2, 1) := by decide +kernel
theorem dX3_roundsOf_137 : decode cX3_roundsOf 137 = .ok (.ireturn, 1) := by decide +kernel
theorem dX3_takeOff_0 : decode cX3_takeOff 0 = .ok (.iconst 0, 1) := by decide +kernel
theorem dX3_takeOff_1 : decode cX3_takeOff 1 = .ok (.istore_n 3, 1) := by decide +kernel
theorem dX3_takeOff_2 : decode cX3_takeOff 2 = .ok (.iload_n 3, 1) := by decide +kernel
theorem dX3_takeOff_3 : decode cX3_takeOff 3 = .ok (.aload_n 0, 1) := by decide +kernel
theorem dX3_takeOff_4 : decode cX3_takeOff 4 = .ok (.getfield 9, 3) := by decide +kernel
theorem dX3_takeOff_7 : decode cX3_takeOff 7 = .ok (.if_icmp .ge 31, 3) := by decide +kernel
theorem dX3_takeOff_10 : decode cX3_takeOff 10 = .ok (.aload_n 1, 1) := by decide +kernel
theorem dX3_takeOff_11 : decode cX3_takeOff 11 = .ok (.iload_n 3, 1) := by decide +kernel
theorem dX3_takeOff_12 : decode cX3_takeOff 12 = .ok (.iaload, 1) := by decide +kernel
theorem dX3_takeOff_13 : decode cX3_takeOff 13 = .ok (.bipush (-9), 2) := by decide +kernel
theorem dX3_takeOff_15 : decode cX3_takeOff 15 = .ok (.if_icmp .eq 17, 3) := by decide +kernel
theorem dX3_takeOff_18 : decode cX3_takeOff 18 = .ok (.aload_n 0, 1) := by decide +kernel
theorem dX3_takeOff_19 : decode cX3_takeOff 19 = .ok (.getfield 30, 3) := by decide +kernel
theorem dX3_takeOff_22 : decode cX3_takeOff 22 = .ok (.iload_n 3, 1) := by decide +kernel
theorem dX3_takeOff_23 : decode cX3_takeOff 23 = .ok (.aaload, 1) := by decide +kernel
theorem dX3_takeOff_24 : decode cX3_takeOff 24 = .ok (.aload_n 1, 1) := by decide +kernel
theorem dX3_takeOff_25 : decode cX3_takeOff 25 = .ok (.iload_n 3, 1) := by decide +kernel
theorem dX3_takeOff_26 : decode cX3_takeOff 26 = .ok (.iaload, 1) := by decide +kernel
theorem dX3_takeOff_27 : decode cX3_takeOff 27 = .ok (.dup2, 1) := by decide +kernel
theorem dX3_takeOff_28 : decode cX3_takeOff 28 = .ok (.iaload, 1) := by decide +kernel
theorem dX3_takeOff_29 : decode cX3_takeOff 29 = .ok (.iload_n 2, 1) := by decide +kernel
theorem dX3_takeOff_30 : decode cX3_takeOff 30 = .ok (.isub, 1) := by decide +kernel
theorem dX3_takeOff_31 : decode cX3_takeOff 31 = .ok (.iastore, 1) := by decide +kernel
theorem dX3_takeOff_32 : decode cX3_takeOff 32 = .ok (.iinc 3 1, 3) := by decide +kernel
theorem dX3_takeOff_35 : decode cX3_takeOff 35 = .ok (.goto (-33), 3) := by decide +kernel
theorem dX3_takeOff_38 : decode cX3_takeOff 38 = .ok (.return_, 1) := by decide +kernel
theorem dX4_init_0 : decode cX4_init 0 = .ok (.aload_n 0, 1) := by decide +kernel
theorem dX4_init_1 : decode cX4_init 1 = .ok (.invokespecial 3, 3) := by decide +kernel
theorem dX4_init_4 : decode cX4_init 4 = .ok (.aload_n 0, 1) := by decide +kernel
theorem dX4_init_5 : decode cX4_init 5 = .ok (.iconst 3, 1) := by decide +kernel
theorem dX4_init_6 : decode cX4_init 6 = .ok (.putfield 9, 3) := by decide +kernel
theorem dX4_init_9 : decode cX4_init 9 = .ok (.aload_n 0, 1) := by decide +kernel
theorem dX4_init_10 : decode cX4_init 10 = .ok (.iconst 5, 1) := by decide +kernel
theorem dX4_init_11 : decode cX4_init 11 = .ok (.iconst 5, 1) := by decide +kernel
theorem dX4_init_12 : decode cX4_init 12 = .ok (.multianewarray 15 2, 4) := by decide +kernel
theorem dX4_init_16 : decode cX4_init 16 = .ok (.putfield 17, 3) := by decide +kernel
theorem dX4_init_19 : decode cX4_init 19 = .ok (.aload_n 0, 1) := by decide +kernel
theorem dX4_init_20 : decode cX4_init 20 = .ok (.iconst 5, 1) := by decide +kernel
theorem dX4_init_21 : decode cX4_init 21 = .ok (.newarray .int, 2) := by decide +kernel
theorem dX4_init_23 : decode cX4_init 23 = .ok (.putfield 20, 3) := by decide +kernel
theorem dX4_init_26 : decode cX4_init 26 = .ok (.aload_n 0, 1) := by decide +kernel
theorem dX4_init_27 : decode cX4_init 27 = .ok (.iconst 5, 1) := by decide +kernel
theorem dX4_init_28 : decode cX4_init 28 = .ok (.newarray .int, 2) := by decide +kernel
theorem dX4_init_30 : decode cX4_init 30 = .ok (.putfield 24, 3) := by decide +kernel
theorem dX4_init_33 : decode cX4_init 33 = .ok (.aload_n 0, 1) := by decide +kernel
theorem dX4_init_34 : decode cX4_init 34 = .ok (.iconst 5, 1) := by decide +kernel
theorem dX4_init_35 : decode cX4_init 35 = .ok (.newarray .int, 2) := by decide +kernel
theorem dX4_init_37 : decode cX4_init 37 = .ok (.putfield 27, 3) := by decide +kernel
theorem dX4_init_40 : decode cX4_init 40 = .ok (.aload_n 0, 1) := by decide +kernel
theorem dX4_init_41 : decode cX4_init 41 = .ok (.iconst 5, 1) := by decide +kernel
theorem dX4_init_42 : decode cX4_init 42 = .ok (.newarray .int, 2) := by decide +kernel
theorem dX4_init_44 : decode cX4_init 44 = .ok (.putfield 30, 3) := by decide +kernel
theorem dX4_init_47 : decode cX4_init 47 = .ok (.aload_n 0, 1) := by decide +kernel
theorem dX4_init_48 : decode cX4_init 48 = .ok (.iconst 5, 1) := by decide +kernel
theorem dX4_init_49 : decode cX4_init 49 = .ok (.newarray .int, 2) := by decide +kernel
theorem dX4_init_51 : decode cX4_init 51 = .ok (.putfield 33, 3) := by decide +kernel
theorem dX4_init_54 : decode cX4_init 54 = .ok (.aload_n 0, 1) := by decide +kernel
theorem dX4_init_55 : decode cX4_init 55 = .ok (.bipush 6, 2) := by decide +kernel
theorem dX4_init_57 : decode cX4_init 57 = .ok (.bipush 32, 2) := by decide +kernel
theorem dX4_init_59 : decode cX4_init 59 = .ok (.multianewarray 15 2, 4) := by decide +kernel
theorem dX4_init_63 : decode cX4_init 63 = .ok (.putfield 36, 3) := by decide +kernel
theorem dX4_init_66 : decode cX4_init 66 = .ok (.aload_n 0, 1) := by decide +kernel
theorem dX4_init_67 : decode cX4_init 67 = .ok (.invokevirtual 39, 3) := by decide +kernel
theorem dX4_init_70 : decode cX4_init 70 = .ok (.return_, 1) := by decide +kernel
theorem dX4_begin_0 : decode cX4_begin 0 = .ok (.aload_n 0, 1) := by decide +kernel
theorem dX4_begin_1 : decode cX4_begin 1 = .ok (.iload_n 1, 1) := by decide +kernel
theorem dX4_begin_2 : decode cX4_begin 2 = .ok (.putfield 9, 3) := by decide +kernel
theorem dX4_begin_5 : decode cX4_begin 5 = .ok (.iconst 0, 1) := by decide +kernel
theorem dX4_begin_6 : decode cX4_begin 6 = .ok (.istore_n 2, 1) := by decide +kernel
theorem dX4_begin_7 : decode cX4_begin 7 = .ok (.iload_n 2, 1) := by decide +kernel
theorem dX4_begin_8 : decode cX4_begin 8 = .ok (.iconst 5, 1) := by decide +kernel
theorem dX4_begin_9 : decode cX4_begin 9 = .ok (.if_icmp .ge 19, 3) := by decide +kernel
theorem dX4_begin_12 : decode cX4_begin 12 = .ok (.aload_n 0, 1) := by decide +kernel
theorem dX4_begin_13 : decode cX4_begin 13 = .ok (.getfield 17, 3) := by decide +kernel
theorem dX4_begin_16 : decode cX4_begin 16 = .ok (.iload_n 2, 1) := by decide +kernel
theorem dX4_begin_17 : decode cX4_begin 17 = .ok (.aaload, 1) := by decide +kernel
theorem dX4_begin_18 : decode cX4_begin 18 = .ok (.iconst 0, 1) := by decide +kernel
theorem dX4_begin_19 : decode cX4_begin 19 = .ok (.invokestatic 42, 3) := by decide +kernel
theorem dX4_begin_22 : decode cX4_begin 22 = .ok (.iinc 2 1, 3) := by decide +kernel
theorem dX4_begin_25 : decode cX4_begin 25 = .ok (.goto (-18), 3) := by decide +kernel
theorem dX4_begin_28 : decode cX4_begin 28 = .ok (.aload_n 0, 1) := by decide +kernel
theorem dX4_begin_29 : decode cX4_begin 29 = .ok (.getfield 27, 3) := by decide +kernel
theorem dX4_begin_32 : decode cX4_begin 32 = .ok (.iconst 0, 1) := by decide +kernel
theorem dX4_begin_33 : decode cX4_begin 33 = .ok (.invokestatic 42, 3) := by decide +kernel
theorem dX4_begin_36 : decode cX4_begin 36 = .ok (.aload_n 0, 1) := by decide +kernel
theorem dX4_begin_37 : decode cX4_begin 37 = .ok (.getfield 30, 3) := by decide +kernel
theorem dX4_begin_40 : decode cX4_begin 40 = .ok (.iconst 0, 1) := by decide +kernel
theorem dX4_begin_41 : decode cX4_begin 41 = .ok (.invokestatic 42, 3) := by decide +kernel
theorem dX4_begin_44 : decode cX4_begin 44 = .ok (.aload_n 0, 1) := by decide +kernel
theorem dX4_begin_45 : decode cX4_begin 45 = .ok (.invokevirtual 39, 3) := by decide +kernel
theorem dX4_begin_48 : decode cX4_begin 48 = .ok (.return_, 1) := by decide +kernel
theorem dX4_refusalOf_0 : decode cX4_refusalOf 0 = .ok (.iconst 0, 1) := by decide +kernel
theorem dX4_refusalOf_1 : decode cX4_refusalOf 1 = .ok (.istore_n 2, 1) := by decide +kernel
theorem dX4_refusalOf_2 : decode cX4_refusalOf 2 = .ok (.iload_n 2, 1) := by decide +kernel
theorem dX4_refusalOf_3 : decode cX4_refusalOf 3 = .ok (.aload_n 0, 1) := by decide +kernel
theorem dX4_refusalOf_4 : decode cX4_refusalOf 4 = .ok (.getfield 9, 3) := by decide +kernel
theorem dX4_refusalOf_7 : decode cX4_refusalOf 7 = .ok (.if_icmp .ge 28, 3) := by decide +kernel
theorem dX4_refusalOf_10 : decode cX4_refusalOf 10 = .ok (.aload_n 1, 1) := by decide +kernel
theorem dX4_refusalOf_11 : decode cX4_refusalOf 11 = .ok (.iload_n 2, 1) := by decide +kernel
theorem dX4_refusalOf_12 : decode cX4_refusalOf 12 = .ok (.iaload, 1) := by decide +kernel
theorem dX4_refusalOf_13 : decode cX4_refusalOf 13 = .ok (.iconst (-1), 1) := by decide +kernel
theorem dX4_refusalOf_14 : decode cX4_refusalOf 14 = .ok (.aload_n 0, 1) := by decide +kernel
theorem dX4_refusalOf_15 : decode cX4_refusalOf 15 = .ok (.getfield 9, 3) := by decide +kernel
theorem dX4_refusalOf_18 : decode cX4_refusalOf 18 = .ok (.iconst 1, 1) := by decide +kernel
theorem dX4_refusalOf_19 : decode cX4_refusalOf 19 = .ok (.isub, 1) := by decide +kernel
theorem dX4_refusalOf_20 : decode cX4_refusalOf 20 = .ok (.invokestatic 48, 3) := by decide +kernel
theorem dX4_refusalOf_23 : decode cX4_refusalOf 23 = .ok (.ifCond .ne 6, 3) := by decide +kernel
theorem dX4_refusalOf_26 : decode cX4_refusalOf 26 = .ok (.bipush (-2), 2) := by decide +kernel
theorem dX4_refusalOf_28 : decode cX4_refusalOf 28 = .ok (.ireturn, 1) := by decide +kernel
theorem dX4_refusalOf_29 : decode cX4_refusalOf 29 = .ok (.iinc 2 1, 3) := by decide +kernel
theorem dX4_refusalOf_32 : decode cX4_refusalOf 32 = .ok (.goto (-30), 3) := by decide +kernel
theorem dX4_refusalOf_35 : decode cX4_refusalOf 35 = .ok (.iconst 0, 1) := by decide +kernel
theorem dX4_refusalOf_36 : decode cX4_refusalOf 36 = .ok (.istore_n 2, 1) := by decide +kernel
theorem dX4_refusalOf_37 : decode cX4_refusalOf 37 = .ok (.iload_n 2, 1) := by decide +kernel
theorem dX4_refusalOf_38 : decode cX4_refusalOf 38 = .ok (.aload_n 0, 1) := by decide +kernel
theorem dX4_refusalOf_39 : decode cX4_refusalOf 39 = .ok (.getfield 9, 3) := by decide +kernel
theorem dX4_refusalOf_42 : decode cX4_refusalOf 42 = .ok (.if_icmp .ge 34, 3) := by decide +kernel
theorem dX4_refusalOf_45 : decode cX4_refusalOf 45 = .ok (.aload_n 1, 1) := by decide +kernel
theorem dX4_refusalOf_46 : decode cX4_refusalOf 46 = .ok (.iload_n 2, 1) := by decide +kernel
theorem dX4_refusalOf_47 : decode cX4_refusalOf 47 = .ok (.iaload, 1) := by decide +kernel
theorem dX4_refusalOf_48 : decode cX4_refusalOf 48 = .ok (.ifCond .lt 22, 3) := by decide +kernel
theorem dX4_refusalOf_51 : decode cX4_refusalOf 51 = .ok (.aload_n 0, 1) := by decide +kernel
theorem dX4_refusalOf_52 : decode cX4_refusalOf 52 = .ok (.getfield 17, 3) := by decide +kernel
theorem dX4_refusalOf_55 : decode cX4_refusalOf 55 = .ok (.iload_n 2, 1) := by decide +kernel
theorem dX4_refusalOf_56 : decode cX4_refusalOf 56 = .ok (.aaload, 1) := by decide +kernel
theorem dX4_refusalOf_57 : decode cX4_refusalOf 57 = .ok (.aload_n 1, 1) := by decide +kernel
theorem dX4_refusalOf_58 : decode cX4_refusalOf 58 = .ok (.iload_n 2, 1) := by decide +kernel
theorem dX4_refusalOf_59 : decode cX4_refusalOf 59 = .ok (.iaload, 1) := by decide +kernel
theorem dX4_refusalOf_60 : decode cX4_refusalOf 60 = .ok (.iaload, 1) := by decide +kernel
theorem dX4_refusalOf_61 : decode cX4_refusalOf 61 = .ok (.sipush 1000, 3) := by decide +kernel
theorem dX4_refusalOf_64 : decode cX4_refusalOf 64 = .ok (.if_icmp .lt 6, 3) := by decide +kernel
theorem dX4_refusalOf_67 : decode cX4_refusalOf 67 = .ok (.bipush (-4), 2) := by decide +kernel
theorem dX4_refusalOf_69 : decode cX4_refusalOf 69 = .ok (.ireturn, 1) := by decide +kernel
theorem dX4_refusalOf_70 : decode cX4_refusalOf 70 = .ok (.iinc 2 1, 3) := by decide +kernel
theorem dX4_refusalOf_73 : decode cX4_refusalOf 73 = .ok (.goto (-36), 3) := by decide +kernel
theorem dX4_refusalOf_76 : decode cX4_refusalOf 76 = .ok (.iconst 0, 1) := by decide +kernel
theorem dX4_refusalOf_77 : decode cX4_refusalOf 77 = .ok (.ireturn, 1) := by decide +kernel
theorem dX4_serve_0 : decode cX4_serve 0 = .ok (.iconst 0, 1) := by decide +kernel
theorem dX4_serve_1 : decode cX4_serve 1 = .ok (.istore_n 3, 1) := by decide +kernel
theorem dX4_serve_2 : decode cX4_serve 2 = .ok (.iload_n 3, 1) := by decide +kernel
theorem dX4_serve_3 : decode cX4_serve 3 = .ok (.aload_n 0, 1) := by decide +kernel
theorem dX4_serve_4 : decode cX4_serve 4 = .ok (.getfield 9, 3) := by decide +kernel
theorem dX4_serve_7 : decode cX4_serve 7 = .ok (.if_icmp .ge 29, 3) := by decide +kernel
theorem dX4_serve_10 : decode cX4_serve 10 = .ok (.aload_n 2, 1) := by decide +kernel
theorem dX4_serve_11 : decode cX4_serve 11 = .ok (.iload_n 3, 1) := by decide +kernel
theorem dX4_serve_12 : decode cX4_serve 12 = .ok (.iaload, 1) := by decide +kernel
theorem dX4_serve_13 : decode cX4_serve 13 = .ok (.ifCond .lt 17, 3) := by decide +kernel
theorem dX4_serve_16 : decode cX4_serve 16 = .ok (.aload_n 0, 1) := by decide +kernel
theorem dX4_serve_17 : decode cX4_serve 17 = .ok (.getfield 17, 3) := by decide +kernel
theorem dX4_serve_20 : decode cX4_serve 20 = .ok (.iload_n 3, 1) := by decide +kernel
theorem dX4_serve_21 : decode cX4_serve 21 = .ok (.aaload, 1) := by decide +kernel
theorem dX4_serve_22 : decode cX4_serve 22 = .ok (.aload_n 2, 1) := by decide +kernel
theorem dX4_serve_23 : decode cX4_serve 23 = .ok (.iload_n 3, 1) := by decide +kernel
theorem dX4_serve_24 : decode cX4_serve 24 = .ok (.iaload, 1) := by decide +kernel
theorem dX4_serve_25 : decode cX4_serve 25 = .ok (.dup2, 1) := by decide +kernel
theorem dX4_serve_26 : decode cX4_serve 26 = .ok (.iaload, 1) := by decide +kernel
theorem dX4_serve_27 : decode cX4_serve 27 = .ok (.iconst 1, 1) := by decide +kernel
theorem dX4_serve_28 : decode cX4_serve 28 = .ok (.iadd, 1) := by decide +kernel
theorem dX4_serve_29 : decode cX4_serve 29 = .ok (.iastore, 1) := by decide +kernel
theorem dX4_serve_30 : decode cX4_serve 30 = .ok (.iinc 3 1, 3) := by decide +kernel
theorem dX4_serve_33 : decode cX4_serve 33 = .ok (.goto (-31), 3) := by decide +kernel
theorem dX4_serve_36 : decode cX4_serve 36 = .ok (.aload_n 0, 1) := by decide +kernel
theorem dX4_serve_37 : decode cX4_serve 37 = .ok (.invokevirtual 39, 3) := by decide +kernel
theorem dX4_serve_40 : decode cX4_serve 40 = .ok (.iload_n 1, 1) := by decide +kernel
theorem dX4_serve_41 : decode cX4_serve 41 = .ok (.lookupswitch 41 #[(0, 27), (1, 34)], 27) := by decide +kernel
theorem dX4_serve_68 : decode cX4_serve 68 = .ok (.aload_n 0, 1) := by decide +kernel
theorem dX4_serve_69 : decode cX4_serve 69 = .ok (.invokevirtual 52, 3) := by decide +kernel
theorem dX4_serve_72 : decode cX4_serve 72 = .ok (.goto 14, 3) := by decide +kernel
theorem dX4_serve_75 : decode cX4_serve 75 = .ok (.aload_n 0, 1) := by decide +kernel
theorem dX4_serve_76 : decode cX4_serve 76 = .ok (.invokevirtual 55, 3) := by decide +kernel
theorem dX4_serve_79 : decode cX4_serve 79 = .ok (.goto 7, 3) := by decide +kernel
theorem dX4_serve_82 : decode cX4_serve 82 = .ok (.aload_n 0, 1) := by decide +kernel
theorem dX4_serve_83 : decode cX4_serve 83 = .ok (.invokevirtual 58, 3) := by decide +kernel
theorem dX4_serve_86 : decode cX4_serve 86 = .ok (.iconst 0, 1) := by decide +kernel
theorem dX4_serve_87 : decode cX4_serve 87 = .ok (.istore_n 3, 1) := by decide +kernel
theorem dX4_serve_88 : decode cX4_serve 88 = .ok (.iconst 0, 1) := by decide +kernel
theorem dX4_serve_89 : decode cX4_serve 89 = .ok (.istore 4, 2) := by decide +kernel
theorem dX4_serve_91 : decode cX4_serve 91 = .ok (.iload 4, 2) := by decide +kernel
theorem dX4_serve_93 : decode cX4_serve 93 = .ok (.aload_n 0, 1) := by decide +kernel
theorem dX4_serve_94 : decode cX4_serve 94 = .ok (.getfield 9, 3) := by decide +kernel
theorem dX4_serve_97 : decode cX4_serve 97 = .ok (.if_icmp .ge 46, 3) := by decide +kernel
theorem dX4_serve_100 : decode cX4_serve 100 = .ok (.aload_n 0, 1) := by decide +kernel
theorem dX4_serve_101 : decode cX4_serve 101 = .ok (.getfield 20, 3) := by decide +kernel
theorem dX4_serve_104 : decode cX4_serve 104 = .ok (.iload 4, 2) := by decide +kernel
theorem dX4_serve_106 : decode cX4_serve 106 = .ok (.iaload, 1) := by decide +kernel
theorem dX4_serve_107 : decode cX4_serve 107 = .ok (.bipush (-9), 2) := by decide +kernel
theorem dX4_serve_109 : decode cX4_serve 109 = .ok (.if_icmp .ne 6, 3) := by decide +kernel
theorem dX4_serve_112 : decode cX4_serve 112 = .ok (.goto 25, 3) := by decide +kernel
theorem dX4_serve_115 : decode cX4_serve 115 = .ok (.aload_n 0, 1) := by decide +kernel
theorem dX4_serve_116 : decode cX4_serve 116 = .ok (.getfield 17, 3) := by decide +kernel
theorem dX4_serve_119 : decode cX4_serve 119 = .ok (.iload 4, 2) := by decide +kernel
theorem dX4_serve_121 : decode cX4_serve 121 = .ok (.aaload, 1) := by decide +kernel
theorem dX4_serve_122 : decode cX4_serve 122 = .ok (.aload_n 0, 1) := by decide +kernel
theorem dX4_serve_123 : decode cX4_serve 123 = .ok (.getfield 20, 3) := by decide +kernel
theorem dX4_serve_126 : decode cX4_serve 126 = .ok (.iload 4, 2) := by decide +kernel
theorem dX4_serve_128 : decode cX4_serve 128 = .ok (.iaload, 1) := by decide +kernel
theorem dX4_serve_129 : decode cX4_serve 129 = .ok (.dup2, 1) := by decide +kernel
theorem dX4_serve_130 : decode cX4_serve 130 = .ok (.iaload, 1) := by decide +kernel
theorem dX4_serve_131 : decode cX4_serve 131 = .ok (.iconst 1, 1) := by decide +kernel
theorem dX4_serve_132 : decode cX4_serve 132 = .ok (.isub, 1) := by decide +kernel
theorem dX4_serve_133 : decode cX4_serve 133 = .ok (.iastore, 1) := by decide +kernel
theorem dX4_serve_134 : decode cX4_serve 134 = .ok (.iinc 3 1, 3) := by decide +kernel
theorem dX4_serve_137 : decode cX4_serve 137 = .ok (.iinc 4 1, 3) := by decide +kernel
theorem dX4_serve_140 : decode cX4_serve 140 = .ok (.goto (-49), 3) := by decide +kernel
theorem dX4_serve_143 : decode cX4_serve 143 = .ok (.iload_n 3, 1) := by decide +kernel
theorem dX4_serve_144 : decode cX4_serve 144 = .ok (.ireturn, 1) := by decide +kernel
theorem dX4_inAll_0 : decode cX4_inAll 0 = .ok (.iconst 0, 1) := by decide +kernel
theorem dX4_inAll_1 : decode cX4_inAll 1 = .ok (.istore_n 1, 1) := by decide +kernel
theorem dX4_inAll_2 : decode cX4_inAll 2 = .ok (.iconst 0, 1) := by decide +kernel
theorem dX4_inAll_3 : decode cX4_inAll 3 = .ok (.istore_n 2, 1) := by decide +kernel
theorem dX4_inAll_4 : decode cX4_inAll 4 = .ok (.iload_n 2, 1) := by decide +kernel
theorem dX4_inAll_5 : decode cX4_inAll 5 = .ok (.aload_n 0, 1) := by decide +kernel
theorem dX4_inAll_6 : decode cX4_inAll 6 = .ok (.getfield 9, 3) := by decide +kernel
theorem dX4_inAll_9 : decode cX4_inAll 9 = .ok (.if_icmp .ge 36, 3) := by decide +kernel
theorem dX4_inAll_12 : decode cX4_inAll 12 = .ok (.iconst 0, 1) := by decide +kernel
theorem dX4_inAll_13 : decode cX4_inAll 13 = .ok (.istore_n 3, 1) := by decide +kernel
theorem dX4_inAll_14 : decode cX4_inAll 14 = .ok (.iload_n 3, 1) := by decide +kernel
theorem dX4_inAll_15 : decode cX4_inAll 15 = .ok (.aload_n 0, 1) := by decide +kernel
theorem dX4_inAll_16 : decode cX4_inAll 16 = .ok (.getfield 9, 3) := by decide +kernel
theorem dX4_inAll_19 : decode cX4_inAll 19 = .ok (.if_icmp .ge 20, 3) := by decide +kernel
theorem dX4_inAll_22 : decode cX4_inAll 22 = .ok (.iload_n 1, 1) := by decide +kernel
theorem dX4_inAll_23 : decode cX4_inAll 23 = .ok (.aload_n 0, 1) := by decide +kernel
theorem dX4_inAll_24 : decode cX4_inAll 24 = .ok (.getfield 17, 3) := by decide +kernel
theorem dX4_inAll_27 : decode cX4_inAll 27 = .ok (.iload_n 2, 1) := by decide +kernel
theorem dX4_inAll_28 : decode cX4_inAll 28 = .ok (.aaload, 1) := by decide +kernel
theorem dX4_inAll_29 : decode cX4_inAll 29 = .ok (.iload_n 3, 1) := by decide +kernel
theorem dX4_inAll_30 : decode cX4_inAll 30 = .ok (.iaload, 1) := by decide +kernel
theorem dX4_inAll_31 : decode cX4_inAll 31 = .ok (.iadd, 1) := by decide +kernel
theorem dX4_inAll_32 : decode cX4_inAll 32 = .ok (.istore_n 1, 1) := by decide +kernel
theorem dX4_inAll_33 : decode cX4_inAll 33 = .ok (.iinc 3 1, 3) := by decide +kernel
theorem dX4_inAll_36 : decode cX4_inAll 36 = .ok (.goto (-22), 3) := by decide +kernel
theorem dX4_inAll_39 : decode cX4_inAll 39 = .ok (.iinc 2 1, 3) := by decide +kernel
theorem dX4_inAll_42 : decode cX4_inAll 42 = .ok (.goto (-38), 3) := by decide +kernel
theorem dX4_inAll_45 : decode cX4_inAll 45 = .ok (.iload_n 1, 1) := by decide +kernel
theorem dX4_inAll_46 : decode cX4_inAll 46 = .ok (.ireturn, 1) := by decide +kernel
theorem dX4_matchNone_0 : decode cX4_matchNone 0 = .ok (.aload_n 0, 1) := by decide +kernel
theorem dX4_matchNone_1 : decode cX4_matchNone 1 = .ok (.getfield 20, 3) := by decide +kernel
theorem dX4_matchNone_4 : decode cX4_matchNone 4 = .ok (.bipush (-9), 2) := by decide +kernel
theorem dX4_matchNone_6 : decode cX4_matchNone 6 = .ok (.invokestatic 42, 3) := by decide +kernel
theorem dX4_matchNone_9 : decode cX4_matchNone 9 = .ok (.aload_n 0, 1) := by decide +kernel
theorem dX4_matchNone_10 : decode cX4_matchNone 10 = .ok (.getfield 24, 3) := by decide +kernel
theorem dX4_matchNone_13 : decode cX4_matchNone 13 = .ok (.bipush (-9), 2) := by decide +kernel
theorem dX4_matchNone_15 : decode cX4_matchNone 15 = .ok (.invokestatic 42, 3) := by decide +kernel
theorem dX4_matchNone_18 : decode cX4_matchNone 18 = .ok (.return_, 1) := by decide +kernel
theorem dX4_match_0 : decode cX4_match 0 = .ok (.aload_n 0, 1) := by decide +kernel
theorem dX4_match_1 : decode cX4_match 1 = .ok (.getfield 20, 3) := by decide +kernel
theorem dX4_match_4 : decode cX4_match 4 = .ok (.iload_n 1, 1) := by decide +kernel
theorem dX4_match_5 : decode cX4_match 5 = .ok (.iload_n 2, 1) := by decide +kernel
theorem dX4_match_6 : decode cX4_match 6 = .ok (.iastore, 1) := by decide +kernel
theorem dX4_match_7 : decode cX4_match 7 = .ok (.aload_n 0, 1) := by decide +kernel
theorem dX4_match_8 : decode cX4_match 8 = .ok (.getfield 24, 3) := by decide +kernel
theorem dX4_match_11 : decode cX4_match 11 = .ok (.iload_n 2, 1) := by decide +kernel
theorem dX4_match_12 : decode cX4_match 12 = .ok (.iload_n 1, 1) := by decide +kernel
theorem dX4_match_13 : decode cX4_match 13 = .ok (.iastore, 1) := by decide +kernel
theorem dX4_match_14 : decode cX4_match 14 = .ok (.return_, 1) := by decide +kernel
theorem dX4_canMatch_0 : decode cX4_canMatch 0 = .ok (.aload_n 0, 1) := by decide +kernel
theorem dX4_canMatch_1 : decode cX4_canMatch 1 = .ok (.getfield 20, 3) := by decide +kernel
theorem dX4_canMatch_4 : decode cX4_canMatch 4 = .ok (.iload_n 1, 1) := by decide +kernel
theorem dX4_canMatch_5 : decode cX4_canMatch 5 = .ok (.iaload, 1) := by decide +kernel
theorem dX4_canMatch_6 : decode cX4_canMatch 6 = .ok (.bipush (-9), 2) := by decide +kernel
theorem dX4_canMatch_8 : decode cX4_canMatch 8 = .ok (.if_icmp .ne 29, 3) := by decide +kernel
theorem dX4_canMatch_11 : decode cX4_canMatch 11 = .ok (.aload_n 0, 1) := by decide +kernel
theorem dX4_canMatch_12 : decode cX4_canMatch 12 = .ok (.getfield 24, 3) := by decide +kernel
theorem dX4_canMatch_15 : decode cX4_canMatch 15 = .ok (.iload_n 2, 1) := by decide +kernel
theorem dX4_canMatch_16 : decode cX4_canMatch 16 = .ok (.iaload, 1) := by decide +kernel
theorem dX4_canMatch_17 : decode cX4_canMatch 17 = .ok (.bipush (-9), 2) := by decide +kernel
theorem dX4_canMatch_19 : decode cX4_canMatch 19 = .ok (.if_icmp .ne 18, 3) := by decide +kernel
theorem dX4_canMatch_22 : decode cX4_canMatch 22 = .ok (.aload_n 0, 1) := by decide +kernel
theorem dX4_canMatch_23 : decode cX4_canMatch 23 = .ok (.getfield 17, 3) := by decide +kernel
theorem dX4_canMatch_26 : decode cX4_canMatch 26 = .ok (.iload_n 1, 1) := by decide +kernel
theorem dX4_canMatch_27 : decode cX4_canMatch 27 = .ok (.aaload, 1) := by decide +kernel
theorem dX4_canMatch_28 : decode cX4_canMatch 28 = .ok (.iload_n 2, 1) := by decide +kernel
theorem dX4_canMatch_29 : decode cX4_canMatch 29 = .ok (.iaload, 1) := by decide +kernel
theorem dX4_canMatch_30 : decode cX4_canMatch 30 = .ok (.ifCond .le 7, 3) := by decide +kernel
theorem dX4_canMatch_33 : decode cX4_canMatch 33 = .ok (.iconst 1, 1) := by decide +kernel
theorem dX4_canMatch_34 : decode cX4_canMatch 34 = .ok (.goto 4, 3) := by decide +kernel
theorem dX4_canMatch_37 : decode cX4_canMatch 37 = .ok (.iconst 0, 1) := by decide +kernel
theorem dX4_canMatch_38 : decode cX4_canMatch 38 = .ok (.ireturn, 1) := by decide +kernel
theorem dX4_matchBySum_0 : decode cX4_matchBySum 0 = .ok (.aload_n 0, 1) := by decide +kernel
theorem dX4_matchBySum_1 : decode cX4_matchBySum 1 = .ok (.invokevirtual 61, 3) := by decide +kernel
theorem dX4_matchBySum_4 : decode cX4_matchBySum 4 = .ok (.iconst 0, 1) := by decide +kernel
theorem dX4_matchBySum_5 : decode cX4_matchBySum 5 = .ok (.istore_n 1, 1) := by decide +kernel
theorem dX4_matchBySum_6 : decode cX4_matchBySum 6 = .ok (.iconst 0, 1) := by decide +kernel
theorem dX4_matchBySum_7 : decode cX4_matchBySum 7 = .ok (.istore_n 2, 1) := by decide +kernel
theorem dX4_matchBySum_8 : decode cX4_matchBySum 8 = .ok (.iload_n 2, 1) := by decide +kernel
theorem dX4_matchBySum_9 : decode cX4_matchBySum 9 = .ok (.aload_n 0, 1) := by decide +kernel
theorem dX4_matchBySum_10 : decode cX4_matchBySum 10 = .ok (.getfield 9, 3) := by decide +kernel
end
section
theorem dX4_matchBySum_13 : decode cX4_matchBySum 13 = .ok (.if_icmp .ge 91, 3) := by decide +kernel
theorem dX4_matchBySum_16 : decode cX4_matchBySum 16 = .ok (.iconst 0, 1) := by decide +kernel
theorem dX4_matchBySum_17 : decode cX4_matchBySum 17 = .ok (.istore_n 3, 1) := by decide +kernel
theorem dX4_matchBySum_18 : decode cX4_matchBySum 18 = .ok (.iload_n 3, 1) := by decide +kernel
theorem dX4_matchBySum_19 : decode cX4_matchBySum 19 = .ok (.aload_n 0, 1) := by decide +kernel
theorem dX4_matchBySum_20 : decode cX4_matchBySum 20 = .ok (.getfield 9, 3) := by decide +kernel
theorem dX4_matchBySum_23 : decode cX4_matchBySum 23 = .ok (.if_icmp .ge 53, 3) := by decide +kernel
theorem dX4_matchBySum_26 : decode cX4_matchBySum 26 = .ok (.aload_n 0, 1) := by decide +kernel
theorem dX4_matchBySum_27 : decode cX4_matchBySum 27 = .ok (.getfield 20, 3) := by decide +kernel
theorem dX4_matchBySum_30 : decode cX4_matchBySum 30 = .ok (.iload_n 2, 1) := by decide +kernel
theorem dX4_matchBySum_31 : decode cX4_matchBySum 31 = .ok (.iaload, 1) := by decide +kernel
theorem dX4_matchBySum_32 : decode cX4_matchBySum 32 = .ok (.bipush (-9), 2) := by decide +kernel
theorem dX4_matchBySum_34 : decode cX4_matchBySum 34 = .ok (.if_icmp .ne 42, 3) := by decide +kernel
theorem dX4_matchBySum_37 : decode cX4_matchBySum 37 = .ok (.aload_n 0, 1) := by decide +kernel
theorem dX4_matchBySum_38 : decode cX4_matchBySum 38 = .ok (.iload_n 2, 1) := by decide +kernel
theorem dX4_matchBySum_39 : decode cX4_matchBySum 39 = .ok (.iload_n 3, 1) := by decide +kernel
theorem dX4_matchBySum_40 : decode cX4_matchBySum 40 = .ok (.invokevirtual 64, 3) := by decide +kernel
theorem dX4_matchBySum_43 : decode cX4_matchBySum 43 = .ok (.ifCond .eq 27, 3) := by decide +kernel
theorem dX4_matchBySum_46 : decode cX4_matchBySum 46 = .ok (.aload_n 0, 1) := by decide +kernel
theorem dX4_matchBySum_47 : decode cX4_matchBySum 47 = .ok (.iload_n 2, 1) := by decide +kernel
theorem dX4_matchBySum_48 : decode cX4_matchBySum 48 = .ok (.iload_n 3, 1) := by decide +kernel
theorem dX4_matchBySum_49 : decode cX4_matchBySum 49 = .ok (.iload_n 1, 1) := by decide +kernel
theorem dX4_matchBySum_50 : decode cX4_matchBySum 50 = .ok (.invokevirtual 68, 3) := by decide +kernel
theorem dX4_matchBySum_53 : decode cX4_matchBySum 53 = .ok (.aload_n 0, 1) := by decide +kernel
theorem dX4_matchBySum_54 : decode cX4_matchBySum 54 = .ok (.getfield 36, 3) := by decide +kernel
theorem dX4_matchBySum_57 : decode cX4_matchBySum 57 = .ok (.iload_n 2, 1) := by decide +kernel
theorem dX4_matchBySum_58 : decode cX4_matchBySum 58 = .ok (.aaload, 1) := by decide +kernel
theorem dX4_matchBySum_59 : decode cX4_matchBySum 59 = .ok (.iload_n 1, 1) := by decide +kernel
theorem dX4_matchBySum_60 : decode cX4_matchBySum 60 = .ok (.iaload, 1) := by decide +kernel
theorem dX4_matchBySum_61 : decode cX4_matchBySum 61 = .ok (.if_icmp .ne 9, 3) := by decide +kernel
theorem dX4_matchBySum_64 : decode cX4_matchBySum 64 = .ok (.aload_n 0, 1) := by decide +kernel
theorem dX4_matchBySum_65 : decode cX4_matchBySum 65 = .ok (.iload_n 2, 1) := by decide +kernel
theorem dX4_matchBySum_66 : decode cX4_matchBySum 66 = .ok (.iload_n 3, 1) := by decide +kernel
theorem dX4_matchBySum_67 : decode cX4_matchBySum 67 = .ok (.invokevirtual 72, 3) := by decide +kernel
theorem dX4_matchBySum_70 : decode cX4_matchBySum 70 = .ok (.iinc 3 1, 3) := by decide +kernel
theorem dX4_matchBySum_73 : decode cX4_matchBySum 73 = .ok (.goto (-55), 3) := by decide +kernel
theorem dX4_matchBySum_76 : decode cX4_matchBySum 76 = .ok (.aload_n 0, 1) := by decide +kernel
theorem dX4_matchBySum_77 : decode cX4_matchBySum 77 = .ok (.getfield 20, 3) := by decide +kernel
theorem dX4_matchBySum_80 : decode cX4_matchBySum 80 = .ok (.iload_n 2, 1) := by decide +kernel
theorem dX4_matchBySum_81 : decode cX4_matchBySum 81 = .ok (.iaload, 1) := by decide +kernel
theorem dX4_matchBySum_82 : decode cX4_matchBySum 82 = .ok (.bipush (-9), 2) := by decide +kernel
theorem dX4_matchBySum_84 : decode cX4_matchBySum 84 = .ok (.if_icmp .eq 14, 3) := by decide +kernel
theorem dX4_matchBySum_87 : decode cX4_matchBySum 87 = .ok (.iload_n 1, 1) := by decide +kernel
theorem dX4_matchBySum_88 : decode cX4_matchBySum 88 = .ok (.iconst 1, 1) := by decide +kernel
theorem dX4_matchBySum_89 : decode cX4_matchBySum 89 = .ok (.aload_n 0, 1) := by decide +kernel
theorem dX4_matchBySum_90 : decode cX4_matchBySum 90 = .ok (.getfield 20, 3) := by decide +kernel
theorem dX4_matchBySum_93 : decode cX4_matchBySum 93 = .ok (.iload_n 2, 1) := by decide +kernel
theorem dX4_matchBySum_94 : decode cX4_matchBySum 94 = .ok (.iaload, 1) := by decide +kernel
theorem dX4_matchBySum_95 : decode cX4_matchBySum 95 = .ok (.ishl, 1) := by decide +kernel
theorem dX4_matchBySum_96 : decode cX4_matchBySum 96 = .ok (.ior, 1) := by decide +kernel
theorem dX4_matchBySum_97 : decode cX4_matchBySum 97 = .ok (.istore_n 1, 1) := by decide +kernel
theorem dX4_matchBySum_98 : decode cX4_matchBySum 98 = .ok (.iinc 2 1, 3) := by decide +kernel
theorem dX4_matchBySum_101 : decode cX4_matchBySum 101 = .ok (.goto (-93), 3) := by decide +kernel
theorem dX4_matchBySum_104 : decode cX4_matchBySum 104 = .ok (.return_, 1) := by decide +kernel
theorem dX4_findBestSums_0 : decode cX4_findBestSums 0 = .ok (.aload_n 0, 1) := by decide +kernel
theorem dX4_findBestSums_1 : decode cX4_findBestSums 1 = .ok (.getfield 36, 3) := by decide +kernel
theorem dX4_findBestSums_4 : decode cX4_findBestSums 4 = .ok (.aload_n 0, 1) := by decide +kernel
theorem dX4_findBestSums_5 : decode cX4_findBestSums 5 = .ok (.getfield 9, 3) := by decide +kernel
theorem dX4_findBestSums_8 : decode cX4_findBestSums 8 = .ok (.aaload, 1) := by decide +kernel
theorem dX4_findBestSums_9 : decode cX4_findBestSums 9 = .ok (.iconst 0, 1) := by decide +kernel
theorem dX4_findBestSums_10 : decode cX4_findBestSums 10 = .ok (.invokestatic 42, 3) := by decide +kernel
theorem dX4_findBestSums_13 : decode cX4_findBestSums 13 = .ok (.aload_n 0, 1) := by decide +kernel
theorem dX4_findBestSums_14 : decode cX4_findBestSums 14 = .ok (.getfield 9, 3) := by decide +kernel
theorem dX4_findBestSums_17 : decode cX4_findBestSums 17 = .ok (.iconst 1, 1) := by decide +kernel
theorem dX4_findBestSums_18 : decode cX4_findBestSums 18 = .ok (.isub, 1) := by decide +kernel
theorem dX4_findBestSums_19 : decode cX4_findBestSums 19 = .ok (.istore_n 1, 1) := by decide +kernel
theorem dX4_findBestSums_20 : decode cX4_findBestSums 20 = .ok (.iload_n 1, 1) := by decide +kernel
theorem dX4_findBestSums_21 : decode cX4_findBestSums 21 = .ok (.ifCond .lt 99, 3) := by decide +kernel
theorem dX4_findBestSums_24 : decode cX4_findBestSums 24 = .ok (.iconst 0, 1) := by decide +kernel
theorem dX4_findBestSums_25 : decode cX4_findBestSums 25 = .ok (.istore_n 2, 1) := by decide +kernel
theorem dX4_findBestSums_26 : decode cX4_findBestSums 26 = .ok (.iload_n 2, 1) := by decide +kernel
theorem dX4_findBestSums_27 : decode cX4_findBestSums 27 = .ok (.iconst 1, 1) := by decide +kernel
theorem dX4_findBestSums_28 : decode cX4_findBestSums 28 = .ok (.aload_n 0, 1) := by decide +kernel
theorem dX4_findBestSums_29 : decode cX4_findBestSums 29 = .ok (.getfield 9, 3) := by decide +kernel
theorem dX4_findBestSums_32 : decode cX4_findBestSums 32 = .ok (.ishl, 1) := by decide +kernel
theorem dX4_findBestSums_33 : decode cX4_findBestSums 33 = .ok (.if_icmp .ge 81, 3) := by decide +kernel
theorem dX4_findBestSums_36 : decode cX4_findBestSums 36 = .ok (.aload_n 0, 1) := by decide +kernel
theorem dX4_findBestSums_37 : decode cX4_findBestSums 37 = .ok (.getfield 36, 3) := by decide +kernel
theorem dX4_findBestSums_40 : decode cX4_findBestSums 40 = .ok (.iload_n 1, 1) := by decide +kernel
theorem dX4_findBestSums_41 : decode cX4_findBestSums 41 = .ok (.iconst 1, 1) := by decide +kernel
theorem dX4_findBestSums_42 : decode cX4_findBestSums 42 = .ok (.iadd, 1) := by decide +kernel
theorem dX4_findBestSums_43 : decode cX4_findBestSums 43 = .ok (.aaload, 1) := by decide +kernel
theorem dX4_findBestSums_44 : decode cX4_findBestSums 44 = .ok (.iload_n 2, 1) := by decide +kernel
theorem dX4_findBestSums_45 : decode cX4_findBestSums 45 = .ok (.iaload, 1) := by decide +kernel
theorem dX4_findBestSums_46 : decode cX4_findBestSums 46 = .ok (.istore_n 3, 1) := by decide +kernel
theorem dX4_findBestSums_47 : decode cX4_findBestSums 47 = .ok (.iconst 0, 1) := by decide +kernel
theorem dX4_findBestSums_48 : decode cX4_findBestSums 48 = .ok (.istore 4, 2) := by decide +kernel
theorem dX4_findBestSums_50 : decode cX4_findBestSums 50 = .ok (.iload 4, 2) := by decide +kernel
theorem dX4_findBestSums_52 : decode cX4_findBestSums 52 = .ok (.aload_n 0, 1) := by decide +kernel
theorem dX4_findBestSums_53 : decode cX4_findBestSums 53 = .ok (.getfield 9, 3) := by decide +kernel
theorem dX4_findBestSums_56 : decode cX4_findBestSums 56 = .ok (.if_icmp .ge 43, 3) := by decide +kernel
theorem dX4_findBestSums_59 : decode cX4_findBestSums 59 = .ok (.iload_n 2, 1) := by decide +kernel
theorem dX4_findBestSums_60 : decode cX4_findBestSums 60 = .ok (.iload 4, 2) := by decide +kernel
theorem dX4_findBestSums_62 : decode cX4_findBestSums 62 = .ok (.ishr, 1) := by decide +kernel
theorem dX4_findBestSums_63 : decode cX4_findBestSums 63 = .ok (.iconst 1, 1) := by decide +kernel
theorem dX4_findBestSums_64 : decode cX4_findBestSums 64 = .ok (.iand, 1) := by decide +kernel
theorem dX4_findBestSums_65 : decode cX4_findBestSums 65 = .ok (.ifCond .ne 28, 3) := by decide +kernel
theorem dX4_findBestSums_68 : decode cX4_findBestSums 68 = .ok (.aload_n 0, 1) := by decide +kernel
theorem dX4_findBestSums_69 : decode cX4_findBestSums 69 = .ok (.getfield 17, 3) := by decide +kernel
theorem dX4_findBestSums_72 : decode cX4_findBestSums 72 = .ok (.iload_n 1, 1) := by decide +kernel
theorem dX4_findBestSums_73 : decode cX4_findBestSums 73 = .ok (.aaload, 1) := by decide +kernel
theorem dX4_findBestSums_74 : decode cX4_findBestSums 74 = .ok (.iload 4, 2) := by decide +kernel
theorem dX4_findBestSums_76 : decode cX4_findBestSums 76 = .ok (.iaload, 1) := by decide +kernel
theorem dX4_findBestSums_77 : decode cX4_findBestSums 77 = .ok (.ifCond .le 16, 3) := by decide +kernel
theorem dX4_findBestSums_80 : decode cX4_findBestSums 80 = .ok (.iload_n 3, 1) := by decide +kernel
theorem dX4_findBestSums_81 : decode cX4_findBestSums 81 = .ok (.aload_n 0, 1) := by decide +kernel
theorem dX4_findBestSums_82 : decode cX4_findBestSums 82 = .ok (.iload_n 1, 1) := by decide +kernel
theorem dX4_findBestSums_83 : decode cX4_findBestSums 83 = .ok (.iload 4, 2) := by decide +kernel
theorem dX4_findBestSums_85 : decode cX4_findBestSums 85 = .ok (.iload_n 2, 1) := by decide +kernel
theorem dX4_findBestSums_86 : decode cX4_findBestSums 86 = .ok (.invokevirtual 68, 3) := by decide +kernel
theorem dX4_findBestSums_89 : decode cX4_findBestSums 89 = .ok (.invokestatic 76, 3) := by decide +kernel
theorem dX4_findBestSums_92 : decode cX4_findBestSums 92 = .ok (.istore_n 3, 1) := by decide +kernel
theorem dX4_findBestSums_93 : decode cX4_findBestSums 93 = .ok (.iinc 4 1, 3) := by decide +kernel
theorem dX4_findBestSums_96 : decode cX4_findBestSums 96 = .ok (.goto (-46), 3) := by decide +kernel
theorem dX4_findBestSums_99 : decode cX4_findBestSums 99 = .ok (.aload_n 0, 1) := by decide +kernel
theorem dX4_findBestSums_100 : decode cX4_findBestSums 100 = .ok (.getfield 36, 3) := by decide +kernel
theorem dX4_findBestSums_103 : decode cX4_findBestSums 103 = .ok (.iload_n 1, 1) := by decide +kernel
theorem dX4_findBestSums_104 : decode cX4_findBestSums 104 = .ok (.aaload, 1) := by decide +kernel
theorem dX4_findBestSums_105 : decode cX4_findBestSums 105 = .ok (.iload_n 2, 1) := by decide +kernel
theorem dX4_findBestSums_106 : decode cX4_findBestSums 106 = .ok (.iload_n 3, 1) := by decide +kernel
theorem dX4_findBestSums_107 : decode cX4_findBestSums 107 = .ok (.iastore, 1) := by decide +kernel
theorem dX4_findBestSums_108 : decode cX4_findBestSums 108 = .ok (.iinc 2 1, 3) := by decide +kernel
theorem dX4_findBestSums_111 : decode cX4_findBestSums 111 = .ok (.goto (-85), 3) := by decide +kernel
theorem dX4_findBestSums_114 : decode cX4_findBestSums 114 = .ok (.iinc 1 (-1), 3) := by decide +kernel
theorem dX4_findBestSums_117 : decode cX4_findBestSums 117 = .ok (.goto (-97), 3) := by decide +kernel
theorem dX4_findBestSums_120 : decode cX4_findBestSums 120 = .ok (.return_, 1) := by decide +kernel
theorem dX4_sumWith_0 : decode cX4_sumWith 0 = .ok (.aload_n 0, 1) := by decide +kernel
theorem dX4_sumWith_1 : decode cX4_sumWith 1 = .ok (.getfield 17, 3) := by decide +kernel
theorem dX4_sumWith_4 : decode cX4_sumWith 4 = .ok (.iload_n 1, 1) := by decide +kernel
theorem dX4_sumWith_5 : decode cX4_sumWith 5 = .ok (.aaload, 1) := by decide +kernel
theorem dX4_sumWith_6 : decode cX4_sumWith 6 = .ok (.iload_n 2, 1) := by decide +kernel
theorem dX4_sumWith_7 : decode cX4_sumWith 7 = .ok (.iaload, 1) := by decide +kernel
theorem dX4_sumWith_8 : decode cX4_sumWith 8 = .ok (.aload_n 0, 1) := by decide +kernel
theorem dX4_sumWith_9 : decode cX4_sumWith 9 = .ok (.getfield 36, 3) := by decide +kernel
theorem dX4_sumWith_12 : decode cX4_sumWith 12 = .ok (.iload_n 1, 1) := by decide +kernel
theorem dX4_sumWith_13 : decode cX4_sumWith 13 = .ok (.iconst 1, 1) := by decide +kernel
theorem dX4_sumWith_14 : decode cX4_sumWith 14 = .ok (.iadd, 1) := by decide +kernel
theorem dX4_sumWith_15 : decode cX4_sumWith 15 = .ok (.aaload, 1) := by decide +kernel
theorem dX4_sumWith_16 : decode cX4_sumWith 16 = .ok (.iload_n 3, 1) := by decide +kernel
theorem dX4_sumWith_17 : decode cX4_sumWith 17 = .ok (.iconst 1, 1) := by decide +kernel
theorem dX4_sumWith_18 : decode cX4_sumWith 18 = .ok (.iload_n 2, 1) := by decide +kernel
theorem dX4_sumWith_19 : decode cX4_sumWith 19 = .ok (.ishl, 1) := by decide +kernel
theorem dX4_sumWith_20 : decode cX4_sumWith 20 = .ok (.ior, 1) := by decide +kernel
theorem dX4_sumWith_21 : decode cX4_sumWith 21 = .ok (.iaload, 1) := by decide +kernel
theorem dX4_sumWith_22 : decode cX4_sumWith 22 = .ok (.iadd, 1) := by decide +kernel
theorem dX4_sumWith_23 : decode cX4_sumWith 23 = .ok (.ireturn, 1) := by decide +kernel
theorem dX4_matchByTurns_0 : decode cX4_matchByTurns 0 = .ok (.iconst 0, 1) := by decide +kernel
theorem dX4_matchByTurns_1 : decode cX4_matchByTurns 1 = .ok (.istore_n 1, 1) := by decide +kernel
theorem dX4_matchByTurns_2 : decode cX4_matchByTurns 2 = .ok (.iload_n 1, 1) := by decide +kernel
theorem dX4_matchByTurns_3 : decode cX4_matchByTurns 3 = .ok (.iconst 3, 1) := by decide +kernel
theorem dX4_matchByTurns_4 : decode cX4_matchByTurns 4 = .ok (.if_icmp .ge 103, 3) := by decide +kernel
theorem dX4_matchByTurns_7 : decode cX4_matchByTurns 7 = .ok (.iconst 0, 1) := by decide +kernel
theorem dX4_matchByTurns_8 : decode cX4_matchByTurns 8 = .ok (.istore_n 2, 1) := by decide +kernel
theorem dX4_matchByTurns_9 : decode cX4_matchByTurns 9 = .ok (.iload_n 2, 1) := by decide +kernel
theorem dX4_matchByTurns_10 : decode cX4_matchByTurns 10 = .ok (.aload_n 0, 1) := by decide +kernel
theorem dX4_matchByTurns_11 : decode cX4_matchByTurns 11 = .ok (.getfield 9, 3) := by decide +kernel
theorem dX4_matchByTurns_14 : decode cX4_matchByTurns 14 = .ok (.if_icmp .ge 20, 3) := by decide +kernel
theorem dX4_matchByTurns_17 : decode cX4_matchByTurns 17 = .ok (.aload_n 0, 1) := by decide +kernel
theorem dX4_matchByTurns_18 : decode cX4_matchByTurns 18 = .ok (.getfield 33, 3) := by decide +kernel
theorem dX4_matchByTurns_21 : decode cX4_matchByTurns 21 = .ok (.iload_n 2, 1) := by decide +kernel
theorem dX4_matchByTurns_22 : decode cX4_matchByTurns 22 = .ok (.aload_n 0, 1) := by decide +kernel
theorem dX4_matchByTurns_23 : decode cX4_matchByTurns 23 = .ok (.iload_n 2, 1) := by decide +kernel
theorem dX4_matchByTurns_24 : decode cX4_matchByTurns 24 = .ok (.invokevirtual 82, 3) := by decide +kernel
theorem dX4_matchByTurns_27 : decode cX4_matchByTurns 27 = .ok (.iastore, 1) := by decide +kernel
theorem dX4_matchByTurns_28 : decode cX4_matchByTurns 28 = .ok (.iinc 2 1, 3) := by decide +kernel
theorem dX4_matchByTurns_31 : decode cX4_matchByTurns 31 = .ok (.goto (-22), 3) := by decide +kernel
theorem dX4_matchByTurns_34 : decode cX4_matchByTurns 34 = .ok (.iconst 0, 1) := by decide +kernel
theorem dX4_matchByTurns_35 : decode cX4_matchByTurns 35 = .ok (.istore_n 2, 1) := by decide +kernel
theorem dX4_matchByTurns_36 : decode cX4_matchByTurns 36 = .ok (.iload_n 2, 1) := by decide +kernel
theorem dX4_matchByTurns_37 : decode cX4_matchByTurns 37 = .ok (.aload_n 0, 1) := by decide +kernel
theorem dX4_matchByTurns_38 : decode cX4_matchByTurns 38 = .ok (.getfield 9, 3) := by decide +kernel
theorem dX4_matchByTurns_41 : decode cX4_matchByTurns 41 = .ok (.if_icmp .ge 60, 3) := by decide +kernel
theorem dX4_matchByTurns_44 : decode cX4_matchByTurns 44 = .ok (.aload_n 0, 1) := by decide +kernel
theorem dX4_matchByTurns_45 : decode cX4_matchByTurns 45 = .ok (.iload_n 2, 1) := by decide +kernel
theorem dX4_matchByTurns_46 : decode cX4_matchByTurns 46 = .ok (.invokevirtual 86, 3) := by decide +kernel
theorem dX4_matchByTurns_49 : decode cX4_matchByTurns 49 = .ok (.istore_n 3, 1) := by decide +kernel
theorem dX4_matchByTurns_50 : decode cX4_matchByTurns 50 = .ok (.iload_n 3, 1) := by decide +kernel
theorem dX4_matchByTurns_51 : decode cX4_matchByTurns 51 = .ok (.bipush (-9), 2) := by decide +kernel
theorem dX4_matchByTurns_53 : decode cX4_matchByTurns 53 = .ok (.if_icmp .ne 6, 3) := by decide +kernel
theorem dX4_matchByTurns_56 : decode cX4_matchByTurns 56 = .ok (.goto 39, 3) := by decide +kernel
theorem dX4_matchByTurns_59 : decode cX4_matchByTurns 59 = .ok (.aload_n 0, 1) := by decide +kernel
theorem dX4_matchByTurns_60 : decode cX4_matchByTurns 60 = .ok (.iload_n 2, 1) := by decide +kernel
theorem dX4_matchByTurns_61 : decode cX4_matchByTurns 61 = .ok (.iload_n 3, 1) := by decide +kernel
theorem dX4_matchByTurns_62 : decode cX4_matchByTurns 62 = .ok (.invokevirtual 72, 3) := by decide +kernel
theorem dX4_matchByTurns_65 : decode cX4_matchByTurns 65 = .ok (.iload_n 1, 1) := by decide +kernel
theorem dX4_matchByTurns_66 : decode cX4_matchByTurns 66 = .ok (.ifCond .ne 29, 3) := by decide +kernel
theorem dX4_matchByTurns_69 : decode cX4_matchByTurns 69 = .ok (.aload_n 0, 1) := by decide +kernel
theorem dX4_matchByTurns_70 : decode cX4_matchByTurns 70 = .ok (.getfield 27, 3) := by decide +kernel
theorem dX4_matchByTurns_73 : decode cX4_matchByTurns 73 = .ok (.iload_n 2, 1) := by decide +kernel
theorem dX4_matchByTurns_74 : decode cX4_matchByTurns 74 = .ok (.aload_n 0, 1) := by decide +kernel
theorem dX4_matchByTurns_75 : decode cX4_matchByTurns 75 = .ok (.iload_n 3, 1) := by decide +kernel
theorem dX4_matchByTurns_76 : decode cX4_matchByTurns 76 = .ok (.iconst 1, 1) := by decide +kernel
theorem dX4_matchByTurns_77 : decode cX4_matchByTurns 77 = .ok (.iadd, 1) := by decide +kernel
theorem dX4_matchByTurns_78 : decode cX4_matchByTurns 78 = .ok (.invokevirtual 89, 3) := by decide +kernel
theorem dX4_matchByTurns_81 : decode cX4_matchByTurns 81 = .ok (.iastore, 1) := by decide +kernel
theorem dX4_matchByTurns_82 : decode cX4_matchByTurns 82 = .ok (.aload_n 0, 1) := by decide +kernel
theorem dX4_matchByTurns_83 : decode cX4_matchByTurns 83 = .ok (.getfield 30, 3) := by decide +kernel
theorem dX4_matchByTurns_86 : decode cX4_matchByTurns 86 = .ok (.iload_n 3, 1) := by decide +kernel
theorem dX4_matchByTurns_87 : decode cX4_matchByTurns 87 = .ok (.aload_n 0, 1) := by decide +kernel
theorem dX4_matchByTurns_88 : decode cX4_matchByTurns 88 = .ok (.iload_n 2, 1) := by decide +kernel
theorem dX4_matchByTurns_89 : decode cX4_matchByTurns 89 = .ok (.iconst 1, 1) := by decide +kernel
theorem dX4_matchByTurns_90 : decode cX4_matchByTurns 90 = .ok (.iadd, 1) := by decide +kernel
theorem dX4_matchByTurns_91 : decode cX4_matchByTurns 91 = .ok (.invokevirtual 89, 3) := by decide +kernel
theorem dX4_matchByTurns_94 : decode cX4_matchByTurns 94 = .ok (.iastore, 1) := by decide +kernel
theorem dX4_matchByTurns_95 : decode cX4_matchByTurns 95 = .ok (.iinc 2 1, 3) := by decide +kernel
theorem dX4_matchByTurns_98 : decode cX4_matchByTurns 98 = .ok (.goto (-62), 3) := by decide +kernel
theorem dX4_matchByTurns_101 : decode cX4_matchByTurns 101 = .ok (.iinc 1 1, 3) := by decide +kernel
theorem dX4_matchByTurns_104 : decode cX4_matchByTurns 104 = .ok (.goto (-102), 3) := by decide +kernel
theorem dX4_matchByTurns_107 : decode cX4_matchByTurns 107 = .ok (.return_, 1) := by decide +kernel
theorem dX4_firstThatAsks_0 : decode cX4_firstThatAsks 0 = .ok (.iconst 0, 1) := by decide +kernel
theorem dX4_firstThatAsks_1 : decode cX4_firstThatAsks 1 = .ok (.istore_n 2, 1) := by decide +kernel
theorem dX4_firstThatAsks_2 : decode cX4_firstThatAsks 2 = .ok (.iload_n 2, 1) := by decide +kernel
theorem dX4_firstThatAsks_3 : decode cX4_firstThatAsks 3 = .ok (.aload_n 0, 1) := by decide +kernel
theorem dX4_firstThatAsks_4 : decode cX4_firstThatAsks 4 = .ok (.getfield 9, 3) := by decide +kernel
theorem dX4_firstThatAsks_7 : decode cX4_firstThatAsks 7 = .ok (.if_icmp .ge 33, 3) := by decide +kernel
theorem dX4_firstThatAsks_10 : decode cX4_firstThatAsks 10 = .ok (.aload_n 0, 1) := by decide +kernel
theorem dX4_firstThatAsks_11 : decode cX4_firstThatAsks 11 = .ok (.aload_n 0, 1) := by decide +kernel
theorem dX4_firstThatAsks_12 : decode cX4_firstThatAsks 12 = .ok (.getfield 30, 3) := by decide +kernel
theorem dX4_firstThatAsks_15 : decode cX4_firstThatAsks 15 = .ok (.iload_n 1, 1) := by decide +kernel
theorem dX4_firstThatAsks_16 : decode cX4_firstThatAsks 16 = .ok (.iaload, 1) := by decide +kernel
theorem dX4_firstThatAsks_17 : decode cX4_firstThatAsks 17 = .ok (.iload_n 2, 1) := by decide +kernel
theorem dX4_firstThatAsks_18 : decode cX4_firstThatAsks 18 = .ok (.iadd, 1) := by decide +kernel
theorem dX4_firstThatAsks_19 : decode cX4_firstThatAsks 19 = .ok (.invokevirtual 89, 3) := by decide +kernel
theorem dX4_firstThatAsks_22 : decode cX4_firstThatAsks 22 = .ok (.istore_n 3, 1) := by decide +kernel
theorem dX4_firstThatAsks_23 : decode cX4_firstThatAsks 23 = .ok (.aload_n 0, 1) := by decide +kernel
theorem dX4_firstThatAsks_24 : decode cX4_firstThatAsks 24 = .ok (.iload_n 3, 1) := by decide +kernel
theorem dX4_firstThatAsks_25 : decode cX4_firstThatAsks 25 = .ok (.iload_n 1, 1) := by decide +kernel
theorem dX4_firstThatAsks_26 : decode cX4_firstThatAsks 26 = .ok (.invokevirtual 64, 3) := by decide +kernel
theorem dX4_firstThatAsks_29 : decode cX4_firstThatAsks 29 = .ok (.ifCond .eq 5, 3) := by decide +kernel
theorem dX4_firstThatAsks_32 : decode cX4_firstThatAsks 32 = .ok (.iload_n 3, 1) := by decide +kernel
theorem dX4_firstThatAsks_33 : decode cX4_firstThatAsks 33 = .ok (.ireturn, 1) := by decide +kernel
theorem dX4_firstThatAsks_34 : decode cX4_firstThatAsks 34 = .ok (.iinc 2 1, 3) := by decide +kernel
theorem dX4_firstThatAsks_37 : decode cX4_firstThatAsks 37 = .ok (.goto (-35), 3) := by decide +kernel
theorem dX4_firstThatAsks_40 : decode cX4_firstThatAsks 40 = .ok (.bipush (-9), 2) := by decide +kernel
theorem dX4_firstThatAsks_42 : decode cX4_firstThatAsks 42 = .ok (.ireturn, 1) := by decide +kernel
theorem dX4_firstThatTook_0 : decode cX4_firstThatTook 0 = .ok (.iconst 0, 1) := by decide +kernel
theorem dX4_firstThatTook_1 : decode cX4_firstThatTook 1 = .ok (.istore_n 2, 1) := by decide +kernel
theorem dX4_firstThatTook_2 : decode cX4_firstThatTook 2 = .ok (.iload_n 2, 1) := by decide +kernel
theorem dX4_firstThatTook_3 : decode cX4_firstThatTook 3 = .ok (.aload_n 0, 1) := by decide +kernel
theorem dX4_firstThatTook_4 : decode cX4_firstThatTook 4 = .ok (.getfield 9, 3) := by decide +kernel
theorem dX4_firstThatTook_7 : decode cX4_firstThatTook 7 = .ok (.if_icmp .ge 34, 3) := by decide +kernel
theorem dX4_firstThatTook_10 : decode cX4_firstThatTook 10 = .ok (.aload_n 0, 1) := by decide +kernel
theorem dX4_firstThatTook_11 : decode cX4_firstThatTook 11 = .ok (.aload_n 0, 1) := by decide +kernel
theorem dX4_firstThatTook_12 : decode cX4_firstThatTook 12 = .ok (.getfield 27, 3) := by decide +kernel
theorem dX4_firstThatTook_15 : decode cX4_firstThatTook 15 = .ok (.iload_n 1, 1) := by decide +kernel
theorem dX4_firstThatTook_16 : decode cX4_firstThatTook 16 = .ok (.iaload, 1) := by decide +kernel
theorem dX4_firstThatTook_17 : decode cX4_firstThatTook 17 = .ok (.iload_n 2, 1) := by decide +kernel
theorem dX4_firstThatTook_18 : decode cX4_firstThatTook 18 = .ok (.iadd, 1) := by decide +kernel
theorem dX4_firstThatTook_19 : decode cX4_firstThatTook 19 = .ok (.invokevirtual 89, 3) := by decide +kernel
theorem dX4_firstThatTook_22 : decode cX4_firstThatTook 22 = .ok (.istore_n 3, 1) := by decide +kernel
theorem dX4_firstThatTook_23 : decode cX4_firstThatTook 23 = .ok (.aload_n 0, 1) := by decide +kernel
theorem dX4_firstThatTook_24 : decode cX4_firstThatTook 24 = .ok (.getfield 33, 3) := by decide +kernel
theorem dX4_firstThatTook_27 : decode cX4_firstThatTook 27 = .ok (.iload_n 3, 1) := by decide +kernel
theorem dX4_firstThatTook_28 : decode cX4_firstThatTook 28 = .ok (.iaload, 1) := by decide +kernel
theorem dX4_firstThatTook_29 : decode cX4_firstThatTook 29 = .ok (.iload_n 1, 1) := by decide +kernel
theorem dX4_firstThatTook_30 : decode cX4_firstThatTook 30 = .ok (.if_icmp .ne 5, 3) := by decide +kernel
theorem dX4_firstThatTook_33 : decode cX4_firstThatTook 33 = .ok (.iload_n 3, 1) := by decide +kernel
theorem dX4_firstThatTook_34 : decode cX4_firstThatTook 34 = .ok (.ireturn, 1) := by decide +kernel
theorem dX4_firstThatTook_35 : decode cX4_firstThatTook 35 = .ok (.iinc 2 1, 3) := by decide +kernel
theorem dX4_firstThatTook_38 : decode cX4_firstThatTook 38 = .ok (.goto (-36), 3) := by decide +kernel
theorem dX4_firstThatTook_41 : decode cX4_firstThatTook 41 = .ok (.bipush (-9), 2) := by decide +kernel
theorem dX4_firstThatTook_43 : decode cX4_firstThatTook 43 = .ok (.ireturn, 1) := by decide +kernel
theorem dX4_matchCrosswise_0 : decode cX4_matchCrosswise 0 = .ok (.iconst 0, 1) := by decide +kernel
theorem dX4_matchCrosswise_1 : decode cX4_matchCrosswise 1 = .ok (.istore_n 1, 1) := by decide +kernel
theorem dX4_matchCrosswise_2 : decode cX4_matchCrosswise 2 = .ok (.iload_n 1, 1) := by decide +kernel
theorem dX4_matchCrosswise_3 : decode cX4_matchCrosswise 3 = .ok (.aload_n 0, 1) := by decide +kernel
theorem dX4_matchCrosswise_4 : decode cX4_matchCrosswise 4 = .ok (.getfield 9, 3) := by decide +kernel
theorem dX4_matchCrosswise_7 : decode cX4_matchCrosswise 7 = .ok (.if_icmp .ge 48, 3) := by decide +kernel
theorem dX4_matchCrosswise_10 : decode cX4_matchCrosswise 10 = .ok (.iconst 0, 1) := by decide +kernel
theorem dX4_matchCrosswise_11 : decode cX4_matchCrosswise 11 = .ok (.istore_n 2, 1) := by decide +kernel
theorem dX4_matchCrosswise_12 : decode cX4_matchCrosswise 12 = .ok (.iload_n 2, 1) := by decide +kernel
theorem dX4_matchCrosswise_13 : decode cX4_matchCrosswise 13 = .ok (.aload_n 0, 1) := by decide +kernel
theorem dX4_matchCrosswise_14 : decode cX4_matchCrosswise 14 = .ok (.getfield 9, 3) := by decide +kernel
theorem dX4_matchCrosswise_17 : decode cX4_matchCrosswise 17 = .ok (.if_icmp .ge 32, 3) := by decide +kernel
theorem dX4_matchCrosswise_20 : decode cX4_matchCrosswise 20 = .ok (.aload_n 0, 1) := by decide +kernel
theorem dX4_matchCrosswise_21 : decode cX4_matchCrosswise 21 = .ok (.iload_n 2, 1) := by decide +kernel
theorem dX4_matchCrosswise_22 : decode cX4_matchCrosswise 22 = .ok (.iload_n 1, 1) := by decide +kernel
theorem dX4_matchCrosswise_23 : decode cX4_matchCrosswise 23 = .ok (.iadd, 1) := by decide +kernel
theorem dX4_matchCrosswise_24 : decode cX4_matchCrosswise 24 = .ok (.invokevirtual 89, 3) := by decide +kernel
theorem dX4_matchCrosswise_27 : decode cX4_matchCrosswise 27 = .ok (.istore_n 3, 1) := by decide +kernel
theorem dX4_matchCrosswise_28 : decode cX4_matchCrosswise 28 = .ok (.aload_n 0, 1) := by decide +kernel
theorem dX4_matchCrosswise_29 : decode cX4_matchCrosswise 29 = .ok (.iload_n 2, 1) := by decide +kernel
theorem dX4_matchCrosswise_30 : decode cX4_matchCrosswise 30 = .ok (.iload_n 3, 1) := by decide +kernel
theorem dX4_matchCrosswise_31 : decode cX4_matchCrosswise 31 = .ok (.invokevirtual 64, 3) := by decide +kernel
theorem dX4_matchCrosswise_34 : decode cX4_matchCrosswise 34 = .ok (.ifCond .eq 9, 3) := by decide +kernel
theorem dX4_matchCrosswise_37 : decode cX4_matchCrosswise 37 = .ok (.aload_n 0, 1) := by decide +kernel
theorem dX4_matchCrosswise_38 : decode cX4_matchCrosswise 38 = .ok (.iload_n 2, 1) := by decide +kernel
theorem dX4_matchCrosswise_39 : decode cX4_matchCrosswise 39 = .ok (.iload_n 3, 1) := by decide +kernel
theorem dX4_matchCrosswise_40 : decode cX4_matchCrosswise 40 = .ok (.invokevirtual 72, 3) := by decide +kernel
theorem dX4_matchCrosswise_43 : decode cX4_matchCrosswise 43 = .ok (.iinc 2 1, 3) := by decide +kernel
theorem dX4_matchCrosswise_46 : decode cX4_matchCrosswise 46 = .ok (.goto (-34), 3) := by decide +kernel
theorem dX4_matchCrosswise_49 : decode cX4_matchCrosswise 49 = .ok (.iinc 1 1, 3) := by decide +kernel
theorem dX4_matchCrosswise_52 : decode cX4_matchCrosswise 52 = .ok (.goto (-50), 3) := by decide +kernel
theorem dX4_matchCrosswise_55 : decode cX4_matchCrosswise 55 = .ok (.return_, 1) := by decide +kernel
theorem dX4_aroundPorts_0 : decode cX4_aroundPorts 0 = .ok (.iload_n 1, 1) := by decide +kernel
theorem dX4_aroundPorts_1 : decode cX4_aroundPorts 1 = .ok (.aload_n 0, 1) := by decide +kernel
theorem dX4_aroundPorts_2 : decode cX4_aroundPorts 2 = .ok (.getfield 9, 3) := by decide +kernel
theorem dX4_aroundPorts_5 : decode cX4_aroundPorts 5 = .ok (.if_icmp .ge 7, 3) := by decide +kernel
theorem dX4_aroundPorts_8 : decode cX4_aroundPorts 8 = .ok (.iload_n 1, 1) := by decide +kernel
theorem dX4_aroundPorts_9 : decode cX4_aroundPorts 9 = .ok (.goto 9, 3) := by decide +kernel
theorem dX4_aroundPorts_12 : decode cX4_aroundPorts 12 = .ok (.iload_n 1, 1) := by decide +kernel
theorem dX4_aroundPorts_13 : decode cX4_aroundPorts 13 = .ok (.aload_n 0, 1) := by decide +kernel
theorem dX4_aroundPorts_14 : decode cX4_aroundPorts 14 = .ok (.getfield 9, 3) := by decide +kernel
theorem dX4_aroundPorts_17 : decode cX4_aroundPorts 17 = .ok (.isub, 1) := by decide +kernel
theorem dX4_aroundPorts_18 : decode cX4_aroundPorts 18 = .ok (.ireturn, 1) := by decide +kernel
theorem dX5_init_0 : decode cX5_init 0 = .ok (.aload_n 0, 1) := by decide +kernel
theorem dX5_init_1 : decode cX5_init 1 = .ok (.invokespecial 3, 3) := by decide +kernel
theorem dX5_init_4 : decode cX5_init 4 = .ok (.aload_n 0, 1) := by decide +kernel
theorem dX5_init_5 : decode cX5_init 5 = .ok (.iconst 4, 1) := by decide +kernel
theorem dX5_init_6 : decode cX5_init 6 = .ok (.newarray .int, 2) := by decide +kernel
theorem dX5_init_8 : decode cX5_init 8 = .ok (.dup, 1) := by decide +kernel
theorem dX5_init_9 : decode cX5_init 9 = .ok (.iconst 0, 1) := by decide +kernel
theorem dX5_init_10 : decode cX5_init 10 = .ok (.iconst (-1), 1) := by decide +kernel
theorem dX5_init_11 : decode cX5_init 11 = .ok (.iastore, 1) := by decide +kernel
theorem dX5_init_12 : decode cX5_init 12 = .ok (.dup, 1) := by decide +kernel
theorem dX5_init_13 : decode cX5_init 13 = .ok (.iconst 1, 1) := by decide +kernel
theorem dX5_init_14 : decode cX5_init 14 = .ok (.iconst (-1), 1) := by decide +kernel
theorem dX5_init_15 : decode cX5_init 15 = .ok (.iastore, 1) := by decide +kernel
theorem dX5_init_16 : decode cX5_init 16 = .ok (.dup, 1) := by decide +kernel
theorem dX5_init_17 : decode cX5_init 17 = .ok (.iconst 2, 1) := by decide +kernel
theorem dX5_init_18 : decode cX5_init 18 = .ok (.iconst (-1), 1) := by decide +kernel
theorem dX5_init_19 : decode cX5_init 19 = .ok (.iastore, 1) := by decide +kernel
theorem dX5_init_20 : decode cX5_init 20 = .ok (.dup, 1) := by decide +kernel
theorem dX5_init_21 : decode cX5_init 21 = .ok (.iconst 3, 1) := by decide +kernel
theorem dX5_init_22 : decode cX5_init 22 = .ok (.iconst (-1), 1) := by decide +kernel
theorem dX5_init_23 : decode cX5_init 23 = .ok (.iastore, 1) := by decide +kernel
theorem dX5_init_24 : decode cX5_init 24 = .ok (.putfield 11, 3) := by decide +kernel
theorem dX5_init_27 : decode cX5_init 27 = .ok (.aload_n 0, 1) := by decide +kernel
theorem dX5_init_28 : decode cX5_init 28 = .ok (.iconst 4, 1) := by decide +kernel
theorem dX5_init_29 : decode cX5_init 29 = .ok (.newarray .int, 2) := by decide +kernel
theorem dX5_init_31 : decode cX5_init 31 = .ok (.putfield 15, 3) := by decide +kernel
theorem dX5_init_34 : decode cX5_init 34 = .ok (.aload_n 0, 1) := by decide +kernel
theorem dX5_init_35 : decode cX5_init 35 = .ok (.iconst 4, 1) := by decide +kernel
theorem dX5_init_36 : decode cX5_init 36 = .ok (.bipush 60, 2) := by decide +kernel
theorem dX5_init_38 : decode cX5_init 38 = .ok (.multianewarray 18 2, 4) := by decide +kernel
theorem dX5_init_42 : decode cX5_init 42 = .ok (.putfield 20, 3) := by decide +kernel
theorem dX5_init_45 : decode cX5_init 45 = .ok (.return_, 1) := by decide +kernel
theorem dX5_layRow_0 : decode cX5_layRow 0 = .ok (.aload_n 0, 1) := by decide +kernel
theorem dX5_layRow_1 : decode cX5_layRow 1 = .ok (.getfield 11, 3) := by decide +kernel
theorem dX5_layRow_4 : decode cX5_layRow 4 = .ok (.iload_n 1, 1) := by decide +kernel
theorem dX5_layRow_5 : decode cX5_layRow 5 = .ok (.iload_n 2, 1) := by decide +kernel
theorem dX5_layRow_6 : decode cX5_layRow 6 = .ok (.iastore, 1) := by decide +kernel
theorem dX5_layRow_7 : decode cX5_layRow 7 = .ok (.aload_n 0, 1) := by decide +kernel
theorem dX5_layRow_8 : decode cX5_layRow 8 = .ok (.getfield 15, 3) := by decide +kernel
theorem dX5_layRow_11 : decode cX5_layRow 11 = .ok (.iload_n 1, 1) := by decide +kernel
theorem dX5_layRow_12 : decode cX5_layRow 12 = .ok (.iload_n 3, 1) := by decide +kernel
theorem dX5_layRow_13 : decode cX5_layRow 13 = .ok (.iastore, 1) := by decide +kernel
theorem dX5_layRow_14 : decode cX5_layRow 14 = .ok (.aload_n 0, 1) := by decide +kernel
theorem dX5_layRow_15 : decode cX5_layRow 15 = .ok (.getfield 20, 3) := by decide +kernel
theorem dX5_layRow_18 : decode cX5_layRow 18 = .ok (.iload_n 1, 1) := by decide +kernel
theorem dX5_layRow_19 : decode cX5_layRow 19 = .ok (.aaload, 1) := by decide +kernel
theorem dX5_layRow_20 : decode cX5_layRow 20 = .ok (.iconst 0, 1) := by decide +kernel
theorem dX5_layRow_21 : decode cX5_layRow 21 = .ok (.invokestatic 23, 3) := by decide +kernel
theorem dX5_layRow_24 : decode cX5_layRow 24 = .ok (.return_, 1) := by decide +kernel
theorem dX5_clear_0 : decode cX5_clear 0 = .ok (.aload_n 0, 1) := by decide +kernel
theorem dX5_clear_1 : decode cX5_clear 1 = .ok (.getfield 11, 3) := by decide +kernel
theorem dX5_clear_4 : decode cX5_clear 4 = .ok (.iload_n 1, 1) := by decide +kernel
theorem dX5_clear_5 : decode cX5_clear 5 = .ok (.iaload, 1) := by decide +kernel
theorem dX5_clear_6 : decode cX5_clear 6 = .ok (.iconst (-1), 1) := by decide +kernel
theorem dX5_clear_7 : decode cX5_clear 7 = .ok (.if_icmp .eq 7, 3) := by decide +kernel
theorem dX5_clear_10 : decode cX5_clear 10 = .ok (.iconst 1, 1) := by decide +kernel
theorem dX5_clear_11 : decode cX5_clear 11 = .ok (.goto 4, 3) := by decide +kernel
theorem dX5_clear_14 : decode cX5_clear 14 = .ok (.iconst 0, 1) := by decide +kernel
theorem dX5_clear_15 : decode cX5_clear 15 = .ok (.istore_n 2, 1) := by decide +kernel
theorem dX5_clear_16 : decode cX5_clear 16 = .ok (.aload_n 0, 1) := by decide +kernel
theorem dX5_clear_17 : decode cX5_clear 17 = .ok (.getfield 11, 3) := by decide +kernel
theorem dX5_clear_20 : decode cX5_clear 20 = .ok (.iload_n 1, 1) := by decide +kernel
theorem dX5_clear_21 : decode cX5_clear 21 = .ok (.iconst (-1), 1) := by decide +kernel
theorem dX5_clear_22 : decode cX5_clear 22 = .ok (.iastore, 1) := by decide +kernel
theorem dX5_clear_23 : decode cX5_clear 23 = .ok (.aload_n 0, 1) := by decide +kernel
theorem dX5_clear_24 : decode cX5_clear 24 = .ok (.getfield 15, 3) := by decide +kernel
theorem dX5_clear_27 : decode cX5_clear 27 = .ok (.iload_n 1, 1) := by decide +kernel
theorem dX5_clear_28 : decode cX5_clear 28 = .ok (.iconst 0, 1) := by decide +kernel
theorem dX5_clear_29 : decode cX5_clear 29 = .ok (.iastore, 1) := by decide +kernel
theorem dX5_clear_30 : decode cX5_clear 30 = .ok (.iload_n 2, 1) := by decide +kernel
theorem dX5_clear_31 : decode cX5_clear 31 = .ok (.ireturn, 1) := by decide +kernel
theorem dX5_faultOfCells_0 : decode cX5_faultOfCells 0 = .ok (.aload_n 0, 1) := by decide +kernel
theorem dX5_faultOfCells_1 : decode cX5_faultOfCells 1 = .ok (.getfield 11, 3) := by decide +kernel
theorem dX5_faultOfCells_4 : decode cX5_faultOfCells 4 = .ok (.iload_n 1, 1) := by decide +kernel
theorem dX5_faultOfCells_5 : decode cX5_faultOfCells 5 = .ok (.iaload, 1) := by decide +kernel
theorem dX5_faultOfCells_6 : decode cX5_faultOfCells 6 = .ok (.iconst (-1), 1) := by decide +kernel
theorem dX5_faultOfCells_7 : decode cX5_faultOfCells 7 = .ok (.if_icmp .ne 5, 3) := by decide +kernel
theorem dX5_faultOfCells_10 : decode cX5_faultOfCells 10 = .ok (.iconst 1, 1) := by decide +kernel
theorem dX5_faultOfCells_11 : decode cX5_faultOfCells 11 = .ok (.ireturn, 1) := by decide +kernel
theorem dX5_faultOfCells_12 : decode cX5_faultOfCells 12 = .ok (.aload_n 0, 1) := by decide +kernel
theorem dX5_faultOfCells_13 : decode cX5_faultOfCells 13 = .ok (.getfield 11, 3) := by decide +kernel
theorem dX5_faultOfCells_16 : decode cX5_faultOfCells 16 = .ok (.iload_n 1, 1) := by decide +kernel
theorem dX5_faultOfCells_17 : decode cX5_faultOfCells 17 = .ok (.iaload, 1) := by decide +kernel
theorem dX5_faultOfCells_18 : decode cX5_faultOfCells 18 = .ok (.iload_n 2, 1) := by decide +kernel
theorem dX5_faultOfCells_19 : decode cX5_faultOfCells 19 = .ok (.if_icmp .eq 5, 3) := by decide +kernel
theorem dX5_faultOfCells_22 : decode cX5_faultOfCells 22 = .ok (.iconst 2, 1) := by decide +kernel
theorem dX5_faultOfCells_23 : decode cX5_faultOfCells 23 = .ok (.ireturn, 1) := by decide +kernel
theorem dX5_faultOfCells_24 : decode cX5_faultOfCells 24 = .ok (.iload_n 3, 1) := by decide +kernel
theorem dX5_faultOfCells_25 : decode cX5_faultOfCells 25 = .ok (.iconst 0, 1) := by decide +kernel
theorem dX5_faultOfCells_26 : decode cX5_faultOfCells 26 = .ok (.aload_n 0, 1) := by decide +kernel
theorem dX5_faultOfCells_27 : decode cX5_faultOfCells 27 = .ok (.getfield 15, 3) := by decide +kernel
theorem dX5_faultOfCells_30 : decode cX5_faultOfCells 30 = .ok (.iload_n 1, 1) := by decide +kernel
theorem dX5_faultOfCells_31 : decode cX5_faultOfCells 31 = .ok (.iaload, 1) := by decide +kernel
theorem dX5_faultOfCells_32 : decode cX5_faultOfCells 32 = .ok (.iload 4, 2) := by decide +kernel
theorem dX5_faultOfCells_34 : decode cX5_faultOfCells 34 = .ok (.isub, 1) := by decide +kernel
theorem dX5_faultOfCells_35 : decode cX5_faultOfCells 35 = .ok (.invokestatic 29, 3) := by decide +kernel
theorem dX5_faultOfCells_38 : decode cX5_faultOfCells 38 = .ok (.ifCond .eq 7, 3) := by decide +kernel
theorem dX5_faultOfCells_41 : decode cX5_faultOfCells 41 = .ok (.iconst 0, 1) := by decide +kernel
theorem dX5_faultOfCells_42 : decode cX5_faultOfCells 42 = .ok (.goto 4, 3) := by decide +kernel
theorem dX5_faultOfCells_45 : decode cX5_faultOfCells 45 = .ok (.iconst 3, 1) := by decide +kernel
theorem dX5_faultOfCells_46 : decode cX5_faultOfCells 46 = .ok (.ireturn, 1) := by decide +kernel
theorem dX5_change_0 : decode cX5_change 0 = .ok (.aload_n 0, 1) := by decide +kernel
theorem dX5_change_1 : decode cX5_change 1 = .ok (.getfield 20, 3) := by decide +kernel
theorem dX5_change_4 : decode cX5_change 4 = .ok (.iload_n 1, 1) := by decide +kernel
theorem dX5_change_5 : decode cX5_change 5 = .ok (.aaload, 1) := by decide +kernel
theorem dX5_change_6 : decode cX5_change 6 = .ok (.iload_n 2, 1) := by decide +kernel
theorem dX5_change_7 : decode cX5_change 7 = .ok (.aload_n 0, 1) := by decide +kernel
theorem dX5_change_8 : decode cX5_change 8 = .ok (.getfield 11, 3) := by decide +kernel
theorem dX5_change_11 : decode cX5_change 11 = .ok (.iload_n 1, 1) := by decide +kernel
theorem dX5_change_12 : decode cX5_change 12 = .ok (.iaload, 1) := by decide +kernel
theorem dX5_change_13 : decode cX5_change 13 = .ok (.iload_n 3, 1) := by decide +kernel
theorem dX5_change_14 : decode cX5_change 14 = .ok (.invokestatic 33, 3) := by decide +kernel
theorem dX5_change_17 : decode cX5_change 17 = .ok (.iastore, 1) := by decide +kernel
theorem dX5_change_18 : decode cX5_change 18 = .ok (.return_, 1) := by decide +kernel
theorem dX5_read_0 : decode cX5_read 0 = .ok (.aload_n 0, 1) := by decide +kernel
theorem dX5_read_1 : decode cX5_read 1 = .ok (.getfield 20, 3) := by decide +kernel
theorem dX5_read_4 : decode cX5_read 4 = .ok (.iload_n 1, 1) := by decide +kernel
theorem dX5_read_5 : decode cX5_read 5 = .ok (.aaload, 1) := by decide +kernel
theorem dX5_read_6 : decode cX5_read 6 = .ok (.iload_n 2, 1) := by decide +kernel
theorem dX5_read_7 : decode cX5_read 7 = .ok (.aload_n 3, 1) := by decide +kernel
theorem dX5_read_8 : decode cX5_read 8 = .ok (.iconst 0, 1) := by decide +kernel
theorem dX5_read_9 : decode cX5_read 9 = .ok (.iload 4, 2) := by decide +kernel
theorem dX5_read_11 : decode cX5_read 11 = .ok (.invokestatic 37, 3) := by decide +kernel
theorem dX5_read_14 : decode cX5_read 14 = .ok (.return_, 1) := by decide +kernel
theorem dX5_write_0 : decode cX5_write 0 = .ok (.iconst 0, 1) := by decide +kernel
theorem dX5_write_1 : decode cX5_write 1 = .ok (.istore 5, 2) := by decide +kernel
theorem dX5_write_3 : decode cX5_write 3 = .ok (.iconst 0, 1) := by decide +kernel
theorem dX5_write_4 : decode cX5_write 4 = .ok (.istore 6, 2) := by decide +kernel
theorem dX5_write_6 : decode cX5_write 6 = .ok (.iload 6, 2) := by decide +kernel
theorem dX5_write_8 : decode cX5_write 8 = .ok (.iload 4, 2) := by decide +kernel
theorem dX5_write_10 : decode cX5_write 10 = .ok (.if_icmp .ge 43, 3) := by decide +kernel
theorem dX5_write_13 : decode cX5_write 13 = .ok (.aload_n 0, 1) := by decide +kernel
theorem dX5_write_14 : decode cX5_write 14 = .ok (.getfield 20, 3) := by decide +kernel
theorem dX5_write_17 : decode cX5_write 17 = .ok (.iload_n 1, 1) := by decide +kernel
theorem dX5_write_18 : decode cX5_write 18 = .ok (.aaload, 1) := by decide +kernel
theorem dX5_write_19 : decode cX5_write 19 = .ok (.iload_n 2, 1) := by decide +kernel
theorem dX5_write_20 : decode cX5_write 20 = .ok (.iload 6, 2) := by decide +kernel
theorem dX5_write_22 : decode cX5_write 22 = .ok (.iadd, 1) := by decide +kernel
theorem dX5_write_23 : decode cX5_write 23 = .ok (.iaload, 1) := by decide +kernel
theorem dX5_write_24 : decode cX5_write 24 = .ok (.aload_n 3, 1) := by decide +kernel
theorem dX5_write_25 : decode cX5_write 25 = .ok (.iload 6, 2) := by decide +kernel
theorem dX5_write_27 : decode cX5_write 27 = .ok (.iaload, 1) := by decide +kernel
theorem dX5_write_28 : decode cX5_write 28 = .ok (.if_icmp .eq 6, 3) := by decide +kernel
theorem dX5_write_31 : decode cX5_write 31 = .ok (.iinc 5 1, 3) := by decide +kernel
theorem dX5_write_34 : decode cX5_write 34 = .ok (.aload_n 0, 1) := by decide +kernel
theorem dX5_write_35 : decode cX5_write 35 = .ok (.iload_n 1, 1) := by decide +kernel
theorem dX5_write_36 : decode cX5_write 36 = .ok (.iload_n 2, 1) := by decide +kernel
theorem dX5_write_37 : decode cX5_write 37 = .ok (.iload 6, 2) := by decide +kernel
theorem dX5_write_39 : decode cX5_write 39 = .ok (.iadd, 1) := by decide +kernel
theorem dX5_write_40 : decode cX5_write 40 = .ok (.aload_n 3, 1) := by decide +kernel
theorem dX5_write_41 : decode cX5_write 41 = .ok (.iload 6, 2) := by decide +kernel
theorem dX5_write_43 : decode cX5_write 43 = .ok (.iaload, 1) := by decide +kernel
theorem dX5_write_44 : decode cX5_write 44 = .ok (.invokevirtual 43, 3) := by decide +kernel
theorem dX5_write_47 : decode cX5_write 47 = .ok (.iinc 6 1, 3) := by decide +kernel
theorem dX5_write_50 : decode cX5_write 50 = .ok (.goto (-44), 3) := by decide +kernel
theorem dX5_write_53 : decode cX5_write 53 = .ok (.iload 5, 2) := by decide +kernel
theorem dX5_write_55 : decode cX5_write 55 = .ok (.ireturn, 1) := by decide +kernel
theorem dX5_cut_0 : decode cX5_cut 0 = .ok (.iload_n 0, 1) := by decide +kernel
theorem dX5_cut_1 : decode cX5_cut 1 = .ok (.ifCond .ne 6, 3) := by decide +kernel
theorem dX5_cut_4 : decode cX5_cut 4 = .ok (.iload_n 1, 1) := by decide +kernel
theorem dX5_cut_5 : decode cX5_cut 5 = .ok (.i2b, 1) := by decide +kernel
theorem dX5_cut_6 : decode cX5_cut 6 = .ok (.ireturn, 1) := by decide +kernel
theorem dX5_cut_7 : decode cX5_cut 7 = .ok (.iload_n 0, 1) := by decide +kernel
theorem dX5_cut_8 : decode cX5_cut 8 = .ok (.iconst 1, 1) := by decide +kernel
theorem dX5_cut_9 : decode cX5_cut 9 = .ok (.if_icmp .ne 8, 3) := by decide +kernel
theorem dX5_cut_12 : decode cX5_cut 12 = .ok (.iload_n 1, 1) := by decide +kernel
theorem dX5_cut_13 : decode cX5_cut 13 = .ok (.i2s, 1) := by decide +kernel
theorem dX5_cut_14 : decode cX5_cut 14 = .ok (.goto 4, 3) := by decide +kernel
theorem dX5_cut_17 : decode cX5_cut 17 = .ok (.iload_n 1, 1) := by decide +kernel
theorem dX5_cut_18 : decode cX5_cut 18 = .ok (.ireturn, 1) := by decide +kernel
theorem dX6_init_0 : decode cX6_init 0 = .ok (.aload_n 0, 1) := by decide +kernel
theorem dX6_init_1 : decode cX6_init 1 = .ok (.invokespecial 3, 3) := by decide +kernel
theorem dX6_init_4 : decode cX6_init 4 = .ok (.aload_n 0, 1) := by decide +kernel
theorem dX6_init_5 : decode cX6_init 5 = .ok (.iconst 3, 1) := by decide +kernel
theorem dX6_init_6 : decode cX6_init 6 = .ok (.putfield 9, 3) := by decide +kernel
theorem dX6_init_9 : decode cX6_init 9 = .ok (.aload_n 0, 1) := by decide +kernel
theorem dX6_init_10 : decode cX6_init 10 = .ok (.iconst 2, 1) := by decide +kernel
theorem dX6_init_11 : decode cX6_init 11 = .ok (.putfield 15, 3) := by decide +kernel
theorem dX6_init_14 : decode cX6_init 14 = .ok (.aload_n 0, 1) := by decide +kernel
theorem dX6_init_15 : decode cX6_init 15 = .ok (.iconst 2, 1) := by decide +kernel
theorem dX6_init_16 : decode cX6_init 16 = .ok (.putfield 18, 3) := by decide +kernel
theorem dX6_init_19 : decode cX6_init 19 = .ok (.aload_n 0, 1) := by decide +kernel
theorem dX6_init_20 : decode cX6_init 20 = .ok (.iconst 0, 1) := by decide +kernel
theorem dX6_init_21 : decode cX6_init 21 = .ok (.putfield 21, 3) := by decide +kernel
theorem dX6_init_24 : decode cX6_init 24 = .ok (.aload_n 0, 1) := by decide +kernel
theorem dX6_init_25 : decode cX6_init 25 = .ok (.bipush 20, 2) := by decide +kernel
theorem dX6_init_27 : decode cX6_init 27 = .ok (.newarray .int, 2) := by decide +kernel
theorem dX6_init_29 : decode cX6_init 29 = .ok (.putfield 24, 3) := by decide +kernel
theorem dX6_init_32 : decode cX6_init 32 = .ok (.aload_n 0, 1) := by decide +kernel
theorem dX6_init_33 : decode cX6_init 33 = .ok (.bipush 20, 2) := by decide +kernel
theorem dX6_init_35 : decode cX6_init 35 = .ok (.newarray .int, 2) := by decide +kernel
theorem dX6_init_37 : decode cX6_init 37 = .ok (.putfield 28, 3) := by decide +kernel
theorem dX6_init_40 : decode cX6_init 40 = .ok (.aload_n 0, 1) := by decide +kernel
theorem dX6_init_41 : decode cX6_init 41 = .ok (.bipush 20, 2) := by decide +kernel
theorem dX6_init_43 : decode cX6_init 43 = .ok (.newarray .int, 2) := by decide +kernel
theorem dX6_init_45 : decode cX6_init 45 = .ok (.putfield 31, 3) := by decide +kernel
theorem dX6_init_48 : decode cX6_init 48 = .ok (.aload_n 0, 1) := by decide +kernel
theorem dX6_init_49 : decode cX6_init 49 = .ok (.bipush 20, 2) := by decide +kernel
theorem dX6_init_51 : decode cX6_init 51 = .ok (.newarray .int, 2) := by decide +kernel
theorem dX6_init_53 : decode cX6_init 53 = .ok (.putfield 34, 3) := by decide +kernel
theorem dX6_init_56 : decode cX6_init 56 = .ok (.aload_n 0, 1) := by decide +kernel
theorem dX6_init_57 : decode cX6_init 57 = .ok (.iconst 5, 1) := by decide +kernel
theorem dX6_init_58 : decode cX6_init 58 = .ok (.bipush 7, 2) := by decide +kernel
theorem dX6_init_60 : decode cX6_init 60 = .ok (.multianewarray 37 2, 4) := by decide +kernel
theorem dX6_init_64 : decode cX6_init 64 = .ok (.putfield 39, 3) := by decide +kernel
theorem dX6_init_67 : decode cX6_init 67 = .ok (.aload_n 0, 1) := by decide +kernel
theorem dX6_init_68 : decode cX6_init 68 = .ok (.iconst 5, 1) := by decide +kernel
theorem dX6_init_69 : decode cX6_init 69 = .ok (.bipush 7, 2) := by decide +kernel
theorem dX6_init_71 : decode cX6_init 71 = .ok (.multianewarray 37 2, 4) := by decide +kernel
theorem dX6_init_75 : decode cX6_init 75 = .ok (.putfield 42, 3) := by decide +kernel
theorem dX6_init_78 : decode cX6_init 78 = .ok (.aload_n 0, 1) := by decide +kernel
theorem dX6_init_79 : decode cX6_init 79 = .ok (.bipush 20, 2) := by decide +kernel
theorem dX6_init_81 : decode cX6_init 81 = .ok (.newarray .int, 2) := by decide +kernel
theorem dX6_init_83 : decode cX6_init 83 = .ok (.putfield 45, 3) := by decide +kernel
theorem dX6_init_86 : decode cX6_init 86 = .ok (.aload_n 0, 1) := by decide +kernel
theorem dX6_init_87 : decode cX6_init 87 = .ok (.bipush (-9), 2) := by decide +kernel
theorem dX6_init_89 : decode cX6_init 89 = .ok (.putfield 48, 3) := by decide +kernel
theorem dX6_init_92 : decode cX6_init 92 = .ok (.aload_n 0, 1) := by decide +kernel
theorem dX6_init_93 : decode cX6_init 93 = .ok (.bipush (-9), 2) := by decide +kernel
theorem dX6_init_95 : decode cX6_init 95 = .ok (.putfield 51, 3) := by decide +kernel
theorem dX6_init_98 : decode cX6_init 98 = .ok (.aload_n 0, 1) := by decide +kernel
theorem dX6_init_99 : decode cX6_init 99 = .ok (.invokevirtual 54, 3) := by decide +kernel
theorem dX6_init_102 : decode cX6_init 102 = .ok (.return_, 1) := by decide +kernel
theorem dX6_build_0 : decode cX6_build 0 = .ok (.aload_n 0, 1) := by decide +kernel
theorem dX6_build_1 : decode cX6_build 1 = .ok (.iload_n 1, 1) := by decide +kernel
theorem dX6_build_2 : decode cX6_build 2 = .ok (.putfield 9, 3) := by decide +kernel
theorem dX6_build_5 : decode cX6_build 5 = .ok (.aload_n 0, 1) := by decide +kernel
theorem dX6_build_6 : decode cX6_build 6 = .ok (.iload_n 2, 1) := by decide +kernel
theorem dX6_build_7 : decode cX6_build 7 = .ok (.putfield 15, 3) := by decide +kernel
theorem dX6_build_10 : decode cX6_build 10 = .ok (.aload_n 0, 1) := by decide +kernel
theorem dX6_build_11 : decode cX6_build 11 = .ok (.iload_n 3, 1) := by decide +kernel
theorem dX6_build_12 : decode cX6_build 12 = .ok (.putfield 18, 3) := by decide +kernel
theorem dX6_build_15 : decode cX6_build 15 = .ok (.aload_n 0, 1) := by decide +kernel
theorem dX6_build_16 : decode cX6_build 16 = .ok (.invokevirtual 54, 3) := by decide +kernel
theorem dX6_build_19 : decode cX6_build 19 = .ok (.return_, 1) := by decide +kernel
theorem dX6_inlets_0 : decode cX6_inlets 0 = .ok (.aload_n 0, 1) := by decide +kernel
theorem dX6_inlets_1 : decode cX6_inlets 1 = .ok (.getfield 9, 3) := by decide +kernel
theorem dX6_inlets_4 : decode cX6_inlets 4 = .ok (.aload_n 0, 1) := by decide +kernel
theorem dX6_inlets_5 : decode cX6_inlets 5 = .ok (.getfield 15, 3) := by decide +kernel
theorem dX6_inlets_8 : decode cX6_inlets 8 = .ok (.imul, 1) := by decide +kernel
theorem dX6_inlets_9 : decode cX6_inlets 9 = .ok (.ireturn, 1) := by decide +kernel
theorem dX6_isPlace_0 : decode cX6_isPlace 0 = .ok (.iload_n 1, 1) := by decide +kernel
theorem dX6_isPlace_1 : decode cX6_isPlace 1 = .ok (.iconst 0, 1) := by decide +kernel
theorem dX6_isPlace_2 : decode cX6_isPlace 2 = .ok (.aload_n 0, 1) := by decide +kernel
theorem dX6_isPlace_3 : decode cX6_isPlace 3 = .ok (.invokevirtual 57, 3) := by decide +kernel
theorem dX6_isPlace_6 : decode cX6_isPlace 6 = .ok (.iconst 1, 1) := by decide +kernel
theorem dX6_isPlace_7 : decode cX6_isPlace 7 = .ok (.isub, 1) := by decide +kernel
theorem dX6_isPlace_8 : decode cX6_isPlace 8 = .ok (.invokestatic 61, 3) := by decide +kernel
theorem dX6_isPlace_11 : decode cX6_isPlace 11 = .ok (.ireturn, 1) := by decide +kernel
theorem dX6_neverBlocks_0 : decode cX6_neverBlocks 0 = .ok (.aload_n 0, 1) := by decide +kernel
theorem dX6_neverBlocks_1 : decode cX6_neverBlocks 1 = .ok (.getfield 18, 3) := by decide +kernel
theorem dX6_neverBlocks_4 : decode cX6_neverBlocks 4 = .ok (.iconst 2, 1) := by decide +kernel
theorem dX6_neverBlocks_5 : decode cX6_neverBlocks 5 = .ok (.aload_n 0, 1) := by decide +kernel
theorem dX6_neverBlocks_6 : decode cX6_neverBlocks 6 = .ok (.getfield 15, 3) := by decide +kernel
theorem dX6_neverBlocks_9 : decode cX6_neverBlocks 9 = .ok (.imul, 1) := by decide +kernel
theorem dX6_neverBlocks_10 : decode cX6_neverBlocks 10 = .ok (.iconst 1, 1) := by decide +kernel
theorem dX6_neverBlocks_11 : decode cX6_neverBlocks 11 = .ok (.isub, 1) := by decide +kernel
theorem dX6_neverBlocks_12 : decode cX6_neverBlocks 12 = .ok (.if_icmp .ge 22, 3) := by decide +kernel
theorem dX6_neverBlocks_15 : decode cX6_neverBlocks 15 = .ok (.aload_n 0, 1) := by decide +kernel
theorem dX6_neverBlocks_16 : decode cX6_neverBlocks 16 = .ok (.getfield 9, 3) := by decide +kernel
theorem dX6_neverBlocks_19 : decode cX6_neverBlocks 19 = .ok (.iconst 1, 1) := by decide +kernel
theorem dX6_neverBlocks_20 : decode cX6_neverBlocks 20 = .ok (.if_icmp .ne 18, 3) := by decide +kernel
theorem dX6_neverBlocks_23 : decode cX6_neverBlocks 23 = .ok (.aload_n 0, 1) := by decide +kernel
theorem dX6_neverBlocks_24 : decode cX6_neverBlocks 24 = .ok (.getfield 18, 3) := by decide +kernel
theorem dX6_neverBlocks_27 : decode cX6_neverBlocks 27 = .ok (.aload_n 0, 1) := by decide +kernel
theorem dX6_neverBlocks_28 : decode cX6_neverBlocks 28 = .ok (.getfield 15, 3) := by decide +kernel
theorem dX6_neverBlocks_31 : decode cX6_neverBlocks 31 = .ok (.if_icmp .lt 7, 3) := by decide +kernel
theorem dX6_neverBlocks_34 : decode cX6_neverBlocks 34 = .ok (.iconst 1, 1) := by decide +kernel
theorem dX6_neverBlocks_35 : decode cX6_neverBlocks 35 = .ok (.goto 4, 3) := by decide +kernel
theorem dX6_neverBlocks_38 : decode cX6_neverBlocks 38 = .ok (.iconst 0, 1) := by decide +kernel
theorem dX6_neverBlocks_39 : decode cX6_neverBlocks 39 = .ok (.ireturn, 1) := by decide +kernel
theorem dX6_refusalOf_0 : decode cX6_refusalOf 0 = .ok (.aload_n 0, 1) := by decide +kernel
theorem dX6_refusalOf_1 : decode cX6_refusalOf 1 = .ok (.iload_n 1, 1) := by decide +kernel
theorem dX6_refusalOf_2 : decode cX6_refusalOf 2 = .ok (.invokevirtual 65, 3) := by decide +kernel
theorem dX6_refusalOf_5 : decode cX6_refusalOf 5 = .ok (.ifCond .eq 11, 3) := by decide +kernel
theorem dX6_refusalOf_8 : decode cX6_refusalOf 8 = .ok (.aload_n 0, 1) := by decide +kernel
theorem dX6_refusalOf_9 : decode cX6_refusalOf 9 = .ok (.iload_n 2, 1) := by decide +kernel
theorem dX6_refusalOf_10 : decode cX6_refusalOf 10 = .ok (.invokevirtual 65, 3) := by decide +kernel
theorem dX6_refusalOf_13 : decode cX6_refusalOf 13 = .ok (.ifCond .ne 5, 3) := by decide +kernel
theorem dX6_refusalOf_16 : decode cX6_refusalOf 16 = .ok (.iconst (-1), 1) := by decide +kernel
theorem dX6_refusalOf_17 : decode cX6_refusalOf 17 = .ok (.ireturn, 1) := by decide +kernel
theorem dX6_refusalOf_18 : decode cX6_refusalOf 18 = .ok (.aload_n 0, 1) := by decide +kernel
theorem dX6_refusalOf_19 : decode cX6_refusalOf 19 = .ok (.getfield 24, 3) := by decide +kernel
theorem dX6_refusalOf_22 : decode cX6_refusalOf 22 = .ok (.iload_n 1, 1) := by decide +kernel
theorem dX6_refusalOf_23 : decode cX6_refusalOf 23 = .ok (.iaload, 1) := by decide +kernel
theorem dX6_refusalOf_24 : decode cX6_refusalOf 24 = .ok (.bipush (-9), 2) := by decide +kernel
theorem dX6_refusalOf_26 : decode cX6_refusalOf 26 = .ok (.if_icmp .ne 14, 3) := by decide +kernel
theorem dX6_refusalOf_29 : decode cX6_refusalOf 29 = .ok (.aload_n 0, 1) := by decide +kernel
theorem dX6_refusalOf_30 : decode cX6_refusalOf 30 = .ok (.getfield 28, 3) := by decide +kernel
theorem dX6_refusalOf_33 : decode cX6_refusalOf 33 = .ok (.iload_n 2, 1) := by decide +kernel
theorem dX6_refusalOf_34 : decode cX6_refusalOf 34 = .ok (.iaload, 1) := by decide +kernel
theorem dX6_refusalOf_35 : decode cX6_refusalOf 35 = .ok (.bipush (-9), 2) := by decide +kernel
theorem dX6_refusalOf_37 : decode cX6_refusalOf 37 = .ok (.if_icmp .eq 8, 3) := by decide +kernel
theorem dX6_refusalOf_40 : decode cX6_refusalOf 40 = .ok (.bipush (-3), 2) := by decide +kernel
theorem dX6_refusalOf_42 : decode cX6_refusalOf 42 = .ok (.goto 4, 3) := by decide +kernel
theorem dX6_refusalOf_45 : decode cX6_refusalOf 45 = .ok (.iconst 0, 1) := by decide +kernel
theorem dX6_refusalOf_46 : decode cX6_refusalOf 46 = .ok (.ireturn, 1) := by decide +kernel
theorem dX6_setUpFirst_0 : decode cX6_setUpFirst 0 = .ok (.aload_n 0, 1) := by decide +kernel
theorem dX6_setUpFirst_1 : decode cX6_setUpFirst 1 = .ok (.iload_n 1, 1) := by decide +kernel
theorem dX6_setUpFirst_2 : decode cX6_setUpFirst 2 = .ok (.invokevirtual 69, 3) := by decide +kernel
theorem dX6_setUpFirst_5 : decode cX6_setUpFirst 5 = .ok (.istore_n 3, 1) := by decide +kernel
theorem dX6_setUpFirst_6 : decode cX6_setUpFirst 6 = .ok (.aload_n 0, 1) := by decide +kernel
theorem dX6_setUpFirst_7 : decode cX6_setUpFirst 7 = .ok (.iload_n 2, 1) := by decide +kernel
theorem dX6_setUpFirst_8 : decode cX6_setUpFirst 8 = .ok (.invokevirtual 69, 3) := by decide +kernel
theorem dX6_setUpFirst_11 : decode cX6_setUpFirst 11 = .ok (.istore 4, 2) := by decide +kernel
theorem dX6_setUpFirst_13 : decode cX6_setUpFirst 13 = .ok (.iconst 0, 1) := by decide +kernel
theorem dX6_setUpFirst_14 : decode cX6_setUpFirst 14 = .ok (.istore 5, 2) := by decide +kernel
theorem dX6_setUpFirst_16 : decode cX6_setUpFirst 16 = .ok (.iload 5, 2) := by decide +kernel
theorem dX6_setUpFirst_18 : decode cX6_setUpFirst 18 = .ok (.aload_n 0, 1) := by decide +kernel
theorem dX6_setUpFirst_19 : decode cX6_setUpFirst 19 = .ok (.getfield 18, 3) := by decide +kernel
theorem dX6_setUpFirst_22 : decode cX6_setUpFirst 22 = .ok (.if_icmp .ge 54, 3) := by decide +kernel
theorem dX6_setUpFirst_25 : decode cX6_setUpFirst 25 = .ok (.aload_n 0, 1) := by decide +kernel
theorem dX6_setUpFirst_26 : decode cX6_setUpFirst 26 = .ok (.getfield 39, 3) := by decide +kernel
theorem dX6_setUpFirst_29 : decode cX6_setUpFirst 29 = .ok (.iload_n 3, 1) := by decide +kernel
theorem dX6_setUpFirst_30 : decode cX6_setUpFirst 30 = .ok (.aaload, 1) := by decide +kernel
theorem dX6_setUpFirst_31 : decode cX6_setUpFirst 31 = .ok (.iload 5, 2) := by decide +kernel
theorem dX6_setUpFirst_33 : decode cX6_setUpFirst 33 = .ok (.iaload, 1) := by decide +kernel
theorem dX6_setUpFirst_34 : decode cX6_setUpFirst 34 = .ok (.bipush (-9), 2) := by decide +kernel
theorem dX6_setUpFirst_36 : decode cX6_setUpFirst 36 = .ok (.if_icmp .ne 34, 3) := by decide +kernel
theorem dX6_setUpFirst_39 : decode cX6_setUpFirst 39 = .ok (.aload_n 0, 1) := by decide +kernel
theorem dX6_setUpFirst_40 : decode cX6_setUpFirst 40 = .ok (.getfield 42, 3) := by decide +kernel
theorem dX6_setUpFirst_43 : decode cX6_setUpFirst 43 = .ok (.iload 4, 2) := by decide +kernel
theorem dX6_setUpFirst_45 : decode cX6_setUpFirst 45 = .ok (.aaload, 1) := by decide +kernel
theorem dX6_setUpFirst_46 : decode cX6_setUpFirst 46 = .ok (.iload 5, 2) := by decide +kernel
theorem dX6_setUpFirst_48 : decode cX6_setUpFirst 48 = .ok (.iaload, 1) := by decide +kernel
theorem dX6_setUpFirst_49 : decode cX6_setUpFirst 49 = .ok (.bipush (-9), 2) := by decide +kernel
theorem dX6_setUpFirst_51 : decode cX6_setUpFirst 51 = .ok (.if_icmp .ne 19, 3) := by decide +kernel
theorem dX6_setUpFirst_54 : decode cX6_setUpFirst 54 = .ok (.aload_n 0, 1) := by decide +kernel
theorem dX6_setUpFirst_55 : decode cX6_setUpFirst 55 = .ok (.iload_n 1, 1) := by decide +kernel
theorem dX6_setUpFirst_56 : decode cX6_setUpFirst 56 = .ok (.iload_n 2, 1) := by decide +kernel
theorem dX6_setUpFirst_57 : decode cX6_setUpFirst 57 = .ok (.invokevirtual 73, 3) := by decide +kernel
theorem dX6_setUpFirst_60 : decode cX6_setUpFirst 60 = .ok (.aload_n 0, 1) := by decide +kernel
theorem dX6_setUpFirst_61 : decode cX6_setUpFirst 61 = .ok (.iload_n 1, 1) := by decide +kernel
theorem dX6_setUpFirst_62 : decode cX6_setUpFirst 62 = .ok (.iload 5, 2) := by decide +kernel
theorem dX6_setUpFirst_64 : decode cX6_setUpFirst 64 = .ok (.invokevirtual 77, 3) := by decide +kernel
theorem dX6_setUpFirst_67 : decode cX6_setUpFirst 67 = .ok (.iload 5, 2) := by decide +kernel
theorem dX6_setUpFirst_69 : decode cX6_setUpFirst 69 = .ok (.ireturn, 1) := by decide +kernel
theorem dX6_setUpFirst_70 : decode cX6_setUpFirst 70 = .ok (.iinc 5 1, 3) := by decide +kernel
theorem dX6_setUpFirst_73 : decode cX6_setUpFirst 73 = .ok (.goto (-57), 3) := by decide +kernel
theorem dX6_setUpFirst_76 : decode cX6_setUpFirst 76 = .ok (.bipush (-9), 2) := by decide +kernel
theorem dX6_setUpFirst_78 : decode cX6_setUpFirst 78 = .ok (.ireturn, 1) := by decide +kernel
theorem dX6_setUpMended_0 : decode cX6_setUpMended 0 = .ok (.aload_n 0, 1) := by decide +kernel
theorem dX6_setUpMended_1 : decode cX6_setUpMended 1 = .ok (.iload_n 1, 1) := by decide +kernel
theorem dX6_setUpMended_2 : decode cX6_setUpMended 2 = .ok (.iload_n 2, 1) := by decide +kernel
theorem dX6_setUpMended_3 : decode cX6_setUpMended 3 = .ok (.invokevirtual 80, 3) := by decide +kernel
theorem dX6_setUpMended_6 : decode cX6_setUpMended 6 = .ok (.istore_n 3, 1) := by decide +kernel
theorem dX6_setUpMended_7 : decode cX6_setUpMended 7 = .ok (.iload_n 3, 1) := by decide +kernel
theorem dX6_setUpMended_8 : decode cX6_setUpMended 8 = .ok (.bipush (-9), 2) := by decide +kernel
theorem dX6_setUpMended_10 : decode cX6_setUpMended 10 = .ok (.if_icmp .ne 6, 3) := by decide +kernel
theorem dX6_setUpMended_13 : decode cX6_setUpMended 13 = .ok (.bipush (-9), 2) := by decide +kernel
theorem dX6_setUpMended_15 : decode cX6_setUpMended 15 = .ok (.ireturn, 1) := by decide +kernel
theorem dX6_setUpMended_16 : decode cX6_setUpMended 16 = .ok (.aload_n 0, 1) := by decide +kernel
theorem dX6_setUpMended_17 : decode cX6_setUpMended 17 = .ok (.iload_n 1, 1) := by decide +kernel
theorem dX6_setUpMended_18 : decode cX6_setUpMended 18 = .ok (.iload_n 2, 1) := by decide +kernel
theorem dX6_setUpMended_19 : decode cX6_setUpMended 19 = .ok (.invokevirtual 73, 3) := by decide +kernel
theorem dX6_setUpMended_22 : decode cX6_setUpMended 22 = .ok (.aload_n 0, 1) := by decide +kernel
theorem dX6_setUpMended_23 : decode cX6_setUpMended 23 = .ok (.iload_n 1, 1) := by decide +kernel
theorem dX6_setUpMended_24 : decode cX6_setUpMended 24 = .ok (.invokevirtual 84, 3) := by decide +kernel
theorem dX6_setUpMended_27 : decode cX6_setUpMended 27 = .ok (.iload_n 3, 1) := by decide +kernel
theorem dX6_setUpMended_28 : decode cX6_setUpMended 28 = .ok (.ireturn, 1) := by decide +kernel
theorem dX6_fewestMoves_0 : decode cX6_fewestMoves 0 = .ok (.aload_n 0, 1) := by decide +kernel
theorem dX6_fewestMoves_1 : decode cX6_fewestMoves 1 = .ok (.iload_n 1, 1) := by decide +kernel
theorem dX6_fewestMoves_2 : decode cX6_fewestMoves 2 = .ok (.invokevirtual 69, 3) := by decide +kernel
theorem dX6_fewestMoves_5 : decode cX6_fewestMoves 5 = .ok (.istore_n 3, 1) := by decide +kernel
theorem dX6_fewestMoves_6 : decode cX6_fewestMoves 6 = .ok (.aload_n 0, 1) := by decide +kernel
theorem dX6_fewestMoves_7 : decode cX6_fewestMoves 7 = .ok (.iload_n 2, 1) := by decide +kernel
theorem dX6_fewestMoves_8 : decode cX6_fewestMoves 8 = .ok (.invokevirtual 69, 3) := by decide +kernel
theorem dX6_fewestMoves_11 : decode cX6_fewestMoves 11 = .ok (.istore 4, 2) := by decide +kernel
theorem dX6_fewestMoves_13 : decode cX6_fewestMoves 13 = .ok (.bipush (-9), 2) := by decide +kernel
theorem dX6_fewestMoves_15 : decode cX6_fewestMoves 15 = .ok (.istore 5, 2) := by decide +kernel
theorem dX6_fewestMoves_17 : decode cX6_fewestMoves 17 = .ok (.iconst 0, 1) := by decide +kernel
theorem dX6_fewestMoves_18 : decode cX6_fewestMoves 18 = .ok (.istore 6, 2) := by decide +kernel
theorem dX6_fewestMoves_20 : decode cX6_fewestMoves 20 = .ok (.iload 6, 2) := by decide +kernel
theorem dX6_fewestMoves_22 : decode cX6_fewestMoves 22 = .ok (.aload_n 0, 1) := by decide +kernel
theorem dX6_fewestMoves_23 : decode cX6_fewestMoves 23 = .ok (.getfield 18, 3) := by decide +kernel
theorem dX6_fewestMoves_26 : decode cX6_fewestMoves 26 = .ok (.if_icmp .ge 101, 3) := by decide +kernel
theorem dX6_fewestMoves_29 : decode cX6_fewestMoves 29 = .ok (.iconst 0, 1) := by decide +kernel
theorem dX6_fewestMoves_30 : decode cX6_fewestMoves 30 = .ok (.istore 7, 2) := by decide +kernel
theorem dX6_fewestMoves_32 : decode cX6_fewestMoves 32 = .ok (.iload 7, 2) := by decide +kernel
theorem dX6_fewestMoves_34 : decode cX6_fewestMoves 34 = .ok (.aload_n 0, 1) := by decide +kernel
theorem dX6_fewestMoves_35 : decode cX6_fewestMoves 35 = .ok (.getfield 18, 3) := by decide +kernel
theorem dX6_fewestMoves_38 : decode cX6_fewestMoves 38 = .ok (.if_icmp .ge 83, 3) := by decide +kernel
theorem dX6_fewestMoves_41 : decode cX6_fewestMoves 41 = .ok (.aload_n 0, 1) := by decide +kernel
theorem dX6_fewestMoves_42 : decode cX6_fewestMoves 42 = .ok (.getfield 39, 3) := by decide +kernel
theorem dX6_fewestMoves_45 : decode cX6_fewestMoves 45 = .ok (.iload_n 3, 1) := by decide +kernel
theorem dX6_fewestMoves_46 : decode cX6_fewestMoves 46 = .ok (.aaload, 1) := by decide +kernel
theorem dX6_fewestMoves_47 : decode cX6_fewestMoves 47 = .ok (.iload 6, 2) := by decide +kernel
theorem dX6_fewestMoves_49 : decode cX6_fewestMoves 49 = .ok (.iaload, 1) := by decide +kernel
theorem dX6_fewestMoves_50 : decode cX6_fewestMoves 50 = .ok (.bipush (-9), 2) := by decide +kernel
theorem dX6_fewestMoves_52 : decode cX6_fewestMoves 52 = .ok (.if_icmp .ne 63, 3) := by decide +kernel
theorem dX6_fewestMoves_55 : decode cX6_fewestMoves 55 = .ok (.aload_n 0, 1) := by decide +kernel
theorem dX6_fewestMoves_56 : decode cX6_fewestMoves 56 = .ok (.getfield 42, 3) := by decide +kernel
theorem dX6_fewestMoves_59 : decode cX6_fewestMoves 59 = .ok (.iload 4, 2) := by decide +kernel
theorem dX6_fewestMoves_61 : decode cX6_fewestMoves 61 = .ok (.aaload, 1) := by decide +kernel
theorem dX6_fewestMoves_62 : decode cX6_fewestMoves 62 = .ok (.iload 7, 2) := by decide +kernel
theorem dX6_fewestMoves_64 : decode cX6_fewestMoves 64 = .ok (.iaload, 1) := by decide +kernel
theorem dX6_fewestMoves_65 : decode cX6_fewestMoves 65 = .ok (.bipush (-9), 2) := by decide +kernel
theorem dX6_fewestMoves_67 : decode cX6_fewestMoves 67 = .ok (.if_icmp .eq 6, 3) := by decide +kernel
theorem dX6_fewestMoves_70 : decode cX6_fewestMoves 70 = .ok (.goto 45, 3) := by decide +kernel
theorem dX6_fewestMoves_73 : decode cX6_fewestMoves 73 = .ok (.aload_n 0, 1) := by decide +kernel
theorem dX6_fewestMoves_74 : decode cX6_fewestMoves 74 = .ok (.iload 4, 2) := by decide +kernel
theorem dX6_fewestMoves_76 : decode cX6_fewestMoves 76 = .ok (.iload 6, 2) := by decide +kernel
theorem dX6_fewestMoves_78 : decode cX6_fewestMoves 78 = .ok (.iload 7, 2) := by decide +kernel
theorem dX6_fewestMoves_80 : decode cX6_fewestMoves 80 = .ok (.invokevirtual 88, 3) := by decide +kernel
theorem dX6_fewestMoves_83 : decode cX6_fewestMoves 83 = .ok (.istore 8, 2) := by decide +kernel
theorem dX6_fewestMoves_85 : decode cX6_fewestMoves 85 = .ok (.iload 5, 2) := by decide +kernel
theorem dX6_fewestMoves_87 : decode cX6_fewestMoves 87 = .ok (.bipush (-9), 2) := by decide +kernel
theorem dX6_fewestMoves_89 : decode cX6_fewestMoves 89 = .ok (.if_icmp .eq 10, 3) := by decide +kernel
theorem dX6_fewestMoves_92 : decode cX6_fewestMoves 92 = .ok (.iload 8, 2) := by decide +kernel
theorem dX6_fewestMoves_94 : decode cX6_fewestMoves 94 = .ok (.iload 5, 2) := by decide +kernel
theorem dX6_fewestMoves_96 : decode cX6_fewestMoves 96 = .ok (.if_icmp .ge 19, 3) := by decide +kernel
theorem dX6_fewestMoves_99 : decode cX6_fewestMoves 99 = .ok (.iload 8, 2) := by decide +kernel
theorem dX6_fewestMoves_101 : decode cX6_fewestMoves 101 = .ok (.istore 5, 2) := by decide +kernel
theorem dX6_fewestMoves_103 : decode cX6_fewestMoves 103 = .ok (.aload_n 0, 1) := by decide +kernel
theorem dX6_fewestMoves_104 : decode cX6_fewestMoves 104 = .ok (.iload 6, 2) := by decide +kernel
theorem dX6_fewestMoves_106 : decode cX6_fewestMoves 106 = .ok (.putfield 48, 3) := by decide +kernel
theorem dX6_fewestMoves_109 : decode cX6_fewestMoves 109 = .ok (.aload_n 0, 1) := by decide +kernel
theorem dX6_fewestMoves_110 : decode cX6_fewestMoves 110 = .ok (.iload 7, 2) := by decide +kernel
theorem dX6_fewestMoves_112 : decode cX6_fewestMoves 112 = .ok (.putfield 51, 3) := by decide +kernel
theorem dX6_fewestMoves_115 : decode cX6_fewestMoves 115 = .ok (.iinc 7 1, 3) := by decide +kernel
theorem dX6_fewestMoves_118 : decode cX6_fewestMoves 118 = .ok (.goto (-86), 3) := by decide +kernel
theorem dX6_fewestMoves_121 : decode cX6_fewestMoves 121 = .ok (.iinc 6 1, 3) := by decide +kernel
theorem dX6_fewestMoves_124 : decode cX6_fewestMoves 124 = .ok (.goto (-104), 3) := by decide +kernel
theorem dX6_fewestMoves_127 : decode cX6_fewestMoves 127 = .ok (.iload 5, 2) := by decide +kernel
theorem dX6_fewestMoves_129 : decode cX6_fewestMoves 129 = .ok (.ireturn, 1) := by decide +kernel
theorem dX6_takeOff_0 : decode cX6_takeOff 0 = .ok (.aload_n 0, 1) := by decide +kernel
theorem dX6_takeOff_1 : decode cX6_takeOff 1 = .ok (.getfield 31, 3) := by decide +kernel
theorem dX6_takeOff_4 : decode cX6_takeOff 4 = .ok (.iload_n 1, 1) := by decide +kernel
theorem dX6_takeOff_5 : decode cX6_takeOff 5 = .ok (.iaload, 1) := by decide +kernel
theorem dX6_takeOff_6 : decode cX6_takeOff 6 = .ok (.istore_n 2, 1) := by decide +kernel
theorem dX6_takeOff_7 : decode cX6_takeOff 7 = .ok (.aload_n 0, 1) := by decide +kernel
theorem dX6_takeOff_8 : decode cX6_takeOff 8 = .ok (.iload_n 1, 1) := by decide +kernel
theorem dX6_takeOff_9 : decode cX6_takeOff 9 = .ok (.invokevirtual 92, 3) := by decide +kernel
theorem dX6_takeOff_12 : decode cX6_takeOff 12 = .ok (.aload_n 0, 1) := by decide +kernel
theorem dX6_takeOff_13 : decode cX6_takeOff 13 = .ok (.getfield 28, 3) := by decide +kernel
theorem dX6_takeOff_16 : decode cX6_takeOff 16 = .ok (.aload_n 0, 1) := by decide +kernel
theorem dX6_takeOff_17 : decode cX6_takeOff 17 = .ok (.getfield 24, 3) := by decide +kernel
theorem dX6_takeOff_20 : decode cX6_takeOff 20 = .ok (.iload_n 1, 1) := by decide +kernel
theorem dX6_takeOff_21 : decode cX6_takeOff 21 = .ok (.iaload, 1) := by decide +kernel
theorem dX6_takeOff_22 : decode cX6_takeOff 22 = .ok (.bipush (-9), 2) := by decide +kernel
theorem dX6_takeOff_24 : decode cX6_takeOff 24 = .ok (.iastore, 1) := by decide +kernel
theorem dX6_takeOff_25 : decode cX6_takeOff 25 = .ok (.aload_n 0, 1) := by decide +kernel
theorem dX6_takeOff_26 : decode cX6_takeOff 26 = .ok (.getfield 24, 3) := by decide +kernel
theorem dX6_takeOff_29 : decode cX6_takeOff 29 = .ok (.iload_n 1, 1) := by decide +kernel
theorem dX6_takeOff_30 : decode cX6_takeOff 30 = .ok (.bipush (-9), 2) := by decide +kernel
theorem dX6_takeOff_32 : decode cX6_takeOff 32 = .ok (.iastore, 1) := by decide +kernel
theorem dX6_takeOff_33 : decode cX6_takeOff 33 = .ok (.aload_n 0, 1) := by decide +kernel
theorem dX6_takeOff_34 : decode cX6_takeOff 34 = .ok (.dup, 1) := by decide +kernel
theorem dX6_takeOff_35 : decode cX6_takeOff 35 = .ok (.getfield 21, 3) := by decide +kernel
theorem dX6_takeOff_38 : decode cX6_takeOff 38 = .ok (.iconst 1, 1) := by decide +kernel
theorem dX6_takeOff_39 : decode cX6_takeOff 39 = .ok (.isub, 1) := by decide +kernel
theorem dX6_takeOff_40 : decode cX6_takeOff 40 = .ok (.putfield 21, 3) := by decide +kernel
theorem dX6_takeOff_43 : decode cX6_takeOff 43 = .ok (.iload_n 2, 1) := by decide +kernel
theorem dX6_takeOff_44 : decode cX6_takeOff 44 = .ok (.ireturn, 1) := by decide +kernel
theorem dX6_layAllAnew_0 : decode cX6_layAllAnew 0 = .ok (.aload_n 0, 1) := by decide +kernel
theorem dX6_layAllAnew_1 : decode cX6_layAllAnew 1 = .ok (.getfield 31, 3) := by decide +kernel
theorem dX6_layAllAnew_4 : decode cX6_layAllAnew 4 = .ok (.iconst 0, 1) := by decide +kernel
theorem dX6_layAllAnew_5 : decode cX6_layAllAnew 5 = .ok (.aload_n 0, 1) := by decide +kernel
theorem dX6_layAllAnew_6 : decode cX6_layAllAnew 6 = .ok (.getfield 34, 3) := by decide +kernel
theorem dX6_layAllAnew_9 : decode cX6_layAllAnew 9 = .ok (.iconst 0, 1) := by decide +kernel
theorem dX6_layAllAnew_10 : decode cX6_layAllAnew 10 = .ok (.bipush 20, 2) := by decide +kernel
theorem dX6_layAllAnew_12 : decode cX6_layAllAnew 12 = .ok (.invokestatic 95, 3) := by decide +kernel
theorem dX6_layAllAnew_15 : decode cX6_layAllAnew 15 = .ok (.aload_n 0, 1) := by decide +kernel
theorem dX6_layAllAnew_16 : decode cX6_layAllAnew 16 = .ok (.invokevirtual 101, 3) := by decide +kernel
theorem dX6_layAllAnew_19 : decode cX6_layAllAnew 19 = .ok (.iconst 0, 1) := by decide +kernel
theorem dX6_layAllAnew_20 : decode cX6_layAllAnew 20 = .ok (.istore_n 1, 1) := by decide +kernel
theorem dX6_layAllAnew_21 : decode cX6_layAllAnew 21 = .ok (.iload_n 1, 1) := by decide +kernel
theorem dX6_layAllAnew_22 : decode cX6_layAllAnew 22 = .ok (.aload_n 0, 1) := by decide +kernel
theorem dX6_layAllAnew_23 : decode cX6_layAllAnew 23 = .ok (.invokevirtual 57, 3) := by decide +kernel
theorem dX6_layAllAnew_26 : decode cX6_layAllAnew 26 = .ok (.if_icmp .ge 35, 3) := by decide +kernel
theorem dX6_layAllAnew_29 : decode cX6_layAllAnew 29 = .ok (.aload_n 0, 1) := by decide +kernel
theorem dX6_layAllAnew_30 : decode cX6_layAllAnew 30 = .ok (.getfield 24, 3) := by decide +kernel
theorem dX6_layAllAnew_33 : decode cX6_layAllAnew 33 = .ok (.iload_n 1, 1) := by decide +kernel
theorem dX6_layAllAnew_34 : decode cX6_layAllAnew 34 = .ok (.iaload, 1) := by decide +kernel
theorem dX6_layAllAnew_35 : decode cX6_layAllAnew 35 = .ok (.bipush (-9), 2) := by decide +kernel
theorem dX6_layAllAnew_37 : decode cX6_layAllAnew 37 = .ok (.if_icmp .eq 18, 3) := by decide +kernel
theorem dX6_layAllAnew_40 : decode cX6_layAllAnew 40 = .ok (.aload_n 0, 1) := by decide +kernel
theorem dX6_layAllAnew_41 : decode cX6_layAllAnew 41 = .ok (.iload_n 1, 1) := by decide +kernel
theorem dX6_layAllAnew_42 : decode cX6_layAllAnew 42 = .ok (.invokevirtual 104, 3) := by decide +kernel
theorem dX6_layAllAnew_45 : decode cX6_layAllAnew 45 = .ok (.ifCond .ne 10, 3) := by decide +kernel
theorem dX6_layAllAnew_48 : decode cX6_layAllAnew 48 = .ok (.aload_n 0, 1) := by decide +kernel
theorem dX6_layAllAnew_49 : decode cX6_layAllAnew 49 = .ok (.invokevirtual 107, 3) := by decide +kernel
theorem dX6_layAllAnew_52 : decode cX6_layAllAnew 52 = .ok (.bipush (-3), 2) := by decide +kernel
theorem dX6_layAllAnew_54 : decode cX6_layAllAnew 54 = .ok (.ireturn, 1) := by decide +kernel
theorem dX6_layAllAnew_55 : decode cX6_layAllAnew 55 = .ok (.iinc 1 1, 3) := by decide +kernel
theorem dX6_layAllAnew_58 : decode cX6_layAllAnew 58 = .ok (.goto (-37), 3) := by decide +kernel
theorem dX6_layAllAnew_61 : decode cX6_layAllAnew 61 = .ok (.iconst 0, 1) := by decide +kernel
theorem dX6_layAllAnew_62 : decode cX6_layAllAnew 62 = .ok (.istore_n 1, 1) := by decide +kernel
theorem dX6_layAllAnew_63 : decode cX6_layAllAnew 63 = .ok (.iconst 0, 1) := by decide +kernel
theorem dX6_layAllAnew_64 : decode cX6_layAllAnew 64 = .ok (.istore_n 2, 1) := by decide +kernel
theorem dX6_layAllAnew_65 : decode cX6_layAllAnew 65 = .ok (.iload_n 2, 1) := by decide +kernel
theorem dX6_layAllAnew_66 : decode cX6_layAllAnew 66 = .ok (.aload_n 0, 1) := by decide +kernel
theorem dX6_layAllAnew_67 : decode cX6_layAllAnew 67 = .ok (.invokevirtual 57, 3) := by decide +kernel
theorem dX6_layAllAnew_70 : decode cX6_layAllAnew 70 = .ok (.if_icmp .ge 27, 3) := by decide +kernel
theorem dX6_layAllAnew_73 : decode cX6_layAllAnew 73 = .ok (.aload_n 0, 1) := by decide +kernel
theorem dX6_layAllAnew_74 : decode cX6_layAllAnew 74 = .ok (.getfield 31, 3) := by decide +kernel
theorem dX6_layAllAnew_77 : decode cX6_layAllAnew 77 = .ok (.iload_n 2, 1) := by decide +kernel
theorem dX6_layAllAnew_78 : decode cX6_layAllAnew 78 = .ok (.iaload, 1) := by decide +kernel
theorem dX6_layAllAnew_79 : decode cX6_layAllAnew 79 = .ok (.aload_n 0, 1) := by decide +kernel
theorem dX6_layAllAnew_80 : decode cX6_layAllAnew 80 = .ok (.getfield 34, 3) := by decide +kernel
theorem dX6_layAllAnew_83 : decode cX6_layAllAnew 83 = .ok (.iload_n 2, 1) := by decide +kernel
theorem dX6_layAllAnew_84 : decode cX6_layAllAnew 84 = .ok (.iaload, 1) := by decide +kernel
theorem dX6_layAllAnew_85 : decode cX6_layAllAnew 85 = .ok (.if_icmp .eq 6, 3) := by decide +kernel
theorem dX6_layAllAnew_88 : decode cX6_layAllAnew 88 = .ok (.iinc 1 1, 3) := by decide +kernel
theorem dX6_layAllAnew_91 : decode cX6_layAllAnew 91 = .ok (.iinc 2 1, 3) := by decide +kernel
theorem dX6_layAllAnew_94 : decode cX6_layAllAnew 94 = .ok (.goto (-29), 3) := by decide +kernel
theorem dX6_layAllAnew_97 : decode cX6_layAllAnew 97 = .ok (.iload_n 1, 1) := by decide +kernel
theorem dX6_layAllAnew_98 : decode cX6_layAllAnew 98 = .ok (.ireturn, 1) := by decide +kernel
theorem dX6_takenLinks_0 : decode cX6_takenLinks 0 = .ok (.iconst 0, 1) := by decide +kernel
theorem dX6_takenLinks_1 : decode cX6_takenLinks 1 = .ok (.istore_n 3, 1) := by decide +kernel
theorem dX6_takenLinks_2 : decode cX6_takenLinks 2 = .ok (.iconst 0, 1) := by decide +kernel
theorem dX6_takenLinks_3 : decode cX6_takenLinks 3 = .ok (.istore 4, 2) := by decide +kernel
theorem dX6_takenLinks_5 : decode cX6_takenLinks 5 = .ok (.iload 4, 2) := by decide +kernel
theorem dX6_takenLinks_7 : decode cX6_takenLinks 7 = .ok (.aload_n 0, 1) := by decide +kernel
theorem dX6_takenLinks_8 : decode cX6_takenLinks 8 = .ok (.getfield 9, 3) := by decide +kernel
theorem dX6_takenLinks_11 : decode cX6_takenLinks 11 = .ok (.if_icmp .ge 50, 3) := by decide +kernel
theorem dX6_takenLinks_14 : decode cX6_takenLinks 14 = .ok (.iload_n 2, 1) := by decide +kernel
theorem dX6_takenLinks_15 : decode cX6_takenLinks 15 = .ok (.ifCond .ne 15, 3) := by decide +kernel
theorem dX6_takenLinks_18 : decode cX6_takenLinks 18 = .ok (.aload_n 0, 1) := by decide +kernel
theorem dX6_takenLinks_19 : decode cX6_takenLinks 19 = .ok (.getfield 39, 3) := by decide +kernel
theorem dX6_takenLinks_22 : decode cX6_takenLinks 22 = .ok (.iload 4, 2) := by decide +kernel
theorem dX6_takenLinks_24 : decode cX6_takenLinks 24 = .ok (.aaload, 1) := by decide +kernel
theorem dX6_takenLinks_25 : decode cX6_takenLinks 25 = .ok (.iload_n 1, 1) := by decide +kernel
theorem dX6_takenLinks_26 : decode cX6_takenLinks 26 = .ok (.iaload, 1) := by decide +kernel
theorem dX6_takenLinks_27 : decode cX6_takenLinks 27 = .ok (.goto 12, 3) := by decide +kernel
theorem dX6_takenLinks_30 : decode cX6_takenLinks 30 = .ok (.aload_n 0, 1) := by decide +kernel
theorem dX6_takenLinks_31 : decode cX6_takenLinks 31 = .ok (.getfield 42, 3) := by decide +kernel
theorem dX6_takenLinks_34 : decode cX6_takenLinks 34 = .ok (.iload 4, 2) := by decide +kernel
theorem dX6_takenLinks_36 : decode cX6_takenLinks 36 = .ok (.aaload, 1) := by decide +kernel
theorem dX6_takenLinks_37 : decode cX6_takenLinks 37 = .ok (.iload_n 1, 1) := by decide +kernel
theorem dX6_takenLinks_38 : decode cX6_takenLinks 38 = .ok (.iaload, 1) := by decide +kernel
theorem dX6_takenLinks_39 : decode cX6_takenLinks 39 = .ok (.istore 5, 2) := by decide +kernel
theorem dX6_takenLinks_41 : decode cX6_takenLinks 41 = .ok (.iload 5, 2) := by decide +kernel
theorem dX6_takenLinks_43 : decode cX6_takenLinks 43 = .ok (.bipush (-9), 2) := by decide +kernel
theorem dX6_takenLinks_45 : decode cX6_takenLinks 45 = .ok (.if_icmp .eq 10, 3) := by decide +kernel
theorem dX6_takenLinks_48 : decode cX6_takenLinks 48 = .ok (.iload_n 3, 1) := by decide +kernel
theorem dX6_takenLinks_49 : decode cX6_takenLinks 49 = .ok (.iconst 1, 1) := by decide +kernel
theorem dX6_takenLinks_50 : decode cX6_takenLinks 50 = .ok (.iload 4, 2) := by decide +kernel
theorem dX6_takenLinks_52 : decode cX6_takenLinks 52 = .ok (.ishl, 1) := by decide +kernel
theorem dX6_takenLinks_53 : decode cX6_takenLinks 53 = .ok (.ior, 1) := by decide +kernel
theorem dX6_takenLinks_54 : decode cX6_takenLinks 54 = .ok (.istore_n 3, 1) := by decide +kernel
theorem dX6_takenLinks_55 : decode cX6_takenLinks 55 = .ok (.iinc 4 1, 3) := by decide +kernel
theorem dX6_takenLinks_58 : decode cX6_takenLinks 58 = .ok (.goto (-53), 3) := by decide +kernel
theorem dX6_takenLinks_61 : decode cX6_takenLinks 61 = .ok (.iload_n 3, 1) := by decide +kernel
theorem dX6_takenLinks_62 : decode cX6_takenLinks 62 = .ok (.ireturn, 1) := by decide +kernel
theorem dX6_shareLost_0 : decode cX6_shareLost 0 = .ok (.iload_n 2, 1) := by decide +kernel
theorem dX6_shareLost_1 : decode cX6_shareLost 1 = .ok (.i2l, 1) := by decide +kernel
theorem dX6_shareLost_2 : decode cX6_shareLost 2 = .ok (.iload_n 2, 1) := by decide +kernel
theorem dX6_shareLost_3 : decode cX6_shareLost 3 = .ok (.i2l, 1) := by decide +kernel
theorem dX6_shareLost_4 : decode cX6_shareLost 4 = .ok (.lmul, 1) := by decide +kernel
theorem dX6_shareLost_5 : decode cX6_shareLost 5 = .ok (.lstore 4, 2) := by decide +kernel
theorem dX6_shareLost_7 : decode cX6_shareLost 7 = .ok (.lload 4, 2) := by decide +kernel
theorem dX6_shareLost_9 : decode cX6_shareLost 9 = .ok (.iload_n 2, 1) := by decide +kernel
theorem dX6_shareLost_10 : decode cX6_shareLost 10 = .ok (.iload_n 1, 1) := by decide +kernel
theorem dX6_shareLost_11 : decode cX6_shareLost 11 = .ok (.isub, 1) := by decide +kernel
theorem dX6_shareLost_12 : decode cX6_shareLost 12 = .ok (.i2l, 1) := by decide +kernel
theorem dX6_shareLost_13 : decode cX6_shareLost 13 = .ok (.iload_n 2, 1) := by decide +kernel
theorem dX6_shareLost_14 : decode cX6_shareLost 14 = .ok (.iload_n 1, 1) := by decide +kernel
theorem dX6_shareLost_15 : decode cX6_shareLost 15 = .ok (.isub, 1) := by decide +kernel
theorem dX6_shareLost_16 : decode cX6_shareLost 16 = .ok (.i2l, 1) := by decide +kernel
theorem dX6_shareLost_17 : decode cX6_shareLost 17 = .ok (.lmul, 1) := by decide +kernel
theorem dX6_shareLost_18 : decode cX6_shareLost 18 = .ok (.lsub, 1) := by decide +kernel
theorem dX6_shareLost_19 : decode cX6_shareLost 19 = .ok (.lstore 6, 2) := by decide +kernel
theorem dX6_shareLost_21 : decode cX6_shareLost 21 = .ok (.lload 6, 2) := by decide +kernel
theorem dX6_shareLost_23 : decode cX6_shareLost 23 = .ok (.lload 4, 2) := by decide +kernel
theorem dX6_shareLost_25 : decode cX6_shareLost 25 = .ok (.invokestatic 110, 3) := by decide +kernel
theorem dX6_shareLost_28 : decode cX6_shareLost 28 = .ok (.lstore 8, 2) := by decide +kernel
theorem dX6_shareLost_30 : decode cX6_shareLost 30 = .ok (.lload 8, 2) := by decide +kernel
theorem dX6_shareLost_32 : decode cX6_shareLost 32 = .ok (.lconst 1, 1) := by decide +kernel
theorem dX6_shareLost_33 : decode cX6_shareLost 33 = .ok (.lcmp, 1) := by decide +kernel
theorem dX6_shareLost_34 : decode cX6_shareLost 34 = .ok (.ifCond .le 17, 3) := by decide +kernel
theorem dX6_shareLost_37 : decode cX6_shareLost 37 = .ok (.lload 6, 2) := by decide +kernel
theorem dX6_shareLost_39 : decode cX6_shareLost 39 = .ok (.lload 8, 2) := by decide +kernel
theorem dX6_shareLost_41 : decode cX6_shareLost 41 = .ok (.ldiv, 1) := by decide +kernel
theorem dX6_shareLost_42 : decode cX6_shareLost 42 = .ok (.lstore 6, 2) := by decide +kernel
theorem dX6_shareLost_44 : decode cX6_shareLost 44 = .ok (.lload 4, 2) := by decide +kernel
theorem dX6_shareLost_46 : decode cX6_shareLost 46 = .ok (.lload 8, 2) := by decide +kernel
theorem dX6_shareLost_48 : decode cX6_shareLost 48 = .ok (.ldiv, 1) := by decide +kernel
theorem dX6_shareLost_49 : decode cX6_shareLost 49 = .ok (.lstore 4, 2) := by decide +kernel
theorem dX6_shareLost_51 : decode cX6_shareLost 51 = .ok (.iload_n 3, 1) := by decide +kernel
theorem dX6_shareLost_52 : decode cX6_shareLost 52 = .ok (.ifCond .ne 8, 3) := by decide +kernel
theorem dX6_shareLost_55 : decode cX6_shareLost 55 = .ok (.lload 6, 2) := by decide +kernel
theorem dX6_shareLost_57 : decode cX6_shareLost 57 = .ok (.goto 5, 3) := by decide +kernel
theorem dX6_shareLost_60 : decode cX6_shareLost 60 = .ok (.lload 4, 2) := by decide +kernel
theorem dX6_shareLost_62 : decode cX6_shareLost 62 = .ok (.lstore 10, 2) := by decide +kernel
theorem dX6_shareLost_64 : decode cX6_shareLost 64 = .ok (.lconst 1, 1) := by decide +kernel
theorem dX6_shareLost_65 : decode cX6_shareLost 65 = .ok (.lstore 12, 2) := by decide +kernel
theorem dX6_shareLost_67 : decode cX6_shareLost 67 = .ok (.iconst 0, 1) := by decide +kernel
theorem dX6_shareLost_68 : decode cX6_shareLost 68 = .ok (.istore 14, 2) := by decide +kernel
theorem dX6_shareLost_70 : decode cX6_shareLost 70 = .ok (.iload 14, 2) := by decide +kernel
theorem dX6_shareLost_72 : decode cX6_shareLost 72 = .ok (.aload_n 0, 1) := by decide +kernel
theorem dX6_shareLost_73 : decode cX6_shareLost 73 = .ok (.getfield 18, 3) := by decide +kernel
theorem dX6_shareLost_76 : decode cX6_shareLost 76 = .ok (.if_icmp .ge 16, 3) := by decide +kernel
theorem dX6_shareLost_79 : decode cX6_shareLost 79 = .ok (.lload 12, 2) := by decide +kernel
theorem dX6_shareLost_81 : decode cX6_shareLost 81 = .ok (.lload 10, 2) := by decide +kernel
theorem dX6_shareLost_83 : decode cX6_shareLost 83 = .ok (.lmul, 1) := by decide +kernel
theorem dX6_shareLost_84 : decode cX6_shareLost 84 = .ok (.lstore 12, 2) := by decide +kernel
theorem dX6_shareLost_86 : decode cX6_shareLost 86 = .ok (.iinc 14 1, 3) := by decide +kernel
theorem dX6_shareLost_89 : decode cX6_shareLost 89 = .ok (.goto (-19), 3) := by decide +kernel
theorem dX6_shareLost_92 : decode cX6_shareLost 92 = .ok (.lload 12, 2) := by decide +kernel
theorem dX6_shareLost_94 : decode cX6_shareLost 94 = .ok (.lreturn, 1) := by decide +kernel
theorem dX6_commonDivisor_0 : decode cX6_commonDivisor 0 = .ok (.lload_n 0, 1) := by decide +kernel
theorem dX6_commonDivisor_1 : decode cX6_commonDivisor 1 = .ok (.lstore 4, 2) := by decide +kernel
theorem dX6_commonDivisor_3 : decode cX6_commonDivisor 3 = .ok (.lload_n 2, 1) := by decide +kernel
theorem dX6_commonDivisor_4 : decode cX6_commonDivisor 4 = .ok (.lstore 6, 2) := by decide +kernel
theorem dX6_commonDivisor_6 : decode cX6_commonDivisor 6 = .ok (.iconst 0, 1) := by decide +kernel
theorem dX6_commonDivisor_7 : decode cX6_commonDivisor 7 = .ok (.istore 8, 2) := by decide +kernel
theorem dX6_commonDivisor_9 : decode cX6_commonDivisor 9 = .ok (.iload 8, 2) := by decide +kernel
theorem dX6_commonDivisor_11 : decode cX6_commonDivisor 11 = .ok (.bipush 100, 2) := by decide +kernel
theorem dX6_commonDivisor_13 : decode cX6_commonDivisor 13 = .ok (.if_icmp .ge 31, 3) := by decide +kernel
theorem dX6_commonDivisor_16 : decode cX6_commonDivisor 16 = .ok (.lload 6, 2) := by decide +kernel
theorem dX6_commonDivisor_18 : decode cX6_commonDivisor 18 = .ok (.lconst 0, 1) := by decide +kernel
theorem dX6_commonDivisor_19 : decode cX6_commonDivisor 19 = .ok (.lcmp, 1) := by decide +kernel
theorem dX6_commonDivisor_20 : decode cX6_commonDivisor 20 = .ok (.ifCond .eq 24, 3) := by decide +kernel
theorem dX6_commonDivisor_23 : decode cX6_commonDivisor 23 = .ok (.lload 4, 2) := by decide +kernel
theorem dX6_commonDivisor_25 : decode cX6_commonDivisor 25 = .ok (.lload 6, 2) := by decide +kernel
theorem dX6_commonDivisor_27 : decode cX6_commonDivisor 27 = .ok (.lrem, 1) := by decide +kernel
theorem dX6_commonDivisor_28 : decode cX6_commonDivisor 28 = .ok (.lstore 9, 2) := by decide +kernel
theorem dX6_commonDivisor_30 : decode cX6_commonDivisor 30 = .ok (.lload 6, 2) := by decide +kernel
theorem dX6_commonDivisor_32 : decode cX6_commonDivisor 32 = .ok (.lstore 4, 2) := by decide +kernel
theorem dX6_commonDivisor_34 : decode cX6_commonDivisor 34 = .ok (.lload 9, 2) := by decide +kernel
theorem dX6_commonDivisor_36 : decode cX6_commonDivisor 36 = .ok (.lstore 6, 2) := by decide +kernel
theorem dX6_commonDivisor_38 : decode cX6_commonDivisor 38 = .ok (.iinc 8 1, 3) := by decide +kernel
theorem dX6_commonDivisor_41 : decode cX6_commonDivisor 41 = .ok (.goto (-32), 3) := by decide +kernel
theorem dX6_commonDivisor_44 : decode cX6_commonDivisor 44 = .ok (.lload 4, 2) := by decide +kernel
theorem dX6_commonDivisor_46 : decode cX6_commonDivisor 46 = .ok (.lreturn, 1) := by decide +kernel
theorem dX6_switchOf_0 : decode cX6_switchOf 0 = .ok (.aload_n 0, 1) := by decide +kernel
theorem dX6_switchOf_1 : decode cX6_switchOf 1 = .ok (.getfield 15, 3) := by decide +kernel
theorem dX6_switchOf_4 : decode cX6_switchOf 4 = .ok (.ifCond .le 12, 3) := by decide +kernel
theorem dX6_switchOf_7 : decode cX6_switchOf 7 = .ok (.iload_n 1, 1) := by decide +kernel
theorem dX6_switchOf_8 : decode cX6_switchOf 8 = .ok (.aload_n 0, 1) := by decide +kernel
theorem dX6_switchOf_9 : decode cX6_switchOf 9 = .ok (.getfield 15, 3) := by decide +kernel
theorem dX6_switchOf_12 : decode cX6_switchOf 12 = .ok (.idiv, 1) := by decide +kernel
theorem dX6_switchOf_13 : decode cX6_switchOf 13 = .ok (.goto 4, 3) := by decide +kernel
theorem dX6_switchOf_16 : decode cX6_switchOf 16 = .ok (.iconst 0, 1) := by decide +kernel
theorem dX6_switchOf_17 : decode cX6_switchOf 17 = .ok (.ireturn, 1) := by decide +kernel
theorem dX6_forgetCalls_0 : decode cX6_forgetCalls 0 = .ok (.aload_n 0, 1) := by decide +kernel
theorem dX6_forgetCalls_1 : decode cX6_forgetCalls 1 = .ok (.iconst 0, 1) := by decide +kernel
theorem dX6_forgetCalls_2 : decode cX6_forgetCalls 2 = .ok (.putfield 21, 3) := by decide +kernel
theorem dX6_forgetCalls_5 : decode cX6_forgetCalls 5 = .ok (.aload_n 0, 1) := by decide +kernel
theorem dX6_forgetCalls_6 : decode cX6_forgetCalls 6 = .ok (.getfield 24, 3) := by decide +kernel
theorem dX6_forgetCalls_9 : decode cX6_forgetCalls 9 = .ok (.bipush (-9), 2) := by decide +kernel
theorem dX6_forgetCalls_11 : decode cX6_forgetCalls 11 = .ok (.invokestatic 114, 3) := by decide +kernel
theorem dX6_forgetCalls_14 : decode cX6_forgetCalls 14 = .ok (.aload_n 0, 1) := by decide +kernel
theorem dX6_forgetCalls_15 : decode cX6_forgetCalls 15 = .ok (.getfield 28, 3) := by decide +kernel
theorem dX6_forgetCalls_18 : decode cX6_forgetCalls 18 = .ok (.bipush (-9), 2) := by decide +kernel
theorem dX6_forgetCalls_20 : decode cX6_forgetCalls 20 = .ok (.invokestatic 114, 3) := by decide +kernel
theorem dX6_forgetCalls_23 : decode cX6_forgetCalls 23 = .ok (.aload_n 0, 1) := by decide +kernel
theorem dX6_forgetCalls_24 : decode cX6_forgetCalls 24 = .ok (.getfield 31, 3) := by decide +kernel
theorem dX6_forgetCalls_27 : decode cX6_forgetCalls 27 = .ok (.bipush (-9), 2) := by decide +kernel
theorem dX6_forgetCalls_29 : decode cX6_forgetCalls 29 = .ok (.invokestatic 114, 3) := by decide +kernel
theorem dX6_forgetCalls_32 : decode cX6_forgetCalls 32 = .ok (.aload_n 0, 1) := by decide +kernel
theorem dX6_forgetCalls_33 : decode cX6_forgetCalls 33 = .ok (.invokevirtual 101, 3) := by decide +kernel
theorem dX6_forgetCalls_36 : decode cX6_forgetCalls 36 = .ok (.return_, 1) := by decide +kernel
theorem dX6_freeAllLinks_0 : decode cX6_freeAllLinks 0 = .ok (.iconst 0, 1) := by decide +kernel
theorem dX6_freeAllLinks_1 : decode cX6_freeAllLinks 1 = .ok (.istore_n 1, 1) := by decide +kernel
theorem dX6_freeAllLinks_2 : decode cX6_freeAllLinks 2 = .ok (.iload_n 1, 1) := by decide +kernel
theorem dX6_freeAllLinks_3 : decode cX6_freeAllLinks 3 = .ok (.iconst 5, 1) := by decide +kernel
theorem dX6_freeAllLinks_4 : decode cX6_freeAllLinks 4 = .ok (.if_icmp .ge 31, 3) := by decide +kernel
theorem dX6_freeAllLinks_7 : decode cX6_freeAllLinks 7 = .ok (.aload_n 0, 1) := by decide +kernel
theorem dX6_freeAllLinks_8 : decode cX6_freeAllLinks 8 = .ok (.getfield 39, 3) := by decide +kernel
theorem dX6_freeAllLinks_11 : decode cX6_freeAllLinks 11 = .ok (.iload_n 1, 1) := by decide +kernel
theorem dX6_freeAllLinks_12 : decode cX6_freeAllLinks 12 = .ok (.aaload, 1) := by decide +kernel
theorem dX6_freeAllLinks_13 : decode cX6_freeAllLinks 13 = .ok (.bipush (-9), 2) := by decide +kernel
theorem dX6_freeAllLinks_15 : decode cX6_freeAllLinks 15 = .ok (.invokestatic 114, 3) := by decide +kernel
theorem dX6_freeAllLinks_18 : decode cX6_freeAllLinks 18 = .ok (.aload_n 0, 1) := by decide +kernel
theorem dX6_freeAllLinks_19 : decode cX6_freeAllLinks 19 = .ok (.getfield 42, 3) := by decide +kernel
theorem dX6_freeAllLinks_22 : decode cX6_freeAllLinks 22 = .ok (.iload_n 1, 1) := by decide +kernel
theorem dX6_freeAllLinks_23 : decode cX6_freeAllLinks 23 = .ok (.aaload, 1) := by decide +kernel
theorem dX6_freeAllLinks_24 : decode cX6_freeAllLinks 24 = .ok (.bipush (-9), 2) := by decide +kernel
theorem dX6_freeAllLinks_26 : decode cX6_freeAllLinks 26 = .ok (.invokestatic 114, 3) := by decide +kernel
theorem dX6_freeAllLinks_29 : decode cX6_freeAllLinks 29 = .ok (.iinc 1 1, 3) := by decide +kernel
theorem dX6_freeAllLinks_32 : decode cX6_freeAllLinks 32 = .ok (.goto (-30), 3) := by decide +kernel
theorem dX6_freeAllLinks_35 : decode cX6_freeAllLinks 35 = .ok (.return_, 1) := by decide +kernel
theorem dX6_join_0 : decode cX6_join 0 = .ok (.aload_n 0, 1) := by decide +kernel
theorem dX6_join_1 : decode cX6_join 1 = .ok (.getfield 24, 3) := by decide +kernel
theorem dX6_join_4 : decode cX6_join 4 = .ok (.iload_n 1, 1) := by decide +kernel
theorem dX6_join_5 : decode cX6_join 5 = .ok (.iload_n 2, 1) := by decide +kernel
theorem dX6_join_6 : decode cX6_join 6 = .ok (.iastore, 1) := by decide +kernel
theorem dX6_join_7 : decode cX6_join 7 = .ok (.aload_n 0, 1) := by decide +kernel
theorem dX6_join_8 : decode cX6_join 8 = .ok (.getfield 28, 3) := by decide +kernel
theorem dX6_join_11 : decode cX6_join 11 = .ok (.iload_n 2, 1) := by decide +kernel
theorem dX6_join_12 : decode cX6_join 12 = .ok (.iload_n 1, 1) := by decide +kernel
theorem dX6_join_13 : decode cX6_join 13 = .ok (.iastore, 1) := by decide +kernel
theorem dX6_join_14 : decode cX6_join 14 = .ok (.aload_n 0, 1) := by decide +kernel
theorem dX6_join_15 : decode cX6_join 15 = .ok (.dup, 1) := by decide +kernel
theorem dX6_join_16 : decode cX6_join 16 = .ok (.getfield 21, 3) := by decide +kernel
theorem dX6_join_19 : decode cX6_join 19 = .ok (.iconst 1, 1) := by decide +kernel
theorem dX6_join_20 : decode cX6_join 20 = .ok (.iadd, 1) := by decide +kernel
theorem dX6_join_21 : decode cX6_join 21 = .ok (.putfield 21, 3) := by decide +kernel
theorem dX6_join_24 : decode cX6_join 24 = .ok (.return_, 1) := by decide +kernel
theorem dX6_goBy_0 : decode cX6_goBy 0 = .ok (.aload_n 0, 1) := by decide +kernel
theorem dX6_goBy_1 : decode cX6_goBy 1 = .ok (.getfield 31, 3) := by decide +kernel
theorem dX6_goBy_4 : decode cX6_goBy 4 = .ok (.iload_n 1, 1) := by decide +kernel
theorem dX6_goBy_5 : decode cX6_goBy 5 = .ok (.iload_n 2, 1) := by decide +kernel
theorem dX6_goBy_6 : decode cX6_goBy 6 = .ok (.iastore, 1) := by decide +kernel
theorem dX6_goBy_7 : decode cX6_goBy 7 = .ok (.aload_n 0, 1) := by decide +kernel
theorem dX6_goBy_8 : decode cX6_goBy 8 = .ok (.getfield 39, 3) := by decide +kernel
theorem dX6_goBy_11 : decode cX6_goBy 11 = .ok (.aload_n 0, 1) := by decide +kernel
theorem dX6_goBy_12 : decode cX6_goBy 12 = .ok (.iload_n 1, 1) := by decide +kernel
theorem dX6_goBy_13 : decode cX6_goBy 13 = .ok (.invokevirtual 69, 3) := by decide +kernel
theorem dX6_goBy_16 : decode cX6_goBy 16 = .ok (.aaload, 1) := by decide +kernel
theorem dX6_goBy_17 : decode cX6_goBy 17 = .ok (.iload_n 2, 1) := by decide +kernel
theorem dX6_goBy_18 : decode cX6_goBy 18 = .ok (.iload_n 1, 1) := by decide +kernel
theorem dX6_goBy_19 : decode cX6_goBy 19 = .ok (.iastore, 1) := by decide +kernel
theorem dX6_goBy_20 : decode cX6_goBy 20 = .ok (.aload_n 0, 1) := by decide +kernel
theorem dX6_goBy_21 : decode cX6_goBy 21 = .ok (.getfield 42, 3) := by decide +kernel
theorem dX6_goBy_24 : decode cX6_goBy 24 = .ok (.aload_n 0, 1) := by decide +kernel
theorem dX6_goBy_25 : decode cX6_goBy 25 = .ok (.aload_n 0, 1) := by decide +kernel
theorem dX6_goBy_26 : decode cX6_goBy 26 = .ok (.getfield 24, 3) := by decide +kernel
theorem dX6_goBy_29 : decode cX6_goBy 29 = .ok (.iload_n 1, 1) := by decide +kernel
theorem dX6_goBy_30 : decode cX6_goBy 30 = .ok (.iaload, 1) := by decide +kernel
theorem dX6_goBy_31 : decode cX6_goBy 31 = .ok (.invokevirtual 69, 3) := by decide +kernel
theorem dX6_goBy_34 : decode cX6_goBy 34 = .ok (.aaload, 1) := by decide +kernel
theorem dX6_goBy_35 : decode cX6_goBy 35 = .ok (.iload_n 2, 1) := by decide +kernel
theorem dX6_goBy_36 : decode cX6_goBy 36 = .ok (.iload_n 1, 1) := by decide +kernel
theorem dX6_goBy_37 : decode cX6_goBy 37 = .ok (.iastore, 1) := by decide +kernel
theorem dX6_goBy_38 : decode cX6_goBy 38 = .ok (.return_, 1) := by decide +kernel
theorem dX6_freeLinks_0 : decode cX6_freeLinks 0 = .ok (.aload_n 0, 1) := by decide +kernel
theorem dX6_freeLinks_1 : decode cX6_freeLinks 1 = .ok (.getfield 31, 3) := by decide +kernel
theorem dX6_freeLinks_4 : decode cX6_freeLinks 4 = .ok (.iload_n 1, 1) := by decide +kernel
theorem dX6_freeLinks_5 : decode cX6_freeLinks 5 = .ok (.iaload, 1) := by decide +kernel
theorem dX6_freeLinks_6 : decode cX6_freeLinks 6 = .ok (.istore_n 2, 1) := by decide +kernel
theorem dX6_freeLinks_7 : decode cX6_freeLinks 7 = .ok (.aload_n 0, 1) := by decide +kernel
theorem dX6_freeLinks_8 : decode cX6_freeLinks 8 = .ok (.getfield 39, 3) := by decide +kernel
theorem dX6_freeLinks_11 : decode cX6_freeLinks 11 = .ok (.aload_n 0, 1) := by decide +kernel
theorem dX6_freeLinks_12 : decode cX6_freeLinks 12 = .ok (.iload_n 1, 1) := by decide +kernel
theorem dX6_freeLinks_13 : decode cX6_freeLinks 13 = .ok (.invokevirtual 69, 3) := by decide +kernel
theorem dX6_freeLinks_16 : decode cX6_freeLinks 16 = .ok (.aaload, 1) := by decide +kernel
theorem dX6_freeLinks_17 : decode cX6_freeLinks 17 = .ok (.iload_n 2, 1) := by decide +kernel
theorem dX6_freeLinks_18 : decode cX6_freeLinks 18 = .ok (.bipush (-9), 2) := by decide +kernel
theorem dX6_freeLinks_20 : decode cX6_freeLinks 20 = .ok (.iastore, 1) := by decide +kernel
theorem dX6_freeLinks_21 : decode cX6_freeLinks 21 = .ok (.aload_n 0, 1) := by decide +kernel
theorem dX6_freeLinks_22 : decode cX6_freeLinks 22 = .ok (.getfield 42, 3) := by decide +kernel
theorem dX6_freeLinks_25 : decode cX6_freeLinks 25 = .ok (.aload_n 0, 1) := by decide +kernel
theorem dX6_freeLinks_26 : decode cX6_freeLinks 26 = .ok (.aload_n 0, 1) := by decide +kernel
theorem dX6_freeLinks_27 : decode cX6_freeLinks 27 = .ok (.getfield 24, 3) := by decide +kernel
theorem dX6_freeLinks_30 : decode cX6_freeLinks 30 = .ok (.iload_n 1, 1) := by decide +kernel
theorem dX6_freeLinks_31 : decode cX6_freeLinks 31 = .ok (.iaload, 1) := by decide +kernel
theorem dX6_freeLinks_32 : decode cX6_freeLinks 32 = .ok (.invokevirtual 69, 3) := by decide +kernel
theorem dX6_freeLinks_35 : decode cX6_freeLinks 35 = .ok (.aaload, 1) := by decide +kernel
theorem dX6_freeLinks_36 : decode cX6_freeLinks 36 = .ok (.iload_n 2, 1) := by decide +kernel
theorem dX6_freeLinks_37 : decode cX6_freeLinks 37 = .ok (.bipush (-9), 2) := by decide +kernel
theorem dX6_freeLinks_39 : decode cX6_freeLinks 39 = .ok (.iastore, 1) := by decide +kernel
theorem dX6_freeLinks_40 : decode cX6_freeLinks 40 = .ok (.aload_n 0, 1) := by decide +kernel
theorem dX6_freeLinks_41 : decode cX6_freeLinks 41 = .ok (.getfield 31, 3) := by decide +kernel
theorem dX6_freeLinks_44 : decode cX6_freeLinks 44 = .ok (.iload_n 1, 1) := by decide +kernel
theorem dX6_freeLinks_45 : decode cX6_freeLinks 45 = .ok (.bipush (-9), 2) := by decide +kernel
theorem dX6_freeLinks_47 : decode cX6_freeLinks 47 = .ok (.iastore, 1) := by decide +kernel
theorem dX6_freeLinks_48 : decode cX6_freeLinks 48 = .ok (.return_, 1) := by decide +kernel
theorem dX6_followChain_0 : decode cX6_followChain 0 = .ok (.iconst 0, 1) := by decide +kernel
theorem dX6_followChain_1 : decode cX6_followChain 1 = .ok (.istore 4, 2) := by decide +kernel
theorem dX6_followChain_3 : decode cX6_followChain 3 = .ok (.aload_n 0, 1) := by decide +kernel
theorem dX6_followChain_4 : decode cX6_followChain 4 = .ok (.getfield 42, 3) := by decide +kernel
theorem dX6_followChain_7 : decode cX6_followChain 7 = .ok (.iload_n 1, 1) := by decide +kernel
theorem dX6_followChain_8 : decode cX6_followChain 8 = .ok (.aaload, 1) := by decide +kernel
theorem dX6_followChain_9 : decode cX6_followChain 9 = .ok (.iload_n 2, 1) := by decide +kernel
theorem dX6_followChain_10 : decode cX6_followChain 10 = .ok (.iaload, 1) := by decide +kernel
theorem dX6_followChain_11 : decode cX6_followChain 11 = .ok (.istore 5, 2) := by decide +kernel
theorem dX6_followChain_13 : decode cX6_followChain 13 = .ok (.iconst 0, 1) := by decide +kernel
theorem dX6_followChain_14 : decode cX6_followChain 14 = .ok (.istore 6, 2) := by decide +kernel
theorem dX6_followChain_16 : decode cX6_followChain 16 = .ok (.iload 6, 2) := by decide +kernel
theorem dX6_followChain_18 : decode cX6_followChain 18 = .ok (.bipush 20, 2) := by decide +kernel
theorem dX6_followChain_20 : decode cX6_followChain 20 = .ok (.if_icmp .ge 86, 3) := by decide +kernel
theorem dX6_followChain_23 : decode cX6_followChain 23 = .ok (.iload 5, 2) := by decide +kernel
theorem dX6_followChain_25 : decode cX6_followChain 25 = .ok (.bipush (-9), 2) := by decide +kernel
theorem dX6_followChain_27 : decode cX6_followChain 27 = .ok (.if_icmp .eq 79, 3) := by decide +kernel
theorem dX6_followChain_30 : decode cX6_followChain 30 = .ok (.aload_n 0, 1) := by decide +kernel
theorem dX6_followChain_31 : decode cX6_followChain 31 = .ok (.getfield 45, 3) := by decide +kernel
theorem dX6_followChain_34 : decode cX6_followChain 34 = .ok (.iload 6, 2) := by decide +kernel
theorem dX6_followChain_36 : decode cX6_followChain 36 = .ok (.iload 5, 2) := by decide +kernel
theorem dX6_followChain_38 : decode cX6_followChain 38 = .ok (.iastore, 1) := by decide +kernel
theorem dX6_followChain_39 : decode cX6_followChain 39 = .ok (.iload 6, 2) := by decide +kernel
theorem dX6_followChain_41 : decode cX6_followChain 41 = .ok (.iconst 1, 1) := by decide +kernel
theorem dX6_followChain_42 : decode cX6_followChain 42 = .ok (.iadd, 1) := by decide +kernel
theorem dX6_followChain_43 : decode cX6_followChain 43 = .ok (.istore 4, 2) := by decide +kernel
theorem dX6_followChain_45 : decode cX6_followChain 45 = .ok (.iload 6, 2) := by decide +kernel
theorem dX6_followChain_47 : decode cX6_followChain 47 = .ok (.iconst 2, 1) := by decide +kernel
theorem dX6_followChain_48 : decode cX6_followChain 48 = .ok (.irem, 1) := by decide +kernel
theorem dX6_followChain_49 : decode cX6_followChain 49 = .ok (.ifCond .ne 7, 3) := by decide +kernel
theorem dX6_followChain_52 : decode cX6_followChain 52 = .ok (.iconst 1, 1) := by decide +kernel
theorem dX6_followChain_53 : decode cX6_followChain 53 = .ok (.goto 4, 3) := by decide +kernel
theorem dX6_followChain_56 : decode cX6_followChain 56 = .ok (.iconst 0, 1) := by decide +kernel
theorem dX6_followChain_57 : decode cX6_followChain 57 = .ok (.istore 7, 2) := by decide +kernel
theorem dX6_followChain_59 : decode cX6_followChain 59 = .ok (.iload 7, 2) := by decide +kernel
theorem dX6_followChain_61 : decode cX6_followChain 61 = .ok (.ifCond .eq 19, 3) := by decide +kernel
theorem dX6_followChain_64 : decode cX6_followChain 64 = .ok (.aload_n 0, 1) := by decide +kernel
theorem dX6_followChain_65 : decode cX6_followChain 65 = .ok (.getfield 39, 3) := by decide +kernel
theorem dX6_followChain_68 : decode cX6_followChain 68 = .ok (.aload_n 0, 1) := by decide +kernel
theorem dX6_followChain_69 : decode cX6_followChain 69 = .ok (.iload 5, 2) := by decide +kernel
theorem dX6_followChain_71 : decode cX6_followChain 71 = .ok (.invokevirtual 69, 3) := by decide +kernel
theorem dX6_followChain_74 : decode cX6_followChain 74 = .ok (.aaload, 1) := by decide +kernel
theorem dX6_followChain_75 : decode cX6_followChain 75 = .ok (.iload_n 3, 1) := by decide +kernel
theorem dX6_followChain_76 : decode cX6_followChain 76 = .ok (.iaload, 1) := by decide +kernel
theorem dX6_followChain_77 : decode cX6_followChain 77 = .ok (.goto 21, 3) := by decide +kernel
theorem dX6_followChain_80 : decode cX6_followChain 80 = .ok (.aload_n 0, 1) := by decide +kernel
theorem dX6_followChain_81 : decode cX6_followChain 81 = .ok (.getfield 42, 3) := by decide +kernel
theorem dX6_followChain_84 : decode cX6_followChain 84 = .ok (.aload_n 0, 1) := by decide +kernel
theorem dX6_followChain_85 : decode cX6_followChain 85 = .ok (.aload_n 0, 1) := by decide +kernel
theorem dX6_followChain_86 : decode cX6_followChain 86 = .ok (.getfield 24, 3) := by decide +kernel
theorem dX6_followChain_89 : decode cX6_followChain 89 = .ok (.iload 5, 2) := by decide +kernel
theorem dX6_followChain_91 : decode cX6_followChain 91 = .ok (.iaload, 1) := by decide +kernel
theorem dX6_followChain_92 : decode cX6_followChain 92 = .ok (.invokevirtual 69, 3) := by decide +kernel
theorem dX6_followChain_95 : decode cX6_followChain 95 = .ok (.aaload, 1) := by decide +kernel
theorem dX6_followChain_96 : decode cX6_followChain 96 = .ok (.iload_n 2, 1) := by decide +kernel
theorem dX6_followChain_97 : decode cX6_followChain 97 = .ok (.iaload, 1) := by decide +kernel
theorem dX6_followChain_98 : decode cX6_followChain 98 = .ok (.istore 5, 2) := by decide +kernel
theorem dX6_followChain_100 : decode cX6_followChain 100 = .ok (.iinc 6 1, 3) := by decide +kernel
theorem dX6_followChain_103 : decode cX6_followChain 103 = .ok (.goto (-87), 3) := by decide +kernel
theorem dX6_followChain_106 : decode cX6_followChain 106 = .ok (.iload 4, 2) := by decide +kernel
theorem dX6_followChain_108 : decode cX6_followChain 108 = .ok (.ireturn, 1) := by decide +kernel
theorem dX6_moveChain_0 : decode cX6_moveChain 0 = .ok (.aload_n 0, 1) := by decide +kernel
theorem dX6_moveChain_1 : decode cX6_moveChain 1 = .ok (.iload_n 1, 1) := by decide +kernel
theorem dX6_moveChain_2 : decode cX6_moveChain 2 = .ok (.iload_n 2, 1) := by decide +kernel
theorem dX6_moveChain_3 : decode cX6_moveChain 3 = .ok (.iload_n 3, 1) := by decide +kernel
theorem dX6_moveChain_4 : decode cX6_moveChain 4 = .ok (.invokevirtual 88, 3) := by decide +kernel
theorem dX6_moveChain_7 : decode cX6_moveChain 7 = .ok (.istore 4, 2) := by decide +kernel
theorem dX6_moveChain_9 : decode cX6_moveChain 9 = .ok (.iconst 0, 1) := by decide +kernel
theorem dX6_moveChain_10 : decode cX6_moveChain 10 = .ok (.istore 5, 2) := by decide +kernel
theorem dX6_moveChain_12 : decode cX6_moveChain 12 = .ok (.iload 5, 2) := by decide +kernel
theorem dX6_moveChain_14 : decode cX6_moveChain 14 = .ok (.iload 4, 2) := by decide +kernel
theorem dX6_moveChain_16 : decode cX6_moveChain 16 = .ok (.if_icmp .ge 20, 3) := by decide +kernel
theorem dX6_moveChain_19 : decode cX6_moveChain 19 = .ok (.aload_n 0, 1) := by decide +kernel
theorem dX6_moveChain_20 : decode cX6_moveChain 20 = .ok (.aload_n 0, 1) := by decide +kernel
theorem dX6_moveChain_21 : decode cX6_moveChain 21 = .ok (.getfield 45, 3) := by decide +kernel
theorem dX6_moveChain_24 : decode cX6_moveChain 24 = .ok (.iload 5, 2) := by decide +kernel
theorem dX6_moveChain_26 : decode cX6_moveChain 26 = .ok (.iaload, 1) := by decide +kernel
theorem dX6_moveChain_27 : decode cX6_moveChain 27 = .ok (.invokevirtual 92, 3) := by decide +kernel
theorem dX6_moveChain_30 : decode cX6_moveChain 30 = .ok (.iinc 5 1, 3) := by decide +kernel
theorem dX6_moveChain_33 : decode cX6_moveChain 33 = .ok (.goto (-21), 3) := by decide +kernel
theorem dX6_moveChain_36 : decode cX6_moveChain 36 = .ok (.iconst 0, 1) := by decide +kernel
theorem dX6_moveChain_37 : decode cX6_moveChain 37 = .ok (.istore 5, 2) := by decide +kernel
theorem dX6_moveChain_39 : decode cX6_moveChain 39 = .ok (.iload 5, 2) := by decide +kernel
theorem dX6_moveChain_41 : decode cX6_moveChain 41 = .ok (.iload 4, 2) := by decide +kernel
theorem dX6_moveChain_43 : decode cX6_moveChain 43 = .ok (.if_icmp .ge 32, 3) := by decide +kernel
theorem dX6_moveChain_46 : decode cX6_moveChain 46 = .ok (.aload_n 0, 1) := by decide +kernel
theorem dX6_moveChain_47 : decode cX6_moveChain 47 = .ok (.aload_n 0, 1) := by decide +kernel
theorem dX6_moveChain_48 : decode cX6_moveChain 48 = .ok (.getfield 45, 3) := by decide +kernel
theorem dX6_moveChain_51 : decode cX6_moveChain 51 = .ok (.iload 5, 2) := by decide +kernel
theorem dX6_moveChain_53 : decode cX6_moveChain 53 = .ok (.iaload, 1) := by decide +kernel
theorem dX6_moveChain_54 : decode cX6_moveChain 54 = .ok (.iload 5, 2) := by decide +kernel
theorem dX6_moveChain_56 : decode cX6_moveChain 56 = .ok (.iconst 2, 1) := by decide +kernel
theorem dX6_moveChain_57 : decode cX6_moveChain 57 = .ok (.irem, 1) := by decide +kernel
theorem dX6_moveChain_58 : decode cX6_moveChain 58 = .ok (.ifCond .ne 7, 3) := by decide +kernel
theorem dX6_moveChain_61 : decode cX6_moveChain 61 = .ok (.iload_n 3, 1) := by decide +kernel
theorem dX6_moveChain_62 : decode cX6_moveChain 62 = .ok (.goto 4, 3) := by decide +kernel
theorem dX6_moveChain_65 : decode cX6_moveChain 65 = .ok (.iload_n 2, 1) := by decide +kernel
theorem dX6_moveChain_66 : decode cX6_moveChain 66 = .ok (.invokevirtual 77, 3) := by decide +kernel
theorem dX6_moveChain_69 : decode cX6_moveChain 69 = .ok (.iinc 5 1, 3) := by decide +kernel
theorem dX6_moveChain_72 : decode cX6_moveChain 72 = .ok (.goto (-33), 3) := by decide +kernel
theorem dX6_moveChain_75 : decode cX6_moveChain 75 = .ok (.return_, 1) := by decide +kernel
theorem dX6_mendAgain_0 : decode cX6_mendAgain 0 = .ok (.aload_n 0, 1) := by decide +kernel
theorem dX6_mendAgain_1 : decode cX6_mendAgain 1 = .ok (.iload_n 1, 1) := by decide +kernel
theorem dX6_mendAgain_2 : decode cX6_mendAgain 2 = .ok (.aload_n 0, 1) := by decide +kernel
theorem dX6_mendAgain_3 : decode cX6_mendAgain 3 = .ok (.getfield 24, 3) := by decide +kernel
theorem dX6_mendAgain_6 : decode cX6_mendAgain 6 = .ok (.iload_n 1, 1) := by decide +kernel
theorem dX6_mendAgain_7 : decode cX6_mendAgain 7 = .ok (.iaload, 1) := by decide +kernel
theorem dX6_mendAgain_8 : decode cX6_mendAgain 8 = .ok (.invokevirtual 80, 3) := by decide +kernel
theorem dX6_mendAgain_11 : decode cX6_mendAgain 11 = .ok (.bipush (-9), 2) := by decide +kernel
theorem dX6_mendAgain_13 : decode cX6_mendAgain 13 = .ok (.if_icmp .ne 5, 3) := by decide +kernel
theorem dX6_mendAgain_16 : decode cX6_mendAgain 16 = .ok (.iconst 0, 1) := by decide +kernel
theorem dX6_mendAgain_17 : decode cX6_mendAgain 17 = .ok (.ireturn, 1) := by decide +kernel
theorem dX6_mendAgain_18 : decode cX6_mendAgain 18 = .ok (.aload_n 0, 1) := by decide +kernel
theorem dX6_mendAgain_19 : decode cX6_mendAgain 19 = .ok (.iload_n 1, 1) := by decide +kernel
theorem dX6_mendAgain_20 : decode cX6_mendAgain 20 = .ok (.invokevirtual 84, 3) := by decide +kernel
theorem dX6_mendAgain_23 : decode cX6_mendAgain 23 = .ok (.iconst 1, 1) := by decide +kernel
theorem dX6_mendAgain_24 : decode cX6_mendAgain 24 = .ok (.ireturn, 1) := by decide +kernel
theorem dX6_goByBest_0 : decode cX6_goByBest 0 = .ok (.aload_n 0, 1) := by decide +kernel
theorem dX6_goByBest_1 : decode cX6_goByBest 1 = .ok (.aload_n 0, 1) := by decide +kernel
theorem dX6_goByBest_2 : decode cX6_goByBest 2 = .ok (.aload_n 0, 1) := by decide +kernel
theorem dX6_goByBest_3 : decode cX6_goByBest 3 = .ok (.getfield 24, 3) := by decide +kernel
theorem dX6_goByBest_6 : decode cX6_goByBest 6 = .ok (.iload_n 1, 1) := by decide +kernel
theorem dX6_goByBest_7 : decode cX6_goByBest 7 = .ok (.iaload, 1) := by decide +kernel
theorem dX6_goByBest_8 : decode cX6_goByBest 8 = .ok (.invokevirtual 69, 3) := by decide +kernel
theorem dX6_goByBest_11 : decode cX6_goByBest 11 = .ok (.aload_n 0, 1) := by decide +kernel
theorem dX6_goByBest_12 : decode cX6_goByBest 12 = .ok (.getfield 48, 3) := by decide +kernel
theorem dX6_goByBest_15 : decode cX6_goByBest 15 = .ok (.aload_n 0, 1) := by decide +kernel
theorem dX6_goByBest_16 : decode cX6_goByBest 16 = .ok (.getfield 51, 3) := by decide +kernel
theorem dX6_goByBest_19 : decode cX6_goByBest 19 = .ok (.invokevirtual 120, 3) := by decide +kernel
theorem dX6_goByBest_22 : decode cX6_goByBest 22 = .ok (.aload_n 0, 1) := by decide +kernel
theorem dX6_goByBest_23 : decode cX6_goByBest 23 = .ok (.iload_n 1, 1) := by decide +kernel
theorem dX6_goByBest_24 : decode cX6_goByBest 24 = .ok (.aload_n 0, 1) := by decide +kernel
theorem dX6_goByBest_25 : decode cX6_goByBest 25 = .ok (.getfield 48, 3) := by decide +kernel
theorem dX6_goByBest_28 : decode cX6_goByBest 28 = .ok (.invokevirtual 77, 3) := by decide +kernel
theorem dX6_goByBest_31 : decode cX6_goByBest 31 = .ok (.return_, 1) := by decide +kernel
theorem dX6_goBackToEarlier_0 : decode cX6_goBackToEarlier 0 = .ok (.aload_n 0, 1) := by decide +kernel
theorem dX6_goBackToEarlier_1 : decode cX6_goBackToEarlier 1 = .ok (.invokevirtual 101, 3) := by decide +kernel
theorem dX6_goBackToEarlier_4 : decode cX6_goBackToEarlier 4 = .ok (.iconst 0, 1) := by decide +kernel
theorem dX6_goBackToEarlier_5 : decode cX6_goBackToEarlier 5 = .ok (.istore_n 1, 1) := by decide +kernel
theorem dX6_goBackToEarlier_6 : decode cX6_goBackToEarlier 6 = .ok (.iload_n 1, 1) := by decide +kernel
theorem dX6_goBackToEarlier_7 : decode cX6_goBackToEarlier 7 = .ok (.aload_n 0, 1) := by decide +kernel
theorem dX6_goBackToEarlier_8 : decode cX6_goBackToEarlier 8 = .ok (.invokevirtual 57, 3) := by decide +kernel
theorem dX6_goBackToEarlier_11 : decode cX6_goBackToEarlier 11 = .ok (.if_icmp .ge 31, 3) := by decide +kernel
theorem dX6_goBackToEarlier_14 : decode cX6_goBackToEarlier 14 = .ok (.aload_n 0, 1) := by decide +kernel
theorem dX6_goBackToEarlier_15 : decode cX6_goBackToEarlier 15 = .ok (.getfield 24, 3) := by decide +kernel
theorem dX6_goBackToEarlier_18 : decode cX6_goBackToEarlier 18 = .ok (.iload_n 1, 1) := by decide +kernel
theorem dX6_goBackToEarlier_19 : decode cX6_goBackToEarlier 19 = .ok (.iaload, 1) := by decide +kernel
theorem dX6_goBackToEarlier_20 : decode cX6_goBackToEarlier 20 = .ok (.bipush (-9), 2) := by decide +kernel
theorem dX6_goBackToEarlier_22 : decode cX6_goBackToEarlier 22 = .ok (.if_icmp .eq 14, 3) := by decide +kernel
theorem dX6_goBackToEarlier_25 : decode cX6_goBackToEarlier 25 = .ok (.aload_n 0, 1) := by decide +kernel
theorem dX6_goBackToEarlier_26 : decode cX6_goBackToEarlier 26 = .ok (.iload_n 1, 1) := by decide +kernel
theorem dX6_goBackToEarlier_27 : decode cX6_goBackToEarlier 27 = .ok (.aload_n 0, 1) := by decide +kernel
theorem dX6_goBackToEarlier_28 : decode cX6_goBackToEarlier 28 = .ok (.getfield 34, 3) := by decide +kernel
theorem dX6_goBackToEarlier_31 : decode cX6_goBackToEarlier 31 = .ok (.iload_n 1, 1) := by decide +kernel
theorem dX6_goBackToEarlier_32 : decode cX6_goBackToEarlier 32 = .ok (.iaload, 1) := by decide +kernel
theorem dX6_goBackToEarlier_33 : decode cX6_goBackToEarlier 33 = .ok (.invokevirtual 77, 3) := by decide +kernel
theorem dX6_goBackToEarlier_36 : decode cX6_goBackToEarlier 36 = .ok (.iinc 1 1, 3) := by decide +kernel
theorem dX6_goBackToEarlier_39 : decode cX6_goBackToEarlier 39 = .ok (.goto (-33), 3) := by decide +kernel
theorem dX6_goBackToEarlier_42 : decode cX6_goBackToEarlier 42 = .ok (.return_, 1) := by decide +kernel
theorem dX7_init_0 : decode cX7_init 0 = .ok (.aload_n 0, 1) := by decide +kernel
theorem dX7_init_1 : decode cX7_init 1 = .ok (.invokespecial 3, 3) := by decide +kernel
theorem dX7_init_4 : decode cX7_init 4 = .ok (.aload_n 0, 1) := by decide +kernel
theorem dX7_init_5 : decode cX7_init 5 = .ok (.new 9, 3) := by decide +kernel
theorem dX7_init_8 : decode cX7_init 8 = .ok (.dup, 1) := by decide +kernel
theorem dX7_init_9 : decode cX7_init 9 = .ok (.invokespecial 11, 3) := by decide +kernel
theorem dX7_init_12 : decode cX7_init 12 = .ok (.putfield 12, 3) := by decide +kernel
theorem dX7_init_15 : decode cX7_init 15 = .ok (.aload_n 0, 1) := by decide +kernel
theorem dX7_init_16 : decode cX7_init 16 = .ok (.new 18, 3) := by decide +kernel
theorem dX7_init_19 : decode cX7_init 19 = .ok (.dup, 1) := by decide +kernel
theorem dX7_init_20 : decode cX7_init 20 = .ok (.invokespecial 20, 3) := by decide +kernel
theorem dX7_init_23 : decode cX7_init 23 = .ok (.putfield 21, 3) := by decide +kernel
theorem dX7_init_26 : decode cX7_init 26 = .ok (.aload_n 0, 1) := by decide +kernel
theorem dX7_init_27 : decode cX7_init 27 = .ok (.new 25, 3) := by decide +kernel
theorem dX7_init_30 : decode cX7_init 30 = .ok (.dup, 1) := by decide +kernel
theorem dX7_init_31 : decode cX7_init 31 = .ok (.aload_n 0, 1) := by decide +kernel
theorem dX7_init_32 : decode cX7_init 32 = .ok (.getfield 21, 3) := by decide +kernel
theorem dX7_init_35 : decode cX7_init 35 = .ok (.invokespecial 27, 3) := by decide +kernel
theorem dX7_init_38 : decode cX7_init 38 = .ok (.putfield 30, 3) := by decide +kernel
theorem dX7_init_41 : decode cX7_init 41 = .ok (.aload_n 0, 1) := by decide +kernel
theorem dX7_init_42 : decode cX7_init 42 = .ok (.new 34, 3) := by decide +kernel
theorem dX7_init_45 : decode cX7_init 45 = .ok (.dup, 1) := by decide +kernel
theorem dX7_init_46 : decode cX7_init 46 = .ok (.invokespecial 36, 3) := by decide +kernel
theorem dX7_init_49 : decode cX7_init 49 = .ok (.putfield 37, 3) := by decide +kernel
theorem dX7_init_52 : decode cX7_init 52 = .ok (.aload_n 0, 1) := by decide +kernel
theorem dX7_init_53 : decode cX7_init 53 = .ok (.new 41, 3) := by decide +kernel
theorem dX7_init_56 : decode cX7_init 56 = .ok (.dup, 1) := by decide +kernel
theorem dX7_init_57 : decode cX7_init 57 = .ok (.invokespecial 43, 3) := by decide +kernel
theorem dX7_init_60 : decode cX7_init 60 = .ok (.putfield 44, 3) := by decide +kernel
theorem dX7_init_63 : decode cX7_init 63 = .ok (.aload_n 0, 1) := by decide +kernel
theorem dX7_init_64 : decode cX7_init 64 = .ok (.new 48, 3) := by decide +kernel
theorem dX7_init_67 : decode cX7_init 67 = .ok (.dup, 1) := by decide +kernel
theorem dX7_init_68 : decode cX7_init 68 = .ok (.invokespecial 50, 3) := by decide +kernel
theorem dX7_init_71 : decode cX7_init 71 = .ok (.putfield 51, 3) := by decide +kernel
theorem dX7_init_74 : decode cX7_init 74 = .ok (.aload_n 0, 1) := by decide +kernel
theorem dX7_init_75 : decode cX7_init 75 = .ok (.new 55, 3) := by decide +kernel
theorem dX7_init_78 : decode cX7_init 78 = .ok (.dup, 1) := by decide +kernel
theorem dX7_init_79 : decode cX7_init 79 = .ok (.invokespecial 57, 3) := by decide +kernel
theorem dX7_init_82 : decode cX7_init 82 = .ok (.putfield 58, 3) := by decide +kernel
theorem dX7_init_85 : decode cX7_init 85 = .ok (.aload_n 0, 1) := by decide +kernel
theorem dX7_init_86 : decode cX7_init 86 = .ok (.bipush 8, 2) := by decide +kernel
theorem dX7_init_88 : decode cX7_init 88 = .ok (.newarray .int, 2) := by decide +kernel
theorem dX7_init_90 : decode cX7_init 90 = .ok (.putfield 62, 3) := by decide +kernel
theorem dX7_init_93 : decode cX7_init 93 = .ok (.aload_n 0, 1) := by decide +kernel
theorem dX7_init_94 : decode cX7_init 94 = .ok (.iconst 0, 1) := by decide +kernel
theorem dX7_init_95 : decode cX7_init 95 = .ok (.putfield 66, 3) := by decide +kernel
theorem dX7_init_98 : decode cX7_init 98 = .ok (.return_, 1) := by decide +kernel
theorem dX7_net_0 : decode cX7_net 0 = .ok (.iload_n 1, 1) := by decide +kernel
theorem dX7_net_1 : decode cX7_net 1 = .ok (.iconst 1, 1) := by decide +kernel
theorem dX7_net_2 : decode cX7_net 2 = .ok (.iconst 5, 1) := by decide +kernel
theorem dX7_net_3 : decode cX7_net 3 = .ok (.invokestatic 70, 3) := by decide +kernel
theorem dX7_net_6 : decode cX7_net 6 = .ok (.ifCond .eq 22, 3) := by decide +kernel
theorem dX7_net_9 : decode cX7_net 9 = .ok (.iload_n 2, 1) := by decide +kernel
theorem dX7_net_10 : decode cX7_net 10 = .ok (.iconst 1, 1) := by decide +kernel
theorem dX7_net_11 : decode cX7_net 11 = .ok (.iconst 4, 1) := by decide +kernel
theorem dX7_net_12 : decode cX7_net 12 = .ok (.invokestatic 70, 3) := by decide +kernel
theorem dX7_net_15 : decode cX7_net 15 = .ok (.ifCond .eq 13, 3) := by decide +kernel
theorem dX7_net_18 : decode cX7_net 18 = .ok (.iload_n 3, 1) := by decide +kernel
theorem dX7_net_19 : decode cX7_net 19 = .ok (.iconst 1, 1) := by decide +kernel
theorem dX7_net_20 : decode cX7_net 20 = .ok (.bipush 7, 2) := by decide +kernel
theorem dX7_net_22 : decode cX7_net 22 = .ok (.invokestatic 70, 3) := by decide +kernel
theorem dX7_net_25 : decode cX7_net 25 = .ok (.ifCond .ne 6, 3) := by decide +kernel
theorem dX7_net_28 : decode cX7_net 28 = .ok (.bipush (-2), 2) := by decide +kernel
theorem dX7_net_30 : decode cX7_net 30 = .ok (.ireturn, 1) := by decide +kernel
theorem dX7_net_31 : decode cX7_net 31 = .ok (.aload_n 0, 1) := by decide +kernel
theorem dX7_net_32 : decode cX7_net 32 = .ok (.getfield 12, 3) := by decide +kernel
theorem dX7_net_35 : decode cX7_net 35 = .ok (.iload_n 1, 1) := by decide +kernel
theorem dX7_net_36 : decode cX7_net 36 = .ok (.iload_n 2, 1) := by decide +kernel
theorem dX7_net_37 : decode cX7_net 37 = .ok (.iload_n 3, 1) := by decide +kernel
theorem dX7_net_38 : decode cX7_net 38 = .ok (.invokevirtual 74, 3) := by decide +kernel
theorem dX7_net_41 : decode cX7_net 41 = .ok (.aload_n 0, 1) := by decide +kernel
theorem dX7_net_42 : decode cX7_net 42 = .ok (.getfield 12, 3) := by decide +kernel
theorem dX7_net_45 : decode cX7_net 45 = .ok (.invokevirtual 78, 3) := by decide +kernel
theorem dX7_net_48 : decode cX7_net 48 = .ok (.ireturn, 1) := by decide +kernel
theorem dX7_netOf_0 : decode cX7_netOf 0 = .ok (.iload_n 1, 1) := by decide +kernel
theorem dX7_netOf_1 : decode cX7_netOf 1 = .ok (.tableswitch 110 0 5 #[39, 47, 55, 63, 71, 87], 39) := by decide +kernel
theorem dX7_netOf_40 : decode cX7_netOf 40 = .ok (.aload_n 0, 1) := by decide +kernel
theorem dX7_netOf_41 : decode cX7_netOf 41 = .ok (.getfield 12, 3) := by decide +kernel
theorem dX7_netOf_44 : decode cX7_netOf 44 = .ok (.getfield 82, 3) := by decide +kernel
theorem dX7_netOf_47 : decode cX7_netOf 47 = .ok (.ireturn, 1) := by decide +kernel
theorem dX7_netOf_48 : decode cX7_netOf 48 = .ok (.aload_n 0, 1) := by decide +kernel
theorem dX7_netOf_49 : decode cX7_netOf 49 = .ok (.getfield 12, 3) := by decide +kernel
theorem dX7_netOf_52 : decode cX7_netOf 52 = .ok (.getfield 85, 3) := by decide +kernel
theorem dX7_netOf_55 : decode cX7_netOf 55 = .ok (.ireturn, 1) := by decide +kernel
theorem dX7_netOf_56 : decode cX7_netOf 56 = .ok (.aload_n 0, 1) := by decide +kernel
theorem dX7_netOf_57 : decode cX7_netOf 57 = .ok (.getfield 12, 3) := by decide +kernel
theorem dX7_netOf_60 : decode cX7_netOf 60 = .ok (.getfield 88, 3) := by decide +kernel
theorem dX7_netOf_63 : decode cX7_netOf 63 = .ok (.ireturn, 1) := by decide +kernel
theorem dX7_netOf_64 : decode cX7_netOf 64 = .ok (.aload_n 0, 1) := by decide +kernel
theorem dX7_netOf_65 : decode cX7_netOf 65 = .ok (.getfield 12, 3) := by decide +kernel
theorem dX7_netOf_68 : decode cX7_netOf 68 = .ok (.getfield 91, 3) := by decide +kernel
theorem dX7_netOf_71 : decode cX7_netOf 71 = .ok (.ireturn, 1) := by decide +kernel
theorem dX7_netOf_72 : decode cX7_netOf 72 = .ok (.aload_n 0, 1) := by decide +kernel
theorem dX7_netOf_73 : decode cX7_netOf 73 = .ok (.getfield 12, 3) := by decide +kernel
theorem dX7_netOf_76 : decode cX7_netOf 76 = .ok (.invokevirtual 94, 3) := by decide +kernel
theorem dX7_netOf_79 : decode cX7_netOf 79 = .ok (.ifCond .eq 7, 3) := by decide +kernel
theorem dX7_netOf_82 : decode cX7_netOf 82 = .ok (.iconst 1, 1) := by decide +kernel
theorem dX7_netOf_83 : decode cX7_netOf 83 = .ok (.goto 4, 3) := by decide +kernel
theorem dX7_netOf_86 : decode cX7_netOf 86 = .ok (.iconst 0, 1) := by decide +kernel
theorem dX7_netOf_87 : decode cX7_netOf 87 = .ok (.ireturn, 1) := by decide +kernel
theorem dX7_netOf_88 : decode cX7_netOf 88 = .ok (.aload_n 0, 1) := by decide +kernel
theorem dX7_netOf_89 : decode cX7_netOf 89 = .ok (.getfield 12, 3) := by decide +kernel
theorem dX7_netOf_92 : decode cX7_netOf 92 = .ok (.getfield 88, 3) := by decide +kernel
theorem dX7_netOf_95 : decode cX7_netOf 95 = .ok (.aload_n 0, 1) := by decide +kernel
theorem dX7_netOf_96 : decode cX7_netOf 96 = .ok (.getfield 12, 3) := by decide +kernel
theorem dX7_netOf_99 : decode cX7_netOf 99 = .ok (.getfield 85, 3) := by decide +kernel
theorem dX7_netOf_102 : decode cX7_netOf 102 = .ok (.if_icmp .lt 7, 3) := by decide +kernel
theorem dX7_netOf_105 : decode cX7_netOf 105 = .ok (.iconst 1, 1) := by decide +kernel
theorem dX7_netOf_106 : decode cX7_netOf 106 = .ok (.goto 4, 3) := by decide +kernel
theorem dX7_netOf_109 : decode cX7_netOf 109 = .ok (.iconst 0, 1) := by decide +kernel
theorem dX7_netOf_110 : decode cX7_netOf 110 = .ok (.ireturn, 1) := by decide +kernel
theorem dX7_netOf_111 : decode cX7_netOf 111 = .ok (.bipush (-2), 2) := by decide +kernel
theorem dX7_netOf_113 : decode cX7_netOf 113 = .ok (.ireturn, 1) := by decide +kernel
theorem dX7_call_0 : decode cX7_call 0 = .ok (.aload_n 0, 1) := by decide +kernel
theorem dX7_call_1 : decode cX7_call 1 = .ok (.getfield 12, 3) := by decide +kernel
theorem dX7_call_4 : decode cX7_call 4 = .ok (.iload_n 1, 1) := by decide +kernel
theorem dX7_call_5 : decode cX7_call 5 = .ok (.iload_n 2, 1) := by decide +kernel
theorem dX7_call_6 : decode cX7_call 6 = .ok (.invokevirtual 98, 3) := by decide +kernel
theorem dX7_call_9 : decode cX7_call 9 = .ok (.istore_n 3, 1) := by decide +kernel
theorem dX7_call_10 : decode cX7_call 10 = .ok (.iload_n 3, 1) := by decide +kernel
theorem dX7_call_11 : decode cX7_call 11 = .ok (.ifCond .eq 7, 3) := by decide +kernel
theorem dX7_call_14 : decode cX7_call 14 = .ok (.iload_n 3, 1) := by decide +kernel
theorem dX7_call_15 : decode cX7_call 15 = .ok (.goto 12, 3) := by decide +kernel
theorem dX7_call_18 : decode cX7_call 18 = .ok (.aload_n 0, 1) := by decide +kernel
theorem dX7_call_19 : decode cX7_call 19 = .ok (.getfield 12, 3) := by decide +kernel
theorem dX7_call_22 : decode cX7_call 22 = .ok (.iload_n 1, 1) := by decide +kernel
theorem dX7_call_23 : decode cX7_call 23 = .ok (.iload_n 2, 1) := by decide +kernel
theorem dX7_call_24 : decode cX7_call 24 = .ok (.invokevirtual 102, 3) := by decide +kernel
theorem dX7_call_27 : decode cX7_call 27 = .ok (.ireturn, 1) := by decide +kernel
theorem dX7_mend_0 : decode cX7_mend 0 = .ok (.aload_n 0, 1) := by decide +kernel
theorem dX7_mend_1 : decode cX7_mend 1 = .ok (.getfield 12, 3) := by decide +kernel
theorem dX7_mend_4 : decode cX7_mend 4 = .ok (.iload_n 1, 1) := by decide +kernel
theorem dX7_mend_5 : decode cX7_mend 5 = .ok (.iload_n 2, 1) := by decide +kernel
theorem dX7_mend_6 : decode cX7_mend 6 = .ok (.invokevirtual 98, 3) := by decide +kernel
theorem dX7_mend_9 : decode cX7_mend 9 = .ok (.istore_n 3, 1) := by decide +kernel
theorem dX7_mend_10 : decode cX7_mend 10 = .ok (.iload_n 3, 1) := by decide +kernel
theorem dX7_mend_11 : decode cX7_mend 11 = .ok (.ifCond .eq 7, 3) := by decide +kernel
theorem dX7_mend_14 : decode cX7_mend 14 = .ok (.iload_n 3, 1) := by decide +kernel
theorem dX7_mend_15 : decode cX7_mend 15 = .ok (.goto 12, 3) := by decide +kernel
theorem dX7_mend_18 : decode cX7_mend 18 = .ok (.aload_n 0, 1) := by decide +kernel
theorem dX7_mend_19 : decode cX7_mend 19 = .ok (.getfield 12, 3) := by decide +kernel
theorem dX7_mend_22 : decode cX7_mend 22 = .ok (.iload_n 1, 1) := by decide +kernel
theorem dX7_mend_23 : decode cX7_mend 23 = .ok (.iload_n 2, 1) := by decide +kernel
theorem dX7_mend_24 : decode cX7_mend 24 = .ok (.invokevirtual 105, 3) := by decide +kernel
theorem dX7_mend_27 : decode cX7_mend 27 = .ok (.ireturn, 1) := by decide +kernel
theorem dX7_moves_0 : decode cX7_moves 0 = .ok (.aload_n 0, 1) := by decide +kernel
theorem dX7_moves_1 : decode cX7_moves 1 = .ok (.getfield 12, 3) := by decide +kernel
theorem dX7_moves_4 : decode cX7_moves 4 = .ok (.iload_n 1, 1) := by decide +kernel
theorem dX7_moves_5 : decode cX7_moves 5 = .ok (.iload_n 2, 1) := by decide +kernel
theorem dX7_moves_6 : decode cX7_moves 6 = .ok (.invokevirtual 98, 3) := by decide +kernel
theorem dX7_moves_9 : decode cX7_moves 9 = .ok (.istore_n 3, 1) := by decide +kernel
theorem dX7_moves_10 : decode cX7_moves 10 = .ok (.iload_n 3, 1) := by decide +kernel
theorem dX7_moves_11 : decode cX7_moves 11 = .ok (.ifCond .eq 7, 3) := by decide +kernel
theorem dX7_moves_14 : decode cX7_moves 14 = .ok (.iload_n 3, 1) := by decide +kernel
theorem dX7_moves_15 : decode cX7_moves 15 = .ok (.goto 12, 3) := by decide +kernel
theorem dX7_moves_18 : decode cX7_moves 18 = .ok (.aload_n 0, 1) := by decide +kernel
theorem dX7_moves_19 : decode cX7_moves 19 = .ok (.getfield 12, 3) := by decide +kernel
theorem dX7_moves_22 : decode cX7_moves 22 = .ok (.iload_n 1, 1) := by decide +kernel
theorem dX7_moves_23 : decode cX7_moves 23 = .ok (.iload_n 2, 1) := by decide +kernel
theorem dX7_moves_24 : decode cX7_moves 24 = .ok (.invokevirtual 108, 3) := by decide +kernel
theorem dX7_moves_27 : decode cX7_moves 27 = .ok (.ireturn, 1) := by decide +kernel
theorem dX7_hang_0 : decode cX7_hang 0 = .ok (.aload_n 0, 1) := by decide +kernel
theorem dX7_hang_1 : decode cX7_hang 1 = .ok (.getfield 12, 3) := by decide +kernel
theorem dX7_hang_4 : decode cX7_hang 4 = .ok (.iload_n 1, 1) := by decide +kernel
theorem dX7_hang_5 : decode cX7_hang 5 = .ok (.invokevirtual 111, 3) := by decide +kernel
theorem dX7_hang_8 : decode cX7_hang 8 = .ok (.ifCond .ne 5, 3) := by decide +kernel
theorem dX7_hang_11 : decode cX7_hang 11 = .ok (.iconst (-1), 1) := by decide +kernel
theorem dX7_hang_12 : decode cX7_hang 12 = .ok (.ireturn, 1) := by decide +kernel
theorem dX7_hang_13 : decode cX7_hang 13 = .ok (.aload_n 0, 1) := by decide +kernel
theorem dX7_hang_14 : decode cX7_hang 14 = .ok (.getfield 12, 3) := by decide +kernel
theorem dX7_hang_17 : decode cX7_hang 17 = .ok (.getfield 115, 3) := by decide +kernel
theorem dX7_hang_20 : decode cX7_hang 20 = .ok (.iload_n 1, 1) := by decide +kernel
theorem dX7_hang_21 : decode cX7_hang 21 = .ok (.iaload, 1) := by decide +kernel
theorem dX7_hang_22 : decode cX7_hang 22 = .ok (.bipush (-9), 2) := by decide +kernel
theorem dX7_hang_24 : decode cX7_hang 24 = .ok (.if_icmp .ne 6, 3) := by decide +kernel
theorem dX7_hang_27 : decode cX7_hang 27 = .ok (.bipush (-3), 2) := by decide +kernel
theorem dX7_hang_29 : decode cX7_hang 29 = .ok (.ireturn, 1) := by decide +kernel
theorem dX7_hang_30 : decode cX7_hang 30 = .ok (.aload_n 0, 1) := by decide +kernel
theorem dX7_hang_31 : decode cX7_hang 31 = .ok (.getfield 12, 3) := by decide +kernel
theorem dX7_hang_34 : decode cX7_hang 34 = .ok (.iload_n 1, 1) := by decide +kernel
theorem dX7_hang_35 : decode cX7_hang 35 = .ok (.invokevirtual 118, 3) := by decide +kernel
theorem dX7_hang_38 : decode cX7_hang 38 = .ok (.ireturn, 1) := by decide +kernel
theorem dX7_anew_0 : decode cX7_anew 0 = .ok (.aload_n 0, 1) := by decide +kernel
theorem dX7_anew_1 : decode cX7_anew 1 = .ok (.getfield 12, 3) := by decide +kernel
theorem dX7_anew_4 : decode cX7_anew 4 = .ok (.invokevirtual 122, 3) := by decide +kernel
theorem dX7_anew_7 : decode cX7_anew 7 = .ok (.ireturn, 1) := by decide +kernel
theorem dX7_callOf_0 : decode cX7_callOf 0 = .ok (.aload_n 0, 1) := by decide +kernel
theorem dX7_callOf_1 : decode cX7_callOf 1 = .ok (.getfield 12, 3) := by decide +kernel
theorem dX7_callOf_4 : decode cX7_callOf 4 = .ok (.iload_n 1, 1) := by decide +kernel
theorem dX7_callOf_5 : decode cX7_callOf 5 = .ok (.invokevirtual 111, 3) := by decide +kernel
theorem dX7_callOf_8 : decode cX7_callOf 8 = .ok (.ifCond .ne 5, 3) := by decide +kernel
theorem dX7_callOf_11 : decode cX7_callOf 11 = .ok (.iconst (-1), 1) := by decide +kernel
theorem dX7_callOf_12 : decode cX7_callOf 12 = .ok (.ireturn, 1) := by decide +kernel
theorem dX7_callOf_13 : decode cX7_callOf 13 = .ok (.iload_n 2, 1) := by decide +kernel
theorem dX7_callOf_14 : decode cX7_callOf 14 = .ok (.iconst 0, 1) := by decide +kernel
theorem dX7_callOf_15 : decode cX7_callOf 15 = .ok (.iconst 1, 1) := by decide +kernel
theorem dX7_callOf_16 : decode cX7_callOf 16 = .ok (.invokestatic 70, 3) := by decide +kernel
theorem dX7_callOf_19 : decode cX7_callOf 19 = .ok (.ifCond .ne 6, 3) := by decide +kernel
theorem dX7_callOf_22 : decode cX7_callOf 22 = .ok (.bipush (-2), 2) := by decide +kernel
theorem dX7_callOf_24 : decode cX7_callOf 24 = .ok (.ireturn, 1) := by decide +kernel
theorem dX7_callOf_25 : decode cX7_callOf 25 = .ok (.iload_n 2, 1) := by decide +kernel
theorem dX7_callOf_26 : decode cX7_callOf 26 = .ok (.ifCond .ne 15, 3) := by decide +kernel
theorem dX7_callOf_29 : decode cX7_callOf 29 = .ok (.aload_n 0, 1) := by decide +kernel
theorem dX7_callOf_30 : decode cX7_callOf 30 = .ok (.getfield 12, 3) := by decide +kernel
theorem dX7_callOf_33 : decode cX7_callOf 33 = .ok (.getfield 115, 3) := by decide +kernel
theorem dX7_callOf_36 : decode cX7_callOf 36 = .ok (.iload_n 1, 1) := by decide +kernel
theorem dX7_callOf_37 : decode cX7_callOf 37 = .ok (.iaload, 1) := by decide +kernel
theorem dX7_callOf_38 : decode cX7_callOf 38 = .ok (.goto 12, 3) := by decide +kernel
theorem dX7_callOf_41 : decode cX7_callOf 41 = .ok (.aload_n 0, 1) := by decide +kernel
theorem dX7_callOf_42 : decode cX7_callOf 42 = .ok (.getfield 12, 3) := by decide +kernel
theorem dX7_callOf_45 : decode cX7_callOf 45 = .ok (.getfield 125, 3) := by decide +kernel
theorem dX7_callOf_48 : decode cX7_callOf 48 = .ok (.iload_n 1, 1) := by decide +kernel
theorem dX7_callOf_49 : decode cX7_callOf 49 = .ok (.iaload, 1) := by decide +kernel
theorem dX7_callOf_50 : decode cX7_callOf 50 = .ok (.ireturn, 1) := by decide +kernel
theorem dX7_links_0 : decode cX7_links 0 = .ok (.iload_n 1, 1) := by decide +kernel
theorem dX7_links_1 : decode cX7_links 1 = .ok (.iconst 0, 1) := by decide +kernel
theorem dX7_links_2 : decode cX7_links 2 = .ok (.aload_n 0, 1) := by decide +kernel
theorem dX7_links_3 : decode cX7_links 3 = .ok (.getfield 12, 3) := by decide +kernel
theorem dX7_links_6 : decode cX7_links 6 = .ok (.getfield 88, 3) := by decide +kernel
theorem dX7_links_9 : decode cX7_links 9 = .ok (.iconst 1, 1) := by decide +kernel
theorem dX7_links_10 : decode cX7_links 10 = .ok (.isub, 1) := by decide +kernel
theorem dX7_links_11 : decode cX7_links 11 = .ok (.invokestatic 70, 3) := by decide +kernel
theorem dX7_links_14 : decode cX7_links 14 = .ok (.ifCond .ne 5, 3) := by decide +kernel
theorem dX7_links_17 : decode cX7_links 17 = .ok (.iconst (-1), 1) := by decide +kernel
theorem dX7_links_18 : decode cX7_links 18 = .ok (.ireturn, 1) := by decide +kernel
theorem dX7_links_19 : decode cX7_links 19 = .ok (.iload_n 2, 1) := by decide +kernel
theorem dX7_links_20 : decode cX7_links 20 = .ok (.iconst 0, 1) := by decide +kernel
theorem dX7_links_21 : decode cX7_links 21 = .ok (.iconst 1, 1) := by decide +kernel
theorem dX7_links_22 : decode cX7_links 22 = .ok (.invokestatic 70, 3) := by decide +kernel
theorem dX7_links_25 : decode cX7_links 25 = .ok (.ifCond .ne 6, 3) := by decide +kernel
theorem dX7_links_28 : decode cX7_links 28 = .ok (.bipush (-2), 2) := by decide +kernel
theorem dX7_links_30 : decode cX7_links 30 = .ok (.ireturn, 1) := by decide +kernel
theorem dX7_links_31 : decode cX7_links 31 = .ok (.aload_n 0, 1) := by decide +kernel
theorem dX7_links_32 : decode cX7_links 32 = .ok (.getfield 12, 3) := by decide +kernel
theorem dX7_links_35 : decode cX7_links 35 = .ok (.iload_n 1, 1) := by decide +kernel
theorem dX7_links_36 : decode cX7_links 36 = .ok (.iload_n 2, 1) := by decide +kernel
theorem dX7_links_37 : decode cX7_links 37 = .ok (.invokevirtual 128, 3) := by decide +kernel
theorem dX7_links_40 : decode cX7_links 40 = .ok (.ireturn, 1) := by decide +kernel
theorem dX7_order_0 : decode cX7_order 0 = .ok (.aload_n 0, 1) := by decide +kernel
theorem dX7_order_1 : decode cX7_order 1 = .ok (.iconst 0, 1) := by decide +kernel
theorem dX7_order_2 : decode cX7_order 2 = .ok (.putfield 66, 3) := by decide +kernel
theorem dX7_order_5 : decode cX7_order 5 = .ok (.iload_n 2, 1) := by decide +kernel
theorem dX7_order_6 : decode cX7_order 6 = .ok (.iconst 0, 1) := by decide +kernel
theorem dX7_order_7 : decode cX7_order 7 = .ok (.iconst 3, 1) := by decide +kernel
theorem dX7_order_8 : decode cX7_order 8 = .ok (.invokestatic 70, 3) := by decide +kernel
theorem dX7_order_11 : decode cX7_order 11 = .ok (.ifCond .ne 5, 3) := by decide +kernel
theorem dX7_order_14 : decode cX7_order 14 = .ok (.iconst (-1), 1) := by decide +kernel
theorem dX7_order_15 : decode cX7_order 15 = .ok (.ireturn, 1) := by decide +kernel
theorem dX7_order_16 : decode cX7_order 16 = .ok (.iload_n 3, 1) := by decide +kernel
theorem dX7_order_17 : decode cX7_order 17 = .ok (.iconst 0, 1) := by decide +kernel
theorem dX7_order_18 : decode cX7_order 18 = .ok (.iconst 2, 1) := by decide +kernel
theorem dX7_order_19 : decode cX7_order 19 = .ok (.invokestatic 70, 3) := by decide +kernel
theorem dX7_order_22 : decode cX7_order 22 = .ok (.ifCond .eq 12, 3) := by decide +kernel
theorem dX7_order_25 : decode cX7_order 25 = .ok (.iload_n 1, 1) := by decide +kernel
theorem dX7_order_26 : decode cX7_order 26 = .ok (.iconst 1, 1) := by decide +kernel
theorem dX7_order_27 : decode cX7_order 27 = .ok (.iconst 3, 1) := by decide +kernel
theorem dX7_order_28 : decode cX7_order 28 = .ok (.invokestatic 70, 3) := by decide +kernel
theorem dX7_order_31 : decode cX7_order 31 = .ok (.ifCond .ne 6, 3) := by decide +kernel
theorem dX7_order_34 : decode cX7_order 34 = .ok (.bipush (-2), 2) := by decide +kernel
theorem dX7_order_36 : decode cX7_order 36 = .ok (.ireturn, 1) := by decide +kernel
theorem dX7_order_37 : decode cX7_order 37 = .ok (.iconst 1, 1) := by decide +kernel
theorem dX7_order_38 : decode cX7_order 38 = .ok (.iload_n 1, 1) := by decide +kernel
theorem dX7_order_39 : decode cX7_order 39 = .ok (.ishl, 1) := by decide +kernel
theorem dX7_order_40 : decode cX7_order 40 = .ok (.istore 5, 2) := by decide +kernel
theorem dX7_order_42 : decode cX7_order 42 = .ok (.aload_n 0, 1) := by decide +kernel
theorem dX7_order_43 : decode cX7_order 43 = .ok (.getfield 58, 3) := by decide +kernel
theorem dX7_order_46 : decode cX7_order 46 = .ok (.iload_n 2, 1) := by decide +kernel
theorem dX7_order_47 : decode cX7_order 47 = .ok (.iload_n 3, 1) := by decide +kernel
theorem dX7_order_48 : decode cX7_order 48 = .ok (.iload 4, 2) := by decide +kernel
theorem dX7_order_50 : decode cX7_order 50 = .ok (.iload 5, 2) := by decide +kernel
theorem dX7_order_52 : decode cX7_order 52 = .ok (.invokevirtual 131, 3) := by decide +kernel
theorem dX7_order_55 : decode cX7_order 55 = .ok (.istore 6, 2) := by decide +kernel
theorem dX7_order_57 : decode cX7_order 57 = .ok (.iload 6, 2) := by decide +kernel
theorem dX7_order_59 : decode cX7_order 59 = .ok (.ifCond .eq 10, 3) := by decide +kernel
theorem dX7_order_62 : decode cX7_order 62 = .ok (.aload_n 0, 1) := by decide +kernel
theorem dX7_order_63 : decode cX7_order 63 = .ok (.iload 6, 2) := by decide +kernel
theorem dX7_order_65 : decode cX7_order 65 = .ok (.invokevirtual 135, 3) := by decide +kernel
theorem dX7_order_68 : decode cX7_order 68 = .ok (.ireturn, 1) := by decide +kernel
theorem dX7_order_69 : decode cX7_order 69 = .ok (.aload_n 0, 1) := by decide +kernel
theorem dX7_order_70 : decode cX7_order 70 = .ok (.getfield 58, 3) := by decide +kernel
theorem dX7_order_73 : decode cX7_order 73 = .ok (.iload_n 2, 1) := by decide +kernel
theorem dX7_order_74 : decode cX7_order 74 = .ok (.iload 4, 2) := by decide +kernel
theorem dX7_order_76 : decode cX7_order 76 = .ok (.aload_n 0, 1) := by decide +kernel
theorem dX7_order_77 : decode cX7_order 77 = .ok (.getfield 62, 3) := by decide +kernel
theorem dX7_order_80 : decode cX7_order 80 = .ok (.iload 5, 2) := by decide +kernel
theorem dX7_order_82 : decode cX7_order 82 = .ok (.invokevirtual 138, 3) := by decide +kernel
theorem dX7_order_85 : decode cX7_order 85 = .ok (.aload_n 0, 1) := by decide +kernel
theorem dX7_order_86 : decode cX7_order 86 = .ok (.getfield 21, 3) := by decide +kernel
theorem dX7_order_89 : decode cX7_order 89 = .ok (.iload_n 1, 1) := by decide +kernel
theorem dX7_order_90 : decode cX7_order 90 = .ok (.aload_n 0, 1) := by decide +kernel
theorem dX7_order_91 : decode cX7_order 91 = .ok (.getfield 62, 3) := by decide +kernel
theorem dX7_order_94 : decode cX7_order 94 = .ok (.invokevirtual 142, 3) := by decide +kernel
theorem dX7_order_97 : decode cX7_order 97 = .ok (.ifCond .eq 8, 3) := by decide +kernel
theorem dX7_order_100 : decode cX7_order 100 = .ok (.iload 5, 2) := by decide +kernel
theorem dX7_order_102 : decode cX7_order 102 = .ok (.goto 5, 3) := by decide +kernel
theorem dX7_order_105 : decode cX7_order 105 = .ok (.bipush (-2), 2) := by decide +kernel
theorem dX7_order_107 : decode cX7_order 107 = .ok (.ireturn, 1) := by decide +kernel
theorem dX7_outlet_0 : decode cX7_outlet 0 = .ok (.iload_n 1, 1) := by decide +kernel
theorem dX7_outlet_1 : decode cX7_outlet 1 = .ok (.iconst 0, 1) := by decide +kernel
theorem dX7_outlet_2 : decode cX7_outlet 2 = .ok (.aload_n 0, 1) := by decide +kernel
theorem dX7_outlet_3 : decode cX7_outlet 3 = .ok (.getfield 21, 3) := by decide +kernel
theorem dX7_outlet_6 : decode cX7_outlet 6 = .ok (.invokevirtual 146, 3) := by decide +kernel
theorem dX7_outlet_9 : decode cX7_outlet 9 = .ok (.iconst 1, 1) := by decide +kernel
theorem dX7_outlet_10 : decode cX7_outlet 10 = .ok (.isub, 1) := by decide +kernel
theorem dX7_outlet_11 : decode cX7_outlet 11 = .ok (.invokestatic 70, 3) := by decide +kernel
theorem dX7_outlet_14 : decode cX7_outlet 14 = .ok (.ifCond .eq 15, 3) := by decide +kernel
theorem dX7_outlet_17 : decode cX7_outlet 17 = .ok (.aload_n 0, 1) := by decide +kernel
theorem dX7_outlet_18 : decode cX7_outlet 18 = .ok (.getfield 21, 3) := by decide +kernel
theorem dX7_outlet_21 : decode cX7_outlet 21 = .ok (.getfield 149, 3) := by decide +kernel
theorem dX7_outlet_24 : decode cX7_outlet 24 = .ok (.iload_n 1, 1) := by decide +kernel
theorem dX7_outlet_25 : decode cX7_outlet 25 = .ok (.iaload, 1) := by decide +kernel
theorem dX7_outlet_26 : decode cX7_outlet 26 = .ok (.goto 4, 3) := by decide +kernel
theorem dX7_outlet_29 : decode cX7_outlet 29 = .ok (.iconst (-1), 1) := by decide +kernel
theorem dX7_outlet_30 : decode cX7_outlet 30 = .ok (.ireturn, 1) := by decide +kernel
theorem dX7_ways_0 : decode cX7_ways 0 = .ok (.aload_n 0, 1) := by decide +kernel
theorem dX7_ways_1 : decode cX7_ways 1 = .ok (.getfield 21, 3) := by decide +kernel
theorem dX7_ways_4 : decode cX7_ways 4 = .ok (.invokevirtual 152, 3) := by decide +kernel
theorem dX7_ways_7 : decode cX7_ways 7 = .ok (.lreturn, 1) := by decide +kernel
theorem dX7_first_0 : decode cX7_first 0 = .ok (.aload_n 0, 1) := by decide +kernel
theorem dX7_first_1 : decode cX7_first 1 = .ok (.getfield 21, 3) := by decide +kernel
theorem dX7_first_4 : decode cX7_first 4 = .ok (.invokevirtual 156, 3) := by decide +kernel
theorem dX7_first_7 : decode cX7_first 7 = .ok (.lreturn, 1) := by decide +kernel
theorem dX7_carry_0 : decode cX7_carry 0 = .ok (.iload_n 1, 1) := by decide +kernel
theorem dX7_carry_1 : decode cX7_carry 1 = .ok (.iconst 1, 1) := by decide +kernel
theorem dX7_carry_2 : decode cX7_carry 2 = .ok (.iconst 3, 1) := by decide +kernel
theorem dX7_carry_3 : decode cX7_carry 3 = .ok (.invokestatic 70, 3) := by decide +kernel
theorem dX7_carry_6 : decode cX7_carry 6 = .ok (.ifCond .eq 15, 3) := by decide +kernel
theorem dX7_carry_9 : decode cX7_carry 9 = .ok (.lload_n 2, 1) := by decide +kernel
theorem dX7_carry_10 : decode cX7_carry 10 = .ok (.getstatic 159, 3) := by decide +kernel
theorem dX7_carry_13 : decode cX7_carry 13 = .ok (.iload_n 1, 1) := by decide +kernel
theorem dX7_carry_14 : decode cX7_carry 14 = .ok (.iaload, 1) := by decide +kernel
theorem dX7_carry_15 : decode cX7_carry 15 = .ok (.lushr, 1) := by decide +kernel
theorem dX7_carry_16 : decode cX7_carry 16 = .ok (.lconst 0, 1) := by decide +kernel
theorem dX7_carry_17 : decode cX7_carry 17 = .ok (.lcmp, 1) := by decide +kernel
theorem dX7_carry_18 : decode cX7_carry 18 = .ok (.ifCond .eq 6, 3) := by decide +kernel
theorem dX7_carry_21 : decode cX7_carry 21 = .ok (.bipush (-2), 2) := by decide +kernel
theorem dX7_carry_23 : decode cX7_carry 23 = .ok (.ireturn, 1) := by decide +kernel
theorem dX7_carry_24 : decode cX7_carry 24 = .ok (.aload_n 0, 1) := by decide +kernel
theorem dX7_carry_25 : decode cX7_carry 25 = .ok (.getfield 21, 3) := by decide +kernel
theorem dX7_carry_28 : decode cX7_carry 28 = .ok (.iload_n 1, 1) := by decide +kernel
theorem dX7_carry_29 : decode cX7_carry 29 = .ok (.lload_n 2, 1) := by decide +kernel
theorem dX7_carry_30 : decode cX7_carry 30 = .ok (.l2i, 1) := by decide +kernel
theorem dX7_carry_31 : decode cX7_carry 31 = .ok (.invokevirtual 162, 3) := by decide +kernel
theorem dX7_carry_34 : decode cX7_carry 34 = .ok (.aload_n 0, 1) := by decide +kernel
theorem dX7_carry_35 : decode cX7_carry 35 = .ok (.getfield 21, 3) := by decide +kernel
theorem dX7_carry_38 : decode cX7_carry 38 = .ok (.invokevirtual 146, 3) := by decide +kernel
theorem dX7_carry_41 : decode cX7_carry 41 = .ok (.ireturn, 1) := by decide +kernel
theorem dX7_line_0 : decode cX7_line 0 = .ok (.iload_n 1, 1) := by decide +kernel
theorem dX7_line_1 : decode cX7_line 1 = .ok (.iconst 0, 1) := by decide +kernel
theorem dX7_line_2 : decode cX7_line 2 = .ok (.aload_n 0, 1) := by decide +kernel
theorem dX7_line_3 : decode cX7_line 3 = .ok (.getfield 21, 3) := by decide +kernel
theorem dX7_line_6 : decode cX7_line 6 = .ok (.invokevirtual 146, 3) := by decide +kernel
theorem dX7_line_9 : decode cX7_line 9 = .ok (.iconst 1, 1) := by decide +kernel
theorem dX7_line_10 : decode cX7_line 10 = .ok (.isub, 1) := by decide +kernel
theorem dX7_line_11 : decode cX7_line 11 = .ok (.invokestatic 70, 3) := by decide +kernel
theorem dX7_line_14 : decode cX7_line 14 = .ok (.ifCond .eq 20, 3) := by decide +kernel
theorem dX7_line_17 : decode cX7_line 17 = .ok (.iload_n 2, 1) := by decide +kernel
theorem dX7_line_18 : decode cX7_line 18 = .ok (.iconst 0, 1) := by decide +kernel
theorem dX7_line_19 : decode cX7_line 19 = .ok (.aload_n 0, 1) := by decide +kernel
theorem dX7_line_20 : decode cX7_line 20 = .ok (.getfield 21, 3) := by decide +kernel
theorem dX7_line_23 : decode cX7_line 23 = .ok (.getfield 166, 3) := by decide +kernel
theorem dX7_line_26 : decode cX7_line 26 = .ok (.iconst 1, 1) := by decide +kernel
theorem dX7_line_27 : decode cX7_line 27 = .ok (.isub, 1) := by decide +kernel
theorem dX7_line_28 : decode cX7_line 28 = .ok (.invokestatic 70, 3) := by decide +kernel
theorem dX7_line_31 : decode cX7_line 31 = .ok (.ifCond .ne 5, 3) := by decide +kernel
theorem dX7_line_34 : decode cX7_line 34 = .ok (.iconst (-1), 1) := by decide +kernel
theorem dX7_line_35 : decode cX7_line 35 = .ok (.ireturn, 1) := by decide +kernel
theorem dX7_line_36 : decode cX7_line 36 = .ok (.aload_n 0, 1) := by decide +kernel
theorem dX7_line_37 : decode cX7_line 37 = .ok (.getfield 30, 3) := by decide +kernel
theorem dX7_line_40 : decode cX7_line 40 = .ok (.iload_n 1, 1) := by decide +kernel
theorem dX7_line_41 : decode cX7_line 41 = .ok (.iload_n 2, 1) := by decide +kernel
theorem dX7_line_42 : decode cX7_line 42 = .ok (.invokevirtual 169, 3) := by decide +kernel
theorem dX7_line_45 : decode cX7_line 45 = .ok (.ireturn, 1) := by decide +kernel
theorem dX7_clash_0 : decode cX7_clash 0 = .ok (.iload_n 1, 1) := by decide +kernel
theorem dX7_clash_1 : decode cX7_clash 1 = .ok (.iconst 0, 1) := by decide +kernel
theorem dX7_clash_2 : decode cX7_clash 2 = .ok (.aload_n 0, 1) := by decide +kernel
theorem dX7_clash_3 : decode cX7_clash 3 = .ok (.getfield 21, 3) := by decide +kernel
theorem dX7_clash_6 : decode cX7_clash 6 = .ok (.invokevirtual 146, 3) := by decide +kernel
theorem dX7_clash_9 : decode cX7_clash 9 = .ok (.iconst 1, 1) := by decide +kernel
theorem dX7_clash_10 : decode cX7_clash 10 = .ok (.isub, 1) := by decide +kernel
theorem dX7_clash_11 : decode cX7_clash 11 = .ok (.invokestatic 70, 3) := by decide +kernel
theorem dX7_clash_14 : decode cX7_clash 14 = .ok (.ifCond .eq 20, 3) := by decide +kernel
theorem dX7_clash_17 : decode cX7_clash 17 = .ok (.iload_n 2, 1) := by decide +kernel
theorem dX7_clash_18 : decode cX7_clash 18 = .ok (.iconst 0, 1) := by decide +kernel
theorem dX7_clash_19 : decode cX7_clash 19 = .ok (.aload_n 0, 1) := by decide +kernel
theorem dX7_clash_20 : decode cX7_clash 20 = .ok (.getfield 21, 3) := by decide +kernel
end
section
theorem dX7_clash_23 : decode cX7_clash 23 = .ok (.invokevirtual 146, 3) := by decide +kernel
theorem dX7_clash_26 : decode cX7_clash 26 = .ok (.iconst 1, 1) := by decide +kernel
theorem dX7_clash_27 : decode cX7_clash 27 = .ok (.isub, 1) := by decide +kernel
theorem dX7_clash_28 : decode cX7_clash 28 = .ok (.invokestatic 70, 3) := by decide +kernel
theorem dX7_clash_31 : decode cX7_clash 31 = .ok (.ifCond .ne 5, 3) := by decide +kernel
theorem dX7_clash_34 : decode cX7_clash 34 = .ok (.iconst (-1), 1) := by decide +kernel
theorem dX7_clash_35 : decode cX7_clash 35 = .ok (.ireturn, 1) := by decide +kernel
theorem dX7_clash_36 : decode cX7_clash 36 = .ok (.iload_n 1, 1) := by decide +kernel
theorem dX7_clash_37 : decode cX7_clash 37 = .ok (.iload_n 2, 1) := by decide +kernel
theorem dX7_clash_38 : decode cX7_clash 38 = .ok (.if_icmp .ne 8, 3) := by decide +kernel
theorem dX7_clash_41 : decode cX7_clash 41 = .ok (.bipush (-3), 2) := by decide +kernel
theorem dX7_clash_43 : decode cX7_clash 43 = .ok (.goto 12, 3) := by decide +kernel
theorem dX7_clash_46 : decode cX7_clash 46 = .ok (.aload_n 0, 1) := by decide +kernel
theorem dX7_clash_47 : decode cX7_clash 47 = .ok (.getfield 30, 3) := by decide +kernel
theorem dX7_clash_50 : decode cX7_clash 50 = .ok (.iload_n 1, 1) := by decide +kernel
theorem dX7_clash_51 : decode cX7_clash 51 = .ok (.iload_n 2, 1) := by decide +kernel
theorem dX7_clash_52 : decode cX7_clash 52 = .ok (.invokevirtual 172, 3) := by decide +kernel
theorem dX7_clash_55 : decode cX7_clash 55 = .ok (.ireturn, 1) := by decide +kernel
theorem dX7_rounds_0 : decode cX7_rounds 0 = .ok (.aload_n 0, 1) := by decide +kernel
theorem dX7_rounds_1 : decode cX7_rounds 1 = .ok (.getfield 30, 3) := by decide +kernel
theorem dX7_rounds_4 : decode cX7_rounds 4 = .ok (.invokevirtual 175, 3) := by decide +kernel
theorem dX7_rounds_7 : decode cX7_rounds 7 = .ok (.ireturn, 1) := by decide +kernel
theorem dX7_round_0 : decode cX7_round 0 = .ok (.iload_n 1, 1) := by decide +kernel
theorem dX7_round_1 : decode cX7_round 1 = .ok (.iconst 0, 1) := by decide +kernel
theorem dX7_round_2 : decode cX7_round 2 = .ok (.aload_n 0, 1) := by decide +kernel
theorem dX7_round_3 : decode cX7_round 3 = .ok (.getfield 21, 3) := by decide +kernel
theorem dX7_round_6 : decode cX7_round 6 = .ok (.invokevirtual 146, 3) := by decide +kernel
theorem dX7_round_9 : decode cX7_round 9 = .ok (.iconst 1, 1) := by decide +kernel
theorem dX7_round_10 : decode cX7_round 10 = .ok (.isub, 1) := by decide +kernel
theorem dX7_round_11 : decode cX7_round 11 = .ok (.invokestatic 70, 3) := by decide +kernel
theorem dX7_round_14 : decode cX7_round 14 = .ok (.ifCond .ne 5, 3) := by decide +kernel
theorem dX7_round_17 : decode cX7_round 17 = .ok (.iconst (-1), 1) := by decide +kernel
theorem dX7_round_18 : decode cX7_round 18 = .ok (.ireturn, 1) := by decide +kernel
theorem dX7_round_19 : decode cX7_round 19 = .ok (.aload_n 0, 1) := by decide +kernel
theorem dX7_round_20 : decode cX7_round 20 = .ok (.getfield 30, 3) := by decide +kernel
theorem dX7_round_23 : decode cX7_round 23 = .ok (.invokevirtual 175, 3) := by decide +kernel
theorem dX7_round_26 : decode cX7_round 26 = .ok (.pop, 1) := by decide +kernel
theorem dX7_round_27 : decode cX7_round 27 = .ok (.aload_n 0, 1) := by decide +kernel
theorem dX7_round_28 : decode cX7_round 28 = .ok (.getfield 30, 3) := by decide +kernel
theorem dX7_round_31 : decode cX7_round 31 = .ok (.getfield 178, 3) := by decide +kernel
theorem dX7_round_34 : decode cX7_round 34 = .ok (.iload_n 1, 1) := by decide +kernel
theorem dX7_round_35 : decode cX7_round 35 = .ok (.iaload, 1) := by decide +kernel
theorem dX7_round_36 : decode cX7_round 36 = .ok (.ireturn, 1) := by decide +kernel
theorem dX7_wires_0 : decode cX7_wires 0 = .ok (.iload_n 1, 1) := by decide +kernel
theorem dX7_wires_1 : decode cX7_wires 1 = .ok (.iconst 2, 1) := by decide +kernel
theorem dX7_wires_2 : decode cX7_wires 2 = .ok (.bipush 8, 2) := by decide +kernel
theorem dX7_wires_4 : decode cX7_wires 4 = .ok (.invokestatic 70, 3) := by decide +kernel
theorem dX7_wires_7 : decode cX7_wires 7 = .ok (.ifCond .ne 6, 3) := by decide +kernel
theorem dX7_wires_10 : decode cX7_wires 10 = .ok (.bipush (-2), 2) := by decide +kernel
theorem dX7_wires_12 : decode cX7_wires 12 = .ok (.ireturn, 1) := by decide +kernel
theorem dX7_wires_13 : decode cX7_wires 13 = .ok (.aload_n 0, 1) := by decide +kernel
theorem dX7_wires_14 : decode cX7_wires 14 = .ok (.getfield 37, 3) := by decide +kernel
theorem dX7_wires_17 : decode cX7_wires 17 = .ok (.getfield 181, 3) := by decide +kernel
theorem dX7_wires_20 : decode cX7_wires 20 = .ok (.istore_n 2, 1) := by decide +kernel
theorem dX7_wires_21 : decode cX7_wires 21 = .ok (.aload_n 0, 1) := by decide +kernel
theorem dX7_wires_22 : decode cX7_wires 22 = .ok (.getfield 37, 3) := by decide +kernel
theorem dX7_wires_25 : decode cX7_wires 25 = .ok (.iload_n 1, 1) := by decide +kernel
theorem dX7_wires_26 : decode cX7_wires 26 = .ok (.invokevirtual 184, 3) := by decide +kernel
theorem dX7_wires_29 : decode cX7_wires 29 = .ok (.iload_n 2, 1) := by decide +kernel
theorem dX7_wires_30 : decode cX7_wires 30 = .ok (.ireturn, 1) := by decide +kernel
theorem dX7_compare_0 : decode cX7_compare 0 = .ok (.iload_n 1, 1) := by decide +kernel
theorem dX7_compare_1 : decode cX7_compare 1 = .ok (.iconst 0, 1) := by decide +kernel
theorem dX7_compare_2 : decode cX7_compare 2 = .ok (.aload_n 0, 1) := by decide +kernel
theorem dX7_compare_3 : decode cX7_compare 3 = .ok (.getfield 37, 3) := by decide +kernel
theorem dX7_compare_6 : decode cX7_compare 6 = .ok (.getfield 188, 3) := by decide +kernel
theorem dX7_compare_9 : decode cX7_compare 9 = .ok (.iconst 1, 1) := by decide +kernel
theorem dX7_compare_10 : decode cX7_compare 10 = .ok (.isub, 1) := by decide +kernel
theorem dX7_compare_11 : decode cX7_compare 11 = .ok (.invokestatic 70, 3) := by decide +kernel
theorem dX7_compare_14 : decode cX7_compare 14 = .ok (.ifCond .eq 20, 3) := by decide +kernel
theorem dX7_compare_17 : decode cX7_compare 17 = .ok (.iload_n 2, 1) := by decide +kernel
theorem dX7_compare_18 : decode cX7_compare 18 = .ok (.iconst 0, 1) := by decide +kernel
theorem dX7_compare_19 : decode cX7_compare 19 = .ok (.aload_n 0, 1) := by decide +kernel
theorem dX7_compare_20 : decode cX7_compare 20 = .ok (.getfield 37, 3) := by decide +kernel
theorem dX7_compare_23 : decode cX7_compare 23 = .ok (.getfield 188, 3) := by decide +kernel
theorem dX7_compare_26 : decode cX7_compare 26 = .ok (.iconst 1, 1) := by decide +kernel
theorem dX7_compare_27 : decode cX7_compare 27 = .ok (.isub, 1) := by decide +kernel
theorem dX7_compare_28 : decode cX7_compare 28 = .ok (.invokestatic 70, 3) := by decide +kernel
theorem dX7_compare_31 : decode cX7_compare 31 = .ok (.ifCond .ne 5, 3) := by decide +kernel
theorem dX7_compare_34 : decode cX7_compare 34 = .ok (.iconst (-1), 1) := by decide +kernel
theorem dX7_compare_35 : decode cX7_compare 35 = .ok (.ireturn, 1) := by decide +kernel
theorem dX7_compare_36 : decode cX7_compare 36 = .ok (.iload_n 1, 1) := by decide +kernel
theorem dX7_compare_37 : decode cX7_compare 37 = .ok (.iload_n 2, 1) := by decide +kernel
theorem dX7_compare_38 : decode cX7_compare 38 = .ok (.if_icmp .ne 6, 3) := by decide +kernel
theorem dX7_compare_41 : decode cX7_compare 41 = .ok (.bipush (-2), 2) := by decide +kernel
theorem dX7_compare_43 : decode cX7_compare 43 = .ok (.ireturn, 1) := by decide +kernel
theorem dX7_compare_44 : decode cX7_compare 44 = .ok (.aload_n 0, 1) := by decide +kernel
theorem dX7_compare_45 : decode cX7_compare 45 = .ok (.getfield 37, 3) := by decide +kernel
theorem dX7_compare_48 : decode cX7_compare 48 = .ok (.getfield 181, 3) := by decide +kernel
theorem dX7_compare_51 : decode cX7_compare 51 = .ok (.bipush 30, 2) := by decide +kernel
theorem dX7_compare_53 : decode cX7_compare 53 = .ok (.if_icmp .lt 8, 3) := by decide +kernel
theorem dX7_compare_56 : decode cX7_compare 56 = .ok (.bipush (-4), 2) := by decide +kernel
theorem dX7_compare_58 : decode cX7_compare 58 = .ok (.goto 12, 3) := by decide +kernel
theorem dX7_compare_61 : decode cX7_compare 61 = .ok (.aload_n 0, 1) := by decide +kernel
theorem dX7_compare_62 : decode cX7_compare 62 = .ok (.getfield 37, 3) := by decide +kernel
theorem dX7_compare_65 : decode cX7_compare 65 = .ok (.iload_n 1, 1) := by decide +kernel
theorem dX7_compare_66 : decode cX7_compare 66 = .ok (.iload_n 2, 1) := by decide +kernel
theorem dX7_compare_67 : decode cX7_compare 67 = .ok (.invokevirtual 190, 3) := by decide +kernel
theorem dX7_compare_70 : decode cX7_compare 70 = .ok (.ireturn, 1) := by decide +kernel
theorem dX7_back_0 : decode cX7_back 0 = .ok (.aload_n 0, 1) := by decide +kernel
theorem dX7_back_1 : decode cX7_back 1 = .ok (.getfield 37, 3) := by decide +kernel
theorem dX7_back_4 : decode cX7_back 4 = .ok (.getfield 181, 3) := by decide +kernel
theorem dX7_back_7 : decode cX7_back 7 = .ok (.ifCond .ne 8, 3) := by decide +kernel
theorem dX7_back_10 : decode cX7_back 10 = .ok (.bipush (-3), 2) := by decide +kernel
theorem dX7_back_12 : decode cX7_back 12 = .ok (.goto 10, 3) := by decide +kernel
theorem dX7_back_15 : decode cX7_back 15 = .ok (.aload_n 0, 1) := by decide +kernel
theorem dX7_back_16 : decode cX7_back 16 = .ok (.getfield 37, 3) := by decide +kernel
theorem dX7_back_19 : decode cX7_back 19 = .ok (.invokevirtual 193, 3) := by decide +kernel
theorem dX7_back_22 : decode cX7_back 22 = .ok (.ireturn, 1) := by decide +kernel
theorem dX7_sorter_0 : decode cX7_sorter 0 = .ok (.iload_n 1, 1) := by decide +kernel
theorem dX7_sorter_1 : decode cX7_sorter 1 = .ok (.tableswitch 97 0 5 #[39, 47, 55, 73, 81, 89], 39) := by decide +kernel
theorem dX7_sorter_40 : decode cX7_sorter 40 = .ok (.aload_n 0, 1) := by decide +kernel
theorem dX7_sorter_41 : decode cX7_sorter 41 = .ok (.getfield 37, 3) := by decide +kernel
theorem dX7_sorter_44 : decode cX7_sorter 44 = .ok (.getfield 181, 3) := by decide +kernel
theorem dX7_sorter_47 : decode cX7_sorter 47 = .ok (.ireturn, 1) := by decide +kernel
theorem dX7_sorter_48 : decode cX7_sorter 48 = .ok (.aload_n 0, 1) := by decide +kernel
theorem dX7_sorter_49 : decode cX7_sorter 49 = .ok (.getfield 37, 3) := by decide +kernel
theorem dX7_sorter_52 : decode cX7_sorter 52 = .ok (.getfield 196, 3) := by decide +kernel
theorem dX7_sorter_55 : decode cX7_sorter 55 = .ok (.ireturn, 1) := by decide +kernel
theorem dX7_sorter_56 : decode cX7_sorter 56 = .ok (.aload_n 0, 1) := by decide +kernel
theorem dX7_sorter_57 : decode cX7_sorter 57 = .ok (.getfield 37, 3) := by decide +kernel
theorem dX7_sorter_60 : decode cX7_sorter 60 = .ok (.invokevirtual 199, 3) := by decide +kernel
theorem dX7_sorter_63 : decode cX7_sorter 63 = .ok (.bipush (-9), 2) := by decide +kernel
theorem dX7_sorter_65 : decode cX7_sorter 65 = .ok (.if_icmp .ne 7, 3) := by decide +kernel
theorem dX7_sorter_68 : decode cX7_sorter 68 = .ok (.iconst 1, 1) := by decide +kernel
theorem dX7_sorter_69 : decode cX7_sorter 69 = .ok (.goto 4, 3) := by decide +kernel
theorem dX7_sorter_72 : decode cX7_sorter 72 = .ok (.iconst 0, 1) := by decide +kernel
theorem dX7_sorter_73 : decode cX7_sorter 73 = .ok (.ireturn, 1) := by decide +kernel
theorem dX7_sorter_74 : decode cX7_sorter 74 = .ok (.aload_n 0, 1) := by decide +kernel
theorem dX7_sorter_75 : decode cX7_sorter 75 = .ok (.getfield 37, 3) := by decide +kernel
theorem dX7_sorter_78 : decode cX7_sorter 78 = .ok (.invokevirtual 199, 3) := by decide +kernel
theorem dX7_sorter_81 : decode cX7_sorter 81 = .ok (.ireturn, 1) := by decide +kernel
theorem dX7_sorter_82 : decode cX7_sorter 82 = .ok (.aload_n 0, 1) := by decide +kernel
theorem dX7_sorter_83 : decode cX7_sorter 83 = .ok (.getfield 37, 3) := by decide +kernel
theorem dX7_sorter_86 : decode cX7_sorter 86 = .ok (.invokevirtual 202, 3) := by decide +kernel
theorem dX7_sorter_89 : decode cX7_sorter 89 = .ok (.ireturn, 1) := by decide +kernel
theorem dX7_sorter_90 : decode cX7_sorter 90 = .ok (.aload_n 0, 1) := by decide +kernel
theorem dX7_sorter_91 : decode cX7_sorter 91 = .ok (.getfield 37, 3) := by decide +kernel
theorem dX7_sorter_94 : decode cX7_sorter 94 = .ok (.invokevirtual 205, 3) := by decide +kernel
theorem dX7_sorter_97 : decode cX7_sorter 97 = .ok (.ireturn, 1) := by decide +kernel
theorem dX7_sorter_98 : decode cX7_sorter 98 = .ok (.bipush (-2), 2) := by decide +kernel
theorem dX7_sorter_100 : decode cX7_sorter 100 = .ok (.ireturn, 1) := by decide +kernel
theorem dX7_comparer_0 : decode cX7_comparer 0 = .ok (.iload_n 1, 1) := by decide +kernel
theorem dX7_comparer_1 : decode cX7_comparer 1 = .ok (.iconst 0, 1) := by decide +kernel
theorem dX7_comparer_2 : decode cX7_comparer 2 = .ok (.aload_n 0, 1) := by decide +kernel
theorem dX7_comparer_3 : decode cX7_comparer 3 = .ok (.getfield 37, 3) := by decide +kernel
theorem dX7_comparer_6 : decode cX7_comparer 6 = .ok (.getfield 181, 3) := by decide +kernel
theorem dX7_comparer_9 : decode cX7_comparer 9 = .ok (.iconst 1, 1) := by decide +kernel
theorem dX7_comparer_10 : decode cX7_comparer 10 = .ok (.isub, 1) := by decide +kernel
theorem dX7_comparer_11 : decode cX7_comparer 11 = .ok (.invokestatic 70, 3) := by decide +kernel
theorem dX7_comparer_14 : decode cX7_comparer 14 = .ok (.ifCond .ne 5, 3) := by decide +kernel
theorem dX7_comparer_17 : decode cX7_comparer 17 = .ok (.iconst (-1), 1) := by decide +kernel
theorem dX7_comparer_18 : decode cX7_comparer 18 = .ok (.ireturn, 1) := by decide +kernel
theorem dX7_comparer_19 : decode cX7_comparer 19 = .ok (.iload_n 2, 1) := by decide +kernel
theorem dX7_comparer_20 : decode cX7_comparer 20 = .ok (.tableswitch 93 0 4 #[36, 46, 56, 66, 84], 36) := by decide +kernel
theorem dX7_comparer_56 : decode cX7_comparer 56 = .ok (.aload_n 0, 1) := by decide +kernel
theorem dX7_comparer_57 : decode cX7_comparer 57 = .ok (.getfield 37, 3) := by decide +kernel
theorem dX7_comparer_60 : decode cX7_comparer 60 = .ok (.getfield 208, 3) := by decide +kernel
theorem dX7_comparer_63 : decode cX7_comparer 63 = .ok (.iload_n 1, 1) := by decide +kernel
theorem dX7_comparer_64 : decode cX7_comparer 64 = .ok (.iaload, 1) := by decide +kernel
theorem dX7_comparer_65 : decode cX7_comparer 65 = .ok (.ireturn, 1) := by decide +kernel
theorem dX7_comparer_66 : decode cX7_comparer 66 = .ok (.aload_n 0, 1) := by decide +kernel
theorem dX7_comparer_67 : decode cX7_comparer 67 = .ok (.getfield 37, 3) := by decide +kernel
theorem dX7_comparer_70 : decode cX7_comparer 70 = .ok (.getfield 211, 3) := by decide +kernel
theorem dX7_comparer_73 : decode cX7_comparer 73 = .ok (.iload_n 1, 1) := by decide +kernel
theorem dX7_comparer_74 : decode cX7_comparer 74 = .ok (.iaload, 1) := by decide +kernel
theorem dX7_comparer_75 : decode cX7_comparer 75 = .ok (.ireturn, 1) := by decide +kernel
theorem dX7_comparer_76 : decode cX7_comparer 76 = .ok (.aload_n 0, 1) := by decide +kernel
theorem dX7_comparer_77 : decode cX7_comparer 77 = .ok (.getfield 37, 3) := by decide +kernel
theorem dX7_comparer_80 : decode cX7_comparer 80 = .ok (.getfield 214, 3) := by decide +kernel
theorem dX7_comparer_83 : decode cX7_comparer 83 = .ok (.iload_n 1, 1) := by decide +kernel
theorem dX7_comparer_84 : decode cX7_comparer 84 = .ok (.iaload, 1) := by decide +kernel
theorem dX7_comparer_85 : decode cX7_comparer 85 = .ok (.ireturn, 1) := by decide +kernel
theorem dX7_comparer_86 : decode cX7_comparer 86 = .ok (.aload_n 0, 1) := by decide +kernel
theorem dX7_comparer_87 : decode cX7_comparer 87 = .ok (.getfield 37, 3) := by decide +kernel
theorem dX7_comparer_90 : decode cX7_comparer 90 = .ok (.getfield 217, 3) := by decide +kernel
theorem dX7_comparer_93 : decode cX7_comparer 93 = .ok (.iload_n 1, 1) := by decide +kernel
theorem dX7_comparer_94 : decode cX7_comparer 94 = .ok (.baload, 1) := by decide +kernel
theorem dX7_comparer_95 : decode cX7_comparer 95 = .ok (.ifCond .eq 7, 3) := by decide +kernel
theorem dX7_comparer_98 : decode cX7_comparer 98 = .ok (.iconst 1, 1) := by decide +kernel
theorem dX7_comparer_99 : decode cX7_comparer 99 = .ok (.goto 4, 3) := by decide +kernel
theorem dX7_comparer_102 : decode cX7_comparer 102 = .ok (.iconst 0, 1) := by decide +kernel
theorem dX7_comparer_103 : decode cX7_comparer 103 = .ok (.ireturn, 1) := by decide +kernel
theorem dX7_comparer_104 : decode cX7_comparer 104 = .ok (.aload_n 0, 1) := by decide +kernel
theorem dX7_comparer_105 : decode cX7_comparer 105 = .ok (.getfield 37, 3) := by decide +kernel
theorem dX7_comparer_108 : decode cX7_comparer 108 = .ok (.iload_n 1, 1) := by decide +kernel
theorem dX7_comparer_109 : decode cX7_comparer 109 = .ok (.invokevirtual 221, 3) := by decide +kernel
theorem dX7_comparer_112 : decode cX7_comparer 112 = .ok (.ireturn, 1) := by decide +kernel
theorem dX7_comparer_113 : decode cX7_comparer 113 = .ok (.bipush (-2), 2) := by decide +kernel
theorem dX7_comparer_115 : decode cX7_comparer 115 = .ok (.ireturn, 1) := by decide +kernel
theorem dX7_sort_0 : decode cX7_sort 0 = .ok (.aload_n 0, 1) := by decide +kernel
theorem dX7_sort_1 : decode cX7_sort 1 = .ok (.iconst 0, 1) := by decide +kernel
theorem dX7_sort_2 : decode cX7_sort 2 = .ok (.putfield 66, 3) := by decide +kernel
theorem dX7_sort_5 : decode cX7_sort 5 = .ok (.iload_n 1, 1) := by decide +kernel
theorem dX7_sort_6 : decode cX7_sort 6 = .ok (.iconst 0, 1) := by decide +kernel
theorem dX7_sort_7 : decode cX7_sort 7 = .ok (.iconst 3, 1) := by decide +kernel
theorem dX7_sort_8 : decode cX7_sort 8 = .ok (.invokestatic 70, 3) := by decide +kernel
theorem dX7_sort_11 : decode cX7_sort 11 = .ok (.ifCond .ne 5, 3) := by decide +kernel
theorem dX7_sort_14 : decode cX7_sort 14 = .ok (.iconst (-1), 1) := by decide +kernel
theorem dX7_sort_15 : decode cX7_sort 15 = .ok (.ireturn, 1) := by decide +kernel
theorem dX7_sort_16 : decode cX7_sort 16 = .ok (.iload_n 2, 1) := by decide +kernel
theorem dX7_sort_17 : decode cX7_sort 17 = .ok (.iconst 0, 1) := by decide +kernel
theorem dX7_sort_18 : decode cX7_sort 18 = .ok (.iconst 2, 1) := by decide +kernel
theorem dX7_sort_19 : decode cX7_sort 19 = .ok (.invokestatic 70, 3) := by decide +kernel
theorem dX7_sort_22 : decode cX7_sort 22 = .ok (.ifCond .ne 6, 3) := by decide +kernel
theorem dX7_sort_25 : decode cX7_sort 25 = .ok (.bipush (-2), 2) := by decide +kernel
theorem dX7_sort_27 : decode cX7_sort 27 = .ok (.ireturn, 1) := by decide +kernel
theorem dX7_sort_28 : decode cX7_sort 28 = .ok (.aload_n 0, 1) := by decide +kernel
theorem dX7_sort_29 : decode cX7_sort 29 = .ok (.getfield 58, 3) := by decide +kernel
theorem dX7_sort_32 : decode cX7_sort 32 = .ok (.iload_n 1, 1) := by decide +kernel
theorem dX7_sort_33 : decode cX7_sort 33 = .ok (.iload_n 2, 1) := by decide +kernel
theorem dX7_sort_34 : decode cX7_sort 34 = .ok (.iload_n 3, 1) := by decide +kernel
theorem dX7_sort_35 : decode cX7_sort 35 = .ok (.aload_n 0, 1) := by decide +kernel
theorem dX7_sort_36 : decode cX7_sort 36 = .ok (.getfield 37, 3) := by decide +kernel
theorem dX7_sort_39 : decode cX7_sort 39 = .ok (.getfield 188, 3) := by decide +kernel
theorem dX7_sort_42 : decode cX7_sort 42 = .ok (.invokevirtual 131, 3) := by decide +kernel
theorem dX7_sort_45 : decode cX7_sort 45 = .ok (.istore 4, 2) := by decide +kernel
theorem dX7_sort_47 : decode cX7_sort 47 = .ok (.iload 4, 2) := by decide +kernel
theorem dX7_sort_49 : decode cX7_sort 49 = .ok (.ifCond .eq 10, 3) := by decide +kernel
theorem dX7_sort_52 : decode cX7_sort 52 = .ok (.aload_n 0, 1) := by decide +kernel
theorem dX7_sort_53 : decode cX7_sort 53 = .ok (.iload 4, 2) := by decide +kernel
theorem dX7_sort_55 : decode cX7_sort 55 = .ok (.invokevirtual 135, 3) := by decide +kernel
theorem dX7_sort_58 : decode cX7_sort 58 = .ok (.ireturn, 1) := by decide +kernel
theorem dX7_sort_59 : decode cX7_sort 59 = .ok (.aload_n 0, 1) := by decide +kernel
theorem dX7_sort_60 : decode cX7_sort 60 = .ok (.getfield 58, 3) := by decide +kernel
theorem dX7_sort_63 : decode cX7_sort 63 = .ok (.iload_n 1, 1) := by decide +kernel
theorem dX7_sort_64 : decode cX7_sort 64 = .ok (.iload_n 3, 1) := by decide +kernel
theorem dX7_sort_65 : decode cX7_sort 65 = .ok (.aload_n 0, 1) := by decide +kernel
theorem dX7_sort_66 : decode cX7_sort 66 = .ok (.getfield 62, 3) := by decide +kernel
theorem dX7_sort_69 : decode cX7_sort 69 = .ok (.aload_n 0, 1) := by decide +kernel
theorem dX7_sort_70 : decode cX7_sort 70 = .ok (.getfield 37, 3) := by decide +kernel
theorem dX7_sort_73 : decode cX7_sort 73 = .ok (.getfield 188, 3) := by decide +kernel
theorem dX7_sort_76 : decode cX7_sort 76 = .ok (.invokevirtual 138, 3) := by decide +kernel
theorem dX7_sort_79 : decode cX7_sort 79 = .ok (.aload_n 0, 1) := by decide +kernel
theorem dX7_sort_80 : decode cX7_sort 80 = .ok (.getfield 37, 3) := by decide +kernel
theorem dX7_sort_83 : decode cX7_sort 83 = .ok (.aload_n 0, 1) := by decide +kernel
theorem dX7_sort_84 : decode cX7_sort 84 = .ok (.getfield 62, 3) := by decide +kernel
theorem dX7_sort_87 : decode cX7_sort 87 = .ok (.invokevirtual 224, 3) := by decide +kernel
theorem dX7_sort_90 : decode cX7_sort 90 = .ok (.aload_n 0, 1) := by decide +kernel
theorem dX7_sort_91 : decode cX7_sort 91 = .ok (.getfield 58, 3) := by decide +kernel
theorem dX7_sort_94 : decode cX7_sort 94 = .ok (.iload_n 1, 1) := by decide +kernel
theorem dX7_sort_95 : decode cX7_sort 95 = .ok (.iload_n 3, 1) := by decide +kernel
theorem dX7_sort_96 : decode cX7_sort 96 = .ok (.aload_n 0, 1) := by decide +kernel
theorem dX7_sort_97 : decode cX7_sort 97 = .ok (.getfield 62, 3) := by decide +kernel
theorem dX7_sort_100 : decode cX7_sort 100 = .ok (.aload_n 0, 1) := by decide +kernel
theorem dX7_sort_101 : decode cX7_sort 101 = .ok (.getfield 37, 3) := by decide +kernel
theorem dX7_sort_104 : decode cX7_sort 104 = .ok (.getfield 188, 3) := by decide +kernel
theorem dX7_sort_107 : decode cX7_sort 107 = .ok (.invokevirtual 228, 3) := by decide +kernel
theorem dX7_sort_110 : decode cX7_sort 110 = .ok (.ireturn, 1) := by decide +kernel
theorem dX7_bar_0 : decode cX7_bar 0 = .ok (.iload_n 1, 1) := by decide +kernel
theorem dX7_bar_1 : decode cX7_bar 1 = .ok (.iconst 1, 1) := by decide +kernel
theorem dX7_bar_2 : decode cX7_bar 2 = .ok (.iconst 5, 1) := by decide +kernel
theorem dX7_bar_3 : decode cX7_bar 3 = .ok (.invokestatic 70, 3) := by decide +kernel
theorem dX7_bar_6 : decode cX7_bar 6 = .ok (.ifCond .ne 6, 3) := by decide +kernel
theorem dX7_bar_9 : decode cX7_bar 9 = .ok (.bipush (-2), 2) := by decide +kernel
theorem dX7_bar_11 : decode cX7_bar 11 = .ok (.ireturn, 1) := by decide +kernel
theorem dX7_bar_12 : decode cX7_bar 12 = .ok (.aload_n 0, 1) := by decide +kernel
theorem dX7_bar_13 : decode cX7_bar 13 = .ok (.getfield 51, 3) := by decide +kernel
theorem dX7_bar_16 : decode cX7_bar 16 = .ok (.getfield 232, 3) := by decide +kernel
theorem dX7_bar_19 : decode cX7_bar 19 = .ok (.istore_n 2, 1) := by decide +kernel
theorem dX7_bar_20 : decode cX7_bar 20 = .ok (.aload_n 0, 1) := by decide +kernel
theorem dX7_bar_21 : decode cX7_bar 21 = .ok (.getfield 44, 3) := by decide +kernel
theorem dX7_bar_24 : decode cX7_bar 24 = .ok (.iload_n 1, 1) := by decide +kernel
theorem dX7_bar_25 : decode cX7_bar 25 = .ok (.invokevirtual 235, 3) := by decide +kernel
theorem dX7_bar_28 : decode cX7_bar 28 = .ok (.aload_n 0, 1) := by decide +kernel
theorem dX7_bar_29 : decode cX7_bar 29 = .ok (.getfield 51, 3) := by decide +kernel
theorem dX7_bar_32 : decode cX7_bar 32 = .ok (.iload_n 1, 1) := by decide +kernel
theorem dX7_bar_33 : decode cX7_bar 33 = .ok (.invokevirtual 236, 3) := by decide +kernel
theorem dX7_bar_36 : decode cX7_bar 36 = .ok (.iload_n 2, 1) := by decide +kernel
theorem dX7_bar_37 : decode cX7_bar 37 = .ok (.ireturn, 1) := by decide +kernel
theorem dX7_traffic_0 : decode cX7_traffic 0 = .ok (.aload_n 0, 1) := by decide +kernel
theorem dX7_traffic_1 : decode cX7_traffic 1 = .ok (.iload_n 1, 1) := by decide +kernel
theorem dX7_traffic_2 : decode cX7_traffic 2 = .ok (.invokevirtual 237, 3) := by decide +kernel
theorem dX7_traffic_5 : decode cX7_traffic 5 = .ok (.ifCond .eq 11, 3) := by decide +kernel
theorem dX7_traffic_8 : decode cX7_traffic 8 = .ok (.aload_n 0, 1) := by decide +kernel
theorem dX7_traffic_9 : decode cX7_traffic 9 = .ok (.iload_n 2, 1) := by decide +kernel
theorem dX7_traffic_10 : decode cX7_traffic 10 = .ok (.invokevirtual 237, 3) := by decide +kernel
theorem dX7_traffic_13 : decode cX7_traffic 13 = .ok (.ifCond .ne 5, 3) := by decide +kernel
theorem dX7_traffic_16 : decode cX7_traffic 16 = .ok (.iconst (-1), 1) := by decide +kernel
theorem dX7_traffic_17 : decode cX7_traffic 17 = .ok (.ireturn, 1) := by decide +kernel
theorem dX7_traffic_18 : decode cX7_traffic 18 = .ok (.iload_n 3, 1) := by decide +kernel
theorem dX7_traffic_19 : decode cX7_traffic 19 = .ok (.iconst 0, 1) := by decide +kernel
theorem dX7_traffic_20 : decode cX7_traffic 20 = .ok (.bipush 50, 2) := by decide +kernel
theorem dX7_traffic_22 : decode cX7_traffic 22 = .ok (.invokestatic 70, 3) := by decide +kernel
theorem dX7_traffic_25 : decode cX7_traffic 25 = .ok (.ifCond .eq 16, 3) := by decide +kernel
theorem dX7_traffic_28 : decode cX7_traffic 28 = .ok (.aload_n 0, 1) := by decide +kernel
theorem dX7_traffic_29 : decode cX7_traffic 29 = .ok (.getfield 44, 3) := by decide +kernel
theorem dX7_traffic_32 : decode cX7_traffic 32 = .ok (.iload_n 1, 1) := by decide +kernel
theorem dX7_traffic_33 : decode cX7_traffic 33 = .ok (.iload_n 2, 1) := by decide +kernel
theorem dX7_traffic_34 : decode cX7_traffic 34 = .ok (.iload_n 3, 1) := by decide +kernel
theorem dX7_traffic_35 : decode cX7_traffic 35 = .ok (.invokevirtual 240, 3) := by decide +kernel
theorem dX7_traffic_38 : decode cX7_traffic 38 = .ok (.goto 5, 3) := by decide +kernel
theorem dX7_traffic_41 : decode cX7_traffic 41 = .ok (.bipush (-2), 2) := by decide +kernel
theorem dX7_traffic_43 : decode cX7_traffic 43 = .ok (.ireturn, 1) := by decide +kernel
theorem dX7_span_0 : decode cX7_span 0 = .ok (.aload_n 0, 1) := by decide +kernel
theorem dX7_span_1 : decode cX7_span 1 = .ok (.getfield 44, 3) := by decide +kernel
theorem dX7_span_4 : decode cX7_span 4 = .ok (.invokevirtual 244, 3) := by decide +kernel
theorem dX7_span_7 : decode cX7_span 7 = .ok (.ireturn, 1) := by decide +kernel
theorem dX7_parted_0 : decode cX7_parted 0 = .ok (.iload_n 1, 1) := by decide +kernel
theorem dX7_parted_1 : decode cX7_parted 1 = .ok (.iconst 0, 1) := by decide +kernel
theorem dX7_parted_2 : decode cX7_parted 2 = .ok (.aload_n 0, 1) := by decide +kernel
theorem dX7_parted_3 : decode cX7_parted 3 = .ok (.getfield 44, 3) := by decide +kernel
theorem dX7_parted_6 : decode cX7_parted 6 = .ok (.invokevirtual 244, 3) := by decide +kernel
theorem dX7_parted_9 : decode cX7_parted 9 = .ok (.iconst 1, 1) := by decide +kernel
theorem dX7_parted_10 : decode cX7_parted 10 = .ok (.isub, 1) := by decide +kernel
theorem dX7_parted_11 : decode cX7_parted 11 = .ok (.invokestatic 70, 3) := by decide +kernel
theorem dX7_parted_14 : decode cX7_parted 14 = .ok (.ifCond .eq 11, 3) := by decide +kernel
theorem dX7_parted_17 : decode cX7_parted 17 = .ok (.aload_n 0, 1) := by decide +kernel
theorem dX7_parted_18 : decode cX7_parted 18 = .ok (.iload_n 2, 1) := by decide +kernel
theorem dX7_parted_19 : decode cX7_parted 19 = .ok (.invokevirtual 237, 3) := by decide +kernel
theorem dX7_parted_22 : decode cX7_parted 22 = .ok (.ifCond .ne 5, 3) := by decide +kernel
theorem dX7_parted_25 : decode cX7_parted 25 = .ok (.iconst (-1), 1) := by decide +kernel
theorem dX7_parted_26 : decode cX7_parted 26 = .ok (.ireturn, 1) := by decide +kernel
theorem dX7_parted_27 : decode cX7_parted 27 = .ok (.aload_n 0, 1) := by decide +kernel
theorem dX7_parted_28 : decode cX7_parted 28 = .ok (.getfield 44, 3) := by decide +kernel
theorem dX7_parted_31 : decode cX7_parted 31 = .ok (.iload_n 1, 1) := by decide +kernel
theorem dX7_parted_32 : decode cX7_parted 32 = .ok (.iload_n 2, 1) := by decide +kernel
theorem dX7_parted_33 : decode cX7_parted 33 = .ok (.invokevirtual 247, 3) := by decide +kernel
theorem dX7_parted_36 : decode cX7_parted 36 = .ok (.ireturn, 1) := by decide +kernel
theorem dX7_changes_0 : decode cX7_changes 0 = .ok (.aload_n 0, 1) := by decide +kernel
theorem dX7_changes_1 : decode cX7_changes 1 = .ok (.getfield 44, 3) := by decide +kernel
theorem dX7_changes_4 : decode cX7_changes 4 = .ok (.invokevirtual 250, 3) := by decide +kernel
theorem dX7_changes_7 : decode cX7_changes 7 = .ok (.ireturn, 1) := by decide +kernel
theorem dX7_slot_0 : decode cX7_slot 0 = .ok (.aload_n 0, 1) := by decide +kernel
theorem dX7_slot_1 : decode cX7_slot 1 = .ok (.iconst 0, 1) := by decide +kernel
theorem dX7_slot_2 : decode cX7_slot 2 = .ok (.putfield 66, 3) := by decide +kernel
theorem dX7_slot_5 : decode cX7_slot 5 = .ok (.iload_n 2, 1) := by decide +kernel
theorem dX7_slot_6 : decode cX7_slot 6 = .ok (.iconst 0, 1) := by decide +kernel
theorem dX7_slot_7 : decode cX7_slot 7 = .ok (.iconst 3, 1) := by decide +kernel
theorem dX7_slot_8 : decode cX7_slot 8 = .ok (.invokestatic 70, 3) := by decide +kernel
theorem dX7_slot_11 : decode cX7_slot 11 = .ok (.ifCond .ne 5, 3) := by decide +kernel
theorem dX7_slot_14 : decode cX7_slot 14 = .ok (.iconst (-1), 1) := by decide +kernel
theorem dX7_slot_15 : decode cX7_slot 15 = .ok (.ireturn, 1) := by decide +kernel
theorem dX7_slot_16 : decode cX7_slot 16 = .ok (.iload_n 3, 1) := by decide +kernel
theorem dX7_slot_17 : decode cX7_slot 17 = .ok (.iconst 0, 1) := by decide +kernel
theorem dX7_slot_18 : decode cX7_slot 18 = .ok (.iconst 2, 1) := by decide +kernel
theorem dX7_slot_19 : decode cX7_slot 19 = .ok (.invokestatic 70, 3) := by decide +kernel
theorem dX7_slot_22 : decode cX7_slot 22 = .ok (.ifCond .eq 12, 3) := by decide +kernel
theorem dX7_slot_25 : decode cX7_slot 25 = .ok (.iload_n 1, 1) := by decide +kernel
theorem dX7_slot_26 : decode cX7_slot 26 = .ok (.iconst 0, 1) := by decide +kernel
theorem dX7_slot_27 : decode cX7_slot 27 = .ok (.iconst 2, 1) := by decide +kernel
theorem dX7_slot_28 : decode cX7_slot 28 = .ok (.invokestatic 70, 3) := by decide +kernel
theorem dX7_slot_31 : decode cX7_slot 31 = .ok (.ifCond .ne 6, 3) := by decide +kernel
theorem dX7_slot_34 : decode cX7_slot 34 = .ok (.bipush (-2), 2) := by decide +kernel
theorem dX7_slot_36 : decode cX7_slot 36 = .ok (.ireturn, 1) := by decide +kernel
theorem dX7_slot_37 : decode cX7_slot 37 = .ok (.aload_n 0, 1) := by decide +kernel
theorem dX7_slot_38 : decode cX7_slot 38 = .ok (.getfield 58, 3) := by decide +kernel
theorem dX7_slot_41 : decode cX7_slot 41 = .ok (.iload_n 2, 1) := by decide +kernel
theorem dX7_slot_42 : decode cX7_slot 42 = .ok (.iload_n 3, 1) := by decide +kernel
theorem dX7_slot_43 : decode cX7_slot 43 = .ok (.iload 4, 2) := by decide +kernel
theorem dX7_slot_45 : decode cX7_slot 45 = .ok (.aload_n 0, 1) := by decide +kernel
theorem dX7_slot_46 : decode cX7_slot 46 = .ok (.getfield 51, 3) := by decide +kernel
theorem dX7_slot_49 : decode cX7_slot 49 = .ok (.getfield 232, 3) := by decide +kernel
theorem dX7_slot_52 : decode cX7_slot 52 = .ok (.invokevirtual 131, 3) := by decide +kernel
theorem dX7_slot_55 : decode cX7_slot 55 = .ok (.istore 5, 2) := by decide +kernel
theorem dX7_slot_57 : decode cX7_slot 57 = .ok (.iload 5, 2) := by decide +kernel
theorem dX7_slot_59 : decode cX7_slot 59 = .ok (.ifCond .eq 10, 3) := by decide +kernel
theorem dX7_slot_62 : decode cX7_slot 62 = .ok (.aload_n 0, 1) := by decide +kernel
theorem dX7_slot_63 : decode cX7_slot 63 = .ok (.iload 5, 2) := by decide +kernel
theorem dX7_slot_65 : decode cX7_slot 65 = .ok (.invokevirtual 135, 3) := by decide +kernel
theorem dX7_slot_68 : decode cX7_slot 68 = .ok (.ireturn, 1) := by decide +kernel
theorem dX7_slot_69 : decode cX7_slot 69 = .ok (.aload_n 0, 1) := by decide +kernel
theorem dX7_slot_70 : decode cX7_slot 70 = .ok (.getfield 58, 3) := by decide +kernel
theorem dX7_slot_73 : decode cX7_slot 73 = .ok (.iload_n 2, 1) := by decide +kernel
theorem dX7_slot_74 : decode cX7_slot 74 = .ok (.iload 4, 2) := by decide +kernel
theorem dX7_slot_76 : decode cX7_slot 76 = .ok (.aload_n 0, 1) := by decide +kernel
theorem dX7_slot_77 : decode cX7_slot 77 = .ok (.getfield 62, 3) := by decide +kernel
theorem dX7_slot_80 : decode cX7_slot 80 = .ok (.aload_n 0, 1) := by decide +kernel
theorem dX7_slot_81 : decode cX7_slot 81 = .ok (.getfield 51, 3) := by decide +kernel
theorem dX7_slot_84 : decode cX7_slot 84 = .ok (.getfield 232, 3) := by decide +kernel
theorem dX7_slot_87 : decode cX7_slot 87 = .ok (.invokevirtual 138, 3) := by decide +kernel
theorem dX7_slot_90 : decode cX7_slot 90 = .ok (.aload_n 0, 1) := by decide +kernel
theorem dX7_slot_91 : decode cX7_slot 91 = .ok (.getfield 51, 3) := by decide +kernel
theorem dX7_slot_94 : decode cX7_slot 94 = .ok (.aload_n 0, 1) := by decide +kernel
theorem dX7_slot_95 : decode cX7_slot 95 = .ok (.getfield 62, 3) := by decide +kernel
theorem dX7_slot_98 : decode cX7_slot 98 = .ok (.invokevirtual 253, 3) := by decide +kernel
theorem dX7_slot_101 : decode cX7_slot 101 = .ok (.istore 6, 2) := by decide +kernel
theorem dX7_slot_103 : decode cX7_slot 103 = .ok (.iload 6, 2) := by decide +kernel
theorem dX7_slot_105 : decode cX7_slot 105 = .ok (.ifCond .eq 8, 3) := by decide +kernel
theorem dX7_slot_108 : decode cX7_slot 108 = .ok (.iload 6, 2) := by decide +kernel
theorem dX7_slot_110 : decode cX7_slot 110 = .ok (.goto 15, 3) := by decide +kernel
theorem dX7_slot_113 : decode cX7_slot 113 = .ok (.aload_n 0, 1) := by decide +kernel
theorem dX7_slot_114 : decode cX7_slot 114 = .ok (.getfield 51, 3) := by decide +kernel
theorem dX7_slot_117 : decode cX7_slot 117 = .ok (.iload_n 1, 1) := by decide +kernel
theorem dX7_slot_118 : decode cX7_slot 118 = .ok (.aload_n 0, 1) := by decide +kernel
theorem dX7_slot_119 : decode cX7_slot 119 = .ok (.getfield 62, 3) := by decide +kernel
theorem dX7_slot_122 : decode cX7_slot 122 = .ok (.invokevirtual 256, 3) := by decide +kernel
theorem dX7_slot_125 : decode cX7_slot 125 = .ok (.ireturn, 1) := by decide +kernel
theorem dX7_queue_0 : decode cX7_queue 0 = .ok (.iload_n 3, 1) := by decide +kernel
theorem dX7_queue_1 : decode cX7_queue 1 = .ok (.iconst 0, 1) := by decide +kernel
theorem dX7_queue_2 : decode cX7_queue 2 = .ok (.iconst 3, 1) := by decide +kernel
theorem dX7_queue_3 : decode cX7_queue 3 = .ok (.invokestatic 70, 3) := by decide +kernel
theorem dX7_queue_6 : decode cX7_queue 6 = .ok (.ifCond .ne 6, 3) := by decide +kernel
theorem dX7_queue_9 : decode cX7_queue 9 = .ok (.bipush (-2), 2) := by decide +kernel
theorem dX7_queue_11 : decode cX7_queue 11 = .ok (.ireturn, 1) := by decide +kernel
theorem dX7_queue_12 : decode cX7_queue 12 = .ok (.aload_n 0, 1) := by decide +kernel
theorem dX7_queue_13 : decode cX7_queue 13 = .ok (.iload_n 1, 1) := by decide +kernel
theorem dX7_queue_14 : decode cX7_queue 14 = .ok (.invokevirtual 237, 3) := by decide +kernel
theorem dX7_queue_17 : decode cX7_queue 17 = .ok (.ifCond .eq 15, 3) := by decide +kernel
theorem dX7_queue_20 : decode cX7_queue 20 = .ok (.iload_n 3, 1) := by decide +kernel
theorem dX7_queue_21 : decode cX7_queue 21 = .ok (.ifCond .ne 13, 3) := by decide +kernel
theorem dX7_queue_24 : decode cX7_queue 24 = .ok (.aload_n 0, 1) := by decide +kernel
theorem dX7_queue_25 : decode cX7_queue 25 = .ok (.iload_n 2, 1) := by decide +kernel
theorem dX7_queue_26 : decode cX7_queue 26 = .ok (.invokevirtual 237, 3) := by decide +kernel
theorem dX7_queue_29 : decode cX7_queue 29 = .ok (.ifCond .ne 5, 3) := by decide +kernel
theorem dX7_queue_32 : decode cX7_queue 32 = .ok (.iconst (-1), 1) := by decide +kernel
theorem dX7_queue_33 : decode cX7_queue 33 = .ok (.ireturn, 1) := by decide +kernel
theorem dX7_queue_34 : decode cX7_queue 34 = .ok (.iload_n 3, 1) := by decide +kernel
theorem dX7_queue_35 : decode cX7_queue 35 = .ok (.tableswitch 57 0 2 #[25, 37, 47], 25) := by decide +kernel
theorem dX7_queue_60 : decode cX7_queue 60 = .ok (.aload_n 0, 1) := by decide +kernel
theorem dX7_queue_61 : decode cX7_queue 61 = .ok (.getfield 51, 3) := by decide +kernel
theorem dX7_queue_64 : decode cX7_queue 64 = .ok (.getfield 260, 3) := by decide +kernel
theorem dX7_queue_67 : decode cX7_queue 67 = .ok (.iload_n 1, 1) := by decide +kernel
theorem dX7_queue_68 : decode cX7_queue 68 = .ok (.aaload, 1) := by decide +kernel
theorem dX7_queue_69 : decode cX7_queue 69 = .ok (.iload_n 2, 1) := by decide +kernel
theorem dX7_queue_70 : decode cX7_queue 70 = .ok (.iaload, 1) := by decide +kernel
theorem dX7_queue_71 : decode cX7_queue 71 = .ok (.ireturn, 1) := by decide +kernel
theorem dX7_queue_72 : decode cX7_queue 72 = .ok (.aload_n 0, 1) := by decide +kernel
theorem dX7_queue_73 : decode cX7_queue 73 = .ok (.getfield 51, 3) := by decide +kernel
theorem dX7_queue_76 : decode cX7_queue 76 = .ok (.getfield 264, 3) := by decide +kernel
theorem dX7_queue_79 : decode cX7_queue 79 = .ok (.iload_n 1, 1) := by decide +kernel
theorem dX7_queue_80 : decode cX7_queue 80 = .ok (.iaload, 1) := by decide +kernel
theorem dX7_queue_81 : decode cX7_queue 81 = .ok (.ireturn, 1) := by decide +kernel
theorem dX7_queue_82 : decode cX7_queue 82 = .ok (.aload_n 0, 1) := by decide +kernel
theorem dX7_queue_83 : decode cX7_queue 83 = .ok (.getfield 51, 3) := by decide +kernel
theorem dX7_queue_86 : decode cX7_queue 86 = .ok (.getfield 267, 3) := by decide +kernel
theorem dX7_queue_89 : decode cX7_queue 89 = .ok (.iload_n 1, 1) := by decide +kernel
theorem dX7_queue_90 : decode cX7_queue 90 = .ok (.iaload, 1) := by decide +kernel
theorem dX7_queue_91 : decode cX7_queue 91 = .ok (.ireturn, 1) := by decide +kernel
theorem dX7_queue_92 : decode cX7_queue 92 = .ok (.aload_n 0, 1) := by decide +kernel
theorem dX7_queue_93 : decode cX7_queue 93 = .ok (.getfield 51, 3) := by decide +kernel
theorem dX7_queue_96 : decode cX7_queue 96 = .ok (.getfield 270, 3) := by decide +kernel
theorem dX7_queue_99 : decode cX7_queue 99 = .ok (.iload_n 1, 1) := by decide +kernel
theorem dX7_queue_100 : decode cX7_queue 100 = .ok (.iaload, 1) := by decide +kernel
theorem dX7_queue_101 : decode cX7_queue 101 = .ok (.ireturn, 1) := by decide +kernel
theorem dX7_waiting_0 : decode cX7_waiting 0 = .ok (.aload_n 0, 1) := by decide +kernel
theorem dX7_waiting_1 : decode cX7_waiting 1 = .ok (.getfield 51, 3) := by decide +kernel
theorem dX7_waiting_4 : decode cX7_waiting 4 = .ok (.invokevirtual 273, 3) := by decide +kernel
theorem dX7_waiting_7 : decode cX7_waiting 7 = .ok (.ireturn, 1) := by decide +kernel
theorem dX7_lost_0 : decode cX7_lost 0 = .ok (.iload_n 2, 1) := by decide +kernel
theorem dX7_lost_1 : decode cX7_lost 1 = .ok (.iconst 1, 1) := by decide +kernel
theorem dX7_lost_2 : decode cX7_lost 2 = .ok (.bipush 20, 2) := by decide +kernel
theorem dX7_lost_4 : decode cX7_lost 4 = .ok (.invokestatic 70, 3) := by decide +kernel
theorem dX7_lost_7 : decode cX7_lost 7 = .ok (.ifCond .eq 21, 3) := by decide +kernel
theorem dX7_lost_10 : decode cX7_lost 10 = .ok (.iload_n 1, 1) := by decide +kernel
theorem dX7_lost_11 : decode cX7_lost 11 = .ok (.iconst 0, 1) := by decide +kernel
theorem dX7_lost_12 : decode cX7_lost 12 = .ok (.iload_n 2, 1) := by decide +kernel
theorem dX7_lost_13 : decode cX7_lost 13 = .ok (.invokestatic 70, 3) := by decide +kernel
theorem dX7_lost_16 : decode cX7_lost 16 = .ok (.ifCond .eq 12, 3) := by decide +kernel
theorem dX7_lost_19 : decode cX7_lost 19 = .ok (.iload_n 3, 1) := by decide +kernel
theorem dX7_lost_20 : decode cX7_lost 20 = .ok (.iconst 0, 1) := by decide +kernel
theorem dX7_lost_21 : decode cX7_lost 21 = .ok (.iconst 1, 1) := by decide +kernel
theorem dX7_lost_22 : decode cX7_lost 22 = .ok (.invokestatic 70, 3) := by decide +kernel
theorem dX7_lost_25 : decode cX7_lost 25 = .ok (.ifCond .ne 7, 3) := by decide +kernel
theorem dX7_lost_28 : decode cX7_lost 28 = .ok (.ldc2_w 276, 3) := by decide +kernel
theorem dX7_lost_31 : decode cX7_lost 31 = .ok (.lreturn, 1) := by decide +kernel
theorem dX7_lost_32 : decode cX7_lost 32 = .ok (.aload_n 0, 1) := by decide +kernel
theorem dX7_lost_33 : decode cX7_lost 33 = .ok (.getfield 12, 3) := by decide +kernel
theorem dX7_lost_36 : decode cX7_lost 36 = .ok (.iload_n 1, 1) := by decide +kernel
theorem dX7_lost_37 : decode cX7_lost 37 = .ok (.iload_n 2, 1) := by decide +kernel
theorem dX7_lost_38 : decode cX7_lost 38 = .ok (.iload_n 3, 1) := by decide +kernel
theorem dX7_lost_39 : decode cX7_lost 39 = .ok (.invokevirtual 278, 3) := by decide +kernel
theorem dX7_lost_42 : decode cX7_lost 42 = .ok (.lreturn, 1) := by decide +kernel
theorem dX7_sheet_0 : decode cX7_sheet 0 = .ok (.aload_n 0, 1) := by decide +kernel
theorem dX7_sheet_1 : decode cX7_sheet 1 = .ok (.iconst 0, 1) := by decide +kernel
theorem dX7_sheet_2 : decode cX7_sheet 2 = .ok (.putfield 66, 3) := by decide +kernel
theorem dX7_sheet_5 : decode cX7_sheet 5 = .ok (.iload_n 1, 1) := by decide +kernel
theorem dX7_sheet_6 : decode cX7_sheet 6 = .ok (.iconst 0, 1) := by decide +kernel
theorem dX7_sheet_7 : decode cX7_sheet 7 = .ok (.iconst 3, 1) := by decide +kernel
theorem dX7_sheet_8 : decode cX7_sheet 8 = .ok (.invokestatic 70, 3) := by decide +kernel
theorem dX7_sheet_11 : decode cX7_sheet 11 = .ok (.ifCond .ne 5, 3) := by decide +kernel
theorem dX7_sheet_14 : decode cX7_sheet 14 = .ok (.iconst (-1), 1) := by decide +kernel
theorem dX7_sheet_15 : decode cX7_sheet 15 = .ok (.ireturn, 1) := by decide +kernel
theorem dX7_sheet_16 : decode cX7_sheet 16 = .ok (.iload_n 2, 1) := by decide +kernel
theorem dX7_sheet_17 : decode cX7_sheet 17 = .ok (.iconst 0, 1) := by decide +kernel
theorem dX7_sheet_18 : decode cX7_sheet 18 = .ok (.iconst 2, 1) := by decide +kernel
theorem dX7_sheet_19 : decode cX7_sheet 19 = .ok (.invokestatic 70, 3) := by decide +kernel
theorem dX7_sheet_22 : decode cX7_sheet 22 = .ok (.ifCond .eq 9, 3) := by decide +kernel
theorem dX7_sheet_25 : decode cX7_sheet 25 = .ok (.iload_n 3, 1) := by decide +kernel
theorem dX7_sheet_26 : decode cX7_sheet 26 = .ok (.bipush 60, 2) := by decide +kernel
theorem dX7_sheet_28 : decode cX7_sheet 28 = .ok (.if_icmp .le 6, 3) := by decide +kernel
theorem dX7_sheet_31 : decode cX7_sheet 31 = .ok (.bipush (-2), 2) := by decide +kernel
theorem dX7_sheet_33 : decode cX7_sheet 33 = .ok (.ireturn, 1) := by decide +kernel
theorem dX7_sheet_34 : decode cX7_sheet 34 = .ok (.iload_n 3, 1) := by decide +kernel
theorem dX7_sheet_35 : decode cX7_sheet 35 = .ok (.ifCond .ge 9, 3) := by decide +kernel
theorem dX7_sheet_38 : decode cX7_sheet 38 = .ok (.aload_n 0, 1) := by decide +kernel
theorem dX7_sheet_39 : decode cX7_sheet 39 = .ok (.iconst 4, 1) := by decide +kernel
theorem dX7_sheet_40 : decode cX7_sheet 40 = .ok (.invokevirtual 135, 3) := by decide +kernel
theorem dX7_sheet_43 : decode cX7_sheet 43 = .ok (.ireturn, 1) := by decide +kernel
theorem dX7_sheet_44 : decode cX7_sheet 44 = .ok (.aload_n 0, 1) := by decide +kernel
theorem dX7_sheet_45 : decode cX7_sheet 45 = .ok (.getfield 58, 3) := by decide +kernel
theorem dX7_sheet_48 : decode cX7_sheet 48 = .ok (.iload_n 1, 1) := by decide +kernel
theorem dX7_sheet_49 : decode cX7_sheet 49 = .ok (.iload_n 2, 1) := by decide +kernel
theorem dX7_sheet_50 : decode cX7_sheet 50 = .ok (.iload_n 3, 1) := by decide +kernel
theorem dX7_sheet_51 : decode cX7_sheet 51 = .ok (.invokevirtual 282, 3) := by decide +kernel
theorem dX7_sheet_54 : decode cX7_sheet 54 = .ok (.iconst 1, 1) := by decide +kernel
theorem dX7_sheet_55 : decode cX7_sheet 55 = .ok (.ireturn, 1) := by decide +kernel
theorem dX7_lose_0 : decode cX7_lose 0 = .ok (.iload_n 1, 1) := by decide +kernel
theorem dX7_lose_1 : decode cX7_lose 1 = .ok (.iconst 0, 1) := by decide +kernel
theorem dX7_lose_2 : decode cX7_lose 2 = .ok (.iconst 3, 1) := by decide +kernel
theorem dX7_lose_3 : decode cX7_lose 3 = .ok (.invokestatic 70, 3) := by decide +kernel
theorem dX7_lose_6 : decode cX7_lose 6 = .ok (.ifCond .ne 5, 3) := by decide +kernel
theorem dX7_lose_9 : decode cX7_lose 9 = .ok (.iconst (-1), 1) := by decide +kernel
theorem dX7_lose_10 : decode cX7_lose 10 = .ok (.ireturn, 1) := by decide +kernel
theorem dX7_lose_11 : decode cX7_lose 11 = .ok (.aload_n 0, 1) := by decide +kernel
theorem dX7_lose_12 : decode cX7_lose 12 = .ok (.getfield 58, 3) := by decide +kernel
theorem dX7_lose_15 : decode cX7_lose 15 = .ok (.iload_n 1, 1) := by decide +kernel
theorem dX7_lose_16 : decode cX7_lose 16 = .ok (.invokevirtual 285, 3) := by decide +kernel
theorem dX7_lose_19 : decode cX7_lose 19 = .ok (.ifCond .eq 7, 3) := by decide +kernel
theorem dX7_lose_22 : decode cX7_lose 22 = .ok (.iconst 1, 1) := by decide +kernel
theorem dX7_lose_23 : decode cX7_lose 23 = .ok (.goto 4, 3) := by decide +kernel
theorem dX7_lose_26 : decode cX7_lose 26 = .ok (.iconst 0, 1) := by decide +kernel
theorem dX7_lose_27 : decode cX7_lose 27 = .ok (.ireturn, 1) := by decide +kernel
theorem dX7_put_0 : decode cX7_put 0 = .ok (.aload_n 0, 1) := by decide +kernel
theorem dX7_put_1 : decode cX7_put 1 = .ok (.iconst 0, 1) := by decide +kernel
theorem dX7_put_2 : decode cX7_put 2 = .ok (.putfield 66, 3) := by decide +kernel
theorem dX7_put_5 : decode cX7_put 5 = .ok (.iload_n 1, 1) := by decide +kernel
theorem dX7_put_6 : decode cX7_put 6 = .ok (.iconst 0, 1) := by decide +kernel
theorem dX7_put_7 : decode cX7_put 7 = .ok (.iconst 3, 1) := by decide +kernel
theorem dX7_put_8 : decode cX7_put 8 = .ok (.invokestatic 70, 3) := by decide +kernel
theorem dX7_put_11 : decode cX7_put 11 = .ok (.ifCond .ne 5, 3) := by decide +kernel
theorem dX7_put_14 : decode cX7_put 14 = .ok (.iconst (-1), 1) := by decide +kernel
theorem dX7_put_15 : decode cX7_put 15 = .ok (.ireturn, 1) := by decide +kernel
theorem dX7_put_16 : decode cX7_put 16 = .ok (.aload_n 0, 1) := by decide +kernel
theorem dX7_put_17 : decode cX7_put 17 = .ok (.getfield 58, 3) := by decide +kernel
theorem dX7_put_20 : decode cX7_put 20 = .ok (.iload_n 1, 1) := by decide +kernel
theorem dX7_put_21 : decode cX7_put 21 = .ok (.aload_n 0, 1) := by decide +kernel
theorem dX7_put_22 : decode cX7_put 22 = .ok (.getfield 58, 3) := by decide +kernel
theorem dX7_put_25 : decode cX7_put 25 = .ok (.getfield 288, 3) := by decide +kernel
theorem dX7_put_28 : decode cX7_put 28 = .ok (.iload_n 1, 1) := by decide +kernel
theorem dX7_put_29 : decode cX7_put 29 = .ok (.iaload, 1) := by decide +kernel
theorem dX7_put_30 : decode cX7_put 30 = .ok (.iload_n 2, 1) := by decide +kernel
theorem dX7_put_31 : decode cX7_put 31 = .ok (.iconst 1, 1) := by decide +kernel
theorem dX7_put_32 : decode cX7_put 32 = .ok (.invokevirtual 131, 3) := by decide +kernel
theorem dX7_put_35 : decode cX7_put 35 = .ok (.istore 4, 2) := by decide +kernel
theorem dX7_put_37 : decode cX7_put 37 = .ok (.iload 4, 2) := by decide +kernel
theorem dX7_put_39 : decode cX7_put 39 = .ok (.ifCond .eq 10, 3) := by decide +kernel
theorem dX7_put_42 : decode cX7_put 42 = .ok (.aload_n 0, 1) := by decide +kernel
theorem dX7_put_43 : decode cX7_put 43 = .ok (.iload 4, 2) := by decide +kernel
theorem dX7_put_45 : decode cX7_put 45 = .ok (.invokevirtual 135, 3) := by decide +kernel
theorem dX7_put_48 : decode cX7_put 48 = .ok (.ireturn, 1) := by decide +kernel
theorem dX7_put_49 : decode cX7_put 49 = .ok (.aload_n 0, 1) := by decide +kernel
theorem dX7_put_50 : decode cX7_put 50 = .ok (.getfield 58, 3) := by decide +kernel
theorem dX7_put_53 : decode cX7_put 53 = .ok (.iload_n 1, 1) := by decide +kernel
theorem dX7_put_54 : decode cX7_put 54 = .ok (.iload_n 2, 1) := by decide +kernel
theorem dX7_put_55 : decode cX7_put 55 = .ok (.iload_n 3, 1) := by decide +kernel
theorem dX7_put_56 : decode cX7_put 56 = .ok (.invokevirtual 291, 3) := by decide +kernel
theorem dX7_put_59 : decode cX7_put 59 = .ok (.iconst 1, 1) := by decide +kernel
theorem dX7_put_60 : decode cX7_put 60 = .ok (.ireturn, 1) := by decide +kernel
theorem dX7_cell_0 : decode cX7_cell 0 = .ok (.aload_n 0, 1) := by decide +kernel
theorem dX7_cell_1 : decode cX7_cell 1 = .ok (.iconst 0, 1) := by decide +kernel
theorem dX7_cell_2 : decode cX7_cell 2 = .ok (.putfield 66, 3) := by decide +kernel
theorem dX7_cell_5 : decode cX7_cell 5 = .ok (.iload_n 1, 1) := by decide +kernel
theorem dX7_cell_6 : decode cX7_cell 6 = .ok (.iconst 0, 1) := by decide +kernel
theorem dX7_cell_7 : decode cX7_cell 7 = .ok (.iconst 3, 1) := by decide +kernel
theorem dX7_cell_8 : decode cX7_cell 8 = .ok (.invokestatic 70, 3) := by decide +kernel
theorem dX7_cell_11 : decode cX7_cell 11 = .ok (.ifCond .eq 12, 3) := by decide +kernel
theorem dX7_cell_14 : decode cX7_cell 14 = .ok (.iload_n 3, 1) := by decide +kernel
theorem dX7_cell_15 : decode cX7_cell 15 = .ok (.iconst 0, 1) := by decide +kernel
theorem dX7_cell_16 : decode cX7_cell 16 = .ok (.iconst 2, 1) := by decide +kernel
theorem dX7_cell_17 : decode cX7_cell 17 = .ok (.invokestatic 70, 3) := by decide +kernel
theorem dX7_cell_20 : decode cX7_cell 20 = .ok (.ifCond .ne 7, 3) := by decide +kernel
theorem dX7_cell_23 : decode cX7_cell 23 = .ok (.ldc2_w 276, 3) := by decide +kernel
theorem dX7_cell_26 : decode cX7_cell 26 = .ok (.lreturn, 1) := by decide +kernel
theorem dX7_cell_27 : decode cX7_cell 27 = .ok (.aload_n 0, 1) := by decide +kernel
theorem dX7_cell_28 : decode cX7_cell 28 = .ok (.aload_n 0, 1) := by decide +kernel
theorem dX7_cell_29 : decode cX7_cell 29 = .ok (.getfield 58, 3) := by decide +kernel
theorem dX7_cell_32 : decode cX7_cell 32 = .ok (.iload_n 1, 1) := by decide +kernel
theorem dX7_cell_33 : decode cX7_cell 33 = .ok (.iload_n 3, 1) := by decide +kernel
theorem dX7_cell_34 : decode cX7_cell 34 = .ok (.iload_n 2, 1) := by decide +kernel
theorem dX7_cell_35 : decode cX7_cell 35 = .ok (.iconst 1, 1) := by decide +kernel
theorem dX7_cell_36 : decode cX7_cell 36 = .ok (.invokevirtual 131, 3) := by decide +kernel
theorem dX7_cell_39 : decode cX7_cell 39 = .ok (.putfield 66, 3) := by decide +kernel
theorem dX7_cell_42 : decode cX7_cell 42 = .ok (.aload_n 0, 1) := by decide +kernel
theorem dX7_cell_43 : decode cX7_cell 43 = .ok (.getfield 66, 3) := by decide +kernel
theorem dX7_cell_46 : decode cX7_cell 46 = .ok (.ifCond .ne 18, 3) := by decide +kernel
theorem dX7_cell_49 : decode cX7_cell 49 = .ok (.aload_n 0, 1) := by decide +kernel
theorem dX7_cell_50 : decode cX7_cell 50 = .ok (.getfield 58, 3) := by decide +kernel
theorem dX7_cell_53 : decode cX7_cell 53 = .ok (.getfield 293, 3) := by decide +kernel
theorem dX7_cell_56 : decode cX7_cell 56 = .ok (.iload_n 1, 1) := by decide +kernel
theorem dX7_cell_57 : decode cX7_cell 57 = .ok (.aaload, 1) := by decide +kernel
theorem dX7_cell_58 : decode cX7_cell 58 = .ok (.iload_n 2, 1) := by decide +kernel
theorem dX7_cell_59 : decode cX7_cell 59 = .ok (.iaload, 1) := by decide +kernel
theorem dX7_cell_60 : decode cX7_cell 60 = .ok (.i2l, 1) := by decide +kernel
theorem dX7_cell_61 : decode cX7_cell 61 = .ok (.goto 6, 3) := by decide +kernel
theorem dX7_cell_64 : decode cX7_cell 64 = .ok (.ldc2_w 276, 3) := by decide +kernel
theorem dX7_cell_67 : decode cX7_cell 67 = .ok (.lreturn, 1) := by decide +kernel
theorem dX7_tell_0 : decode cX7_tell 0 = .ok (.iload_n 1, 1) := by decide +kernel
theorem dX7_tell_1 : decode cX7_tell 1 = .ok (.iconst 0, 1) := by decide +kernel
theorem dX7_tell_2 : decode cX7_tell 2 = .ok (.aload_n 0, 1) := by decide +kernel
theorem dX7_tell_3 : decode cX7_tell 3 = .ok (.getfield 37, 3) := by decide +kernel
theorem dX7_tell_6 : decode cX7_tell 6 = .ok (.getfield 181, 3) := by decide +kernel
theorem dX7_tell_9 : decode cX7_tell 9 = .ok (.iconst 1, 1) := by decide +kernel
theorem dX7_tell_10 : decode cX7_tell 10 = .ok (.isub, 1) := by decide +kernel
theorem dX7_tell_11 : decode cX7_tell 11 = .ok (.invokestatic 70, 3) := by decide +kernel
theorem dX7_tell_14 : decode cX7_tell 14 = .ok (.ifCond .eq 14, 3) := by decide +kernel
theorem dX7_tell_17 : decode cX7_tell 17 = .ok (.aload_n 0, 1) := by decide +kernel
theorem dX7_tell_18 : decode cX7_tell 18 = .ok (.getfield 37, 3) := by decide +kernel
theorem dX7_tell_21 : decode cX7_tell 21 = .ok (.iload_n 1, 1) := by decide +kernel
theorem dX7_tell_22 : decode cX7_tell 22 = .ok (.invokevirtual 296, 3) := by decide +kernel
theorem dX7_tell_25 : decode cX7_tell 25 = .ok (.goto 4, 3) := by decide +kernel
theorem dX7_tell_28 : decode cX7_tell 28 = .ok (.iconst (-1), 1) := by decide +kernel
theorem dX7_tell_29 : decode cX7_tell 29 = .ok (.ireturn, 1) := by decide +kernel
theorem dX7_show_0 : decode cX7_show 0 = .ok (.iload_n 1, 1) := by decide +kernel
theorem dX7_show_1 : decode cX7_show 1 = .ok (.iconst 0, 1) := by decide +kernel
theorem dX7_show_2 : decode cX7_show 2 = .ok (.aload_n 0, 1) := by decide +kernel
theorem dX7_show_3 : decode cX7_show 3 = .ok (.getfield 37, 3) := by decide +kernel
theorem dX7_show_6 : decode cX7_show 6 = .ok (.getfield 181, 3) := by decide +kernel
theorem dX7_show_9 : decode cX7_show 9 = .ok (.iconst 1, 1) := by decide +kernel
theorem dX7_show_10 : decode cX7_show 10 = .ok (.isub, 1) := by decide +kernel
theorem dX7_show_11 : decode cX7_show 11 = .ok (.invokestatic 70, 3) := by decide +kernel
theorem dX7_show_14 : decode cX7_show 14 = .ok (.ifCond .eq 14, 3) := by decide +kernel
theorem dX7_show_17 : decode cX7_show 17 = .ok (.aload_n 0, 1) := by decide +kernel
theorem dX7_show_18 : decode cX7_show 18 = .ok (.getfield 37, 3) := by decide +kernel
theorem dX7_show_21 : decode cX7_show 21 = .ok (.iload_n 1, 1) := by decide +kernel
theorem dX7_show_22 : decode cX7_show 22 = .ok (.invokevirtual 299, 3) := by decide +kernel
theorem dX7_show_25 : decode cX7_show 25 = .ok (.goto 4, 3) := by decide +kernel
theorem dX7_show_28 : decode cX7_show 28 = .ok (.iconst (-1), 1) := by decide +kernel
theorem dX7_show_29 : decode cX7_show 29 = .ok (.ireturn, 1) := by decide +kernel
theorem dX7_as_0 : decode cX7_as 0 = .ok (.aload_n 0, 1) := by decide +kernel
theorem dX7_as_1 : decode cX7_as 1 = .ok (.iconst 0, 1) := by decide +kernel
theorem dX7_as_2 : decode cX7_as 2 = .ok (.putfield 66, 3) := by decide +kernel
theorem dX7_as_5 : decode cX7_as 5 = .ok (.iload_n 1, 1) := by decide +kernel
theorem dX7_as_6 : decode cX7_as 6 = .ok (.iconst 0, 1) := by decide +kernel
theorem dX7_as_7 : decode cX7_as 7 = .ok (.aload_n 0, 1) := by decide +kernel
theorem dX7_as_8 : decode cX7_as 8 = .ok (.getfield 37, 3) := by decide +kernel
theorem dX7_as_11 : decode cX7_as 11 = .ok (.getfield 181, 3) := by decide +kernel
theorem dX7_as_14 : decode cX7_as 14 = .ok (.iconst 1, 1) := by decide +kernel
theorem dX7_as_15 : decode cX7_as 15 = .ok (.isub, 1) := by decide +kernel
theorem dX7_as_16 : decode cX7_as 16 = .ok (.invokestatic 70, 3) := by decide +kernel
theorem dX7_as_19 : decode cX7_as 19 = .ok (.ifCond .ne 5, 3) := by decide +kernel
theorem dX7_as_22 : decode cX7_as 22 = .ok (.iconst (-1), 1) := by decide +kernel
theorem dX7_as_23 : decode cX7_as 23 = .ok (.ireturn, 1) := by decide +kernel
theorem dX7_as_24 : decode cX7_as 24 = .ok (.iload_n 2, 1) := by decide +kernel
theorem dX7_as_25 : decode cX7_as 25 = .ok (.iconst 0, 1) := by decide +kernel
theorem dX7_as_26 : decode cX7_as 26 = .ok (.iconst 2, 1) := by decide +kernel
theorem dX7_as_27 : decode cX7_as 27 = .ok (.invokestatic 70, 3) := by decide +kernel
theorem dX7_as_30 : decode cX7_as 30 = .ok (.ifCond .ne 6, 3) := by decide +kernel
theorem dX7_as_33 : decode cX7_as 33 = .ok (.bipush (-2), 2) := by decide +kernel
theorem dX7_as_35 : decode cX7_as 35 = .ok (.ireturn, 1) := by decide +kernel
theorem dX7_as_36 : decode cX7_as 36 = .ok (.iload_n 2, 1) := by decide +kernel
theorem dX7_as_37 : decode cX7_as 37 = .ok (.aload_n 0, 1) := by decide +kernel
theorem dX7_as_38 : decode cX7_as 38 = .ok (.getfield 37, 3) := by decide +kernel
theorem dX7_as_41 : decode cX7_as 41 = .ok (.iload_n 1, 1) := by decide +kernel
theorem dX7_as_42 : decode cX7_as 42 = .ok (.invokevirtual 221, 3) := by decide +kernel
theorem dX7_as_45 : decode cX7_as 45 = .ok (.if_icmp .le 11, 3) := by decide +kernel
theorem dX7_as_48 : decode cX7_as 48 = .ok (.aload_n 0, 1) := by decide +kernel
theorem dX7_as_49 : decode cX7_as 49 = .ok (.iconst 2, 1) := by decide +kernel
theorem dX7_as_50 : decode cX7_as 50 = .ok (.invokevirtual 135, 3) := by decide +kernel
theorem dX7_as_53 : decode cX7_as 53 = .ok (.goto 4, 3) := by decide +kernel
theorem dX7_as_56 : decode cX7_as 56 = .ok (.iconst 1, 1) := by decide +kernel
theorem dX7_as_57 : decode cX7_as 57 = .ok (.ireturn, 1) := by decide +kernel
theorem dX7_trace_0 : decode cX7_trace 0 = .ok (.aload_n 0, 1) := by decide +kernel
theorem dX7_trace_1 : decode cX7_trace 1 = .ok (.getfield 37, 3) := by decide +kernel
theorem dX7_trace_4 : decode cX7_trace 4 = .ok (.getfield 302, 3) := by decide +kernel
theorem dX7_trace_7 : decode cX7_trace 7 = .ok (.ireturn, 1) := by decide +kernel
theorem dX7_fault_0 : decode cX7_fault 0 = .ok (.aload_n 0, 1) := by decide +kernel
theorem dX7_fault_1 : decode cX7_fault 1 = .ok (.getfield 66, 3) := by decide +kernel
theorem dX7_fault_4 : decode cX7_fault 4 = .ok (.ireturn, 1) := by decide +kernel
theorem dX7_many_0 : decode cX7_many 0 = .ok (.iload_n 1, 1) := by decide +kernel
theorem dX7_many_1 : decode cX7_many 1 = .ok (.tableswitch 75 0 4 #[35, 43, 51, 59, 67], 35) := by decide +kernel
theorem dX7_many_36 : decode cX7_many 36 = .ok (.aload_n 0, 1) := by decide +kernel
theorem dX7_many_37 : decode cX7_many 37 = .ok (.getfield 12, 3) := by decide +kernel
theorem dX7_many_40 : decode cX7_many 40 = .ok (.getfield 91, 3) := by decide +kernel
theorem dX7_many_43 : decode cX7_many 43 = .ok (.ireturn, 1) := by decide +kernel
theorem dX7_many_44 : decode cX7_many 44 = .ok (.aload_n 0, 1) := by decide +kernel
theorem dX7_many_45 : decode cX7_many 45 = .ok (.getfield 37, 3) := by decide +kernel
theorem dX7_many_48 : decode cX7_many 48 = .ok (.getfield 181, 3) := by decide +kernel
theorem dX7_many_51 : decode cX7_many 51 = .ok (.ireturn, 1) := by decide +kernel
theorem dX7_many_52 : decode cX7_many 52 = .ok (.aload_n 0, 1) := by decide +kernel
theorem dX7_many_53 : decode cX7_many 53 = .ok (.getfield 37, 3) := by decide +kernel
theorem dX7_many_56 : decode cX7_many 56 = .ok (.getfield 188, 3) := by decide +kernel
theorem dX7_many_59 : decode cX7_many 59 = .ok (.ireturn, 1) := by decide +kernel
theorem dX7_many_60 : decode cX7_many 60 = .ok (.aload_n 0, 1) := by decide +kernel
theorem dX7_many_61 : decode cX7_many 61 = .ok (.getfield 51, 3) := by decide +kernel
theorem dX7_many_64 : decode cX7_many 64 = .ok (.getfield 232, 3) := by decide +kernel
theorem dX7_many_67 : decode cX7_many 67 = .ok (.ireturn, 1) := by decide +kernel
theorem dX7_many_68 : decode cX7_many 68 = .ok (.aload_n 0, 1) := by decide +kernel
theorem dX7_many_69 : decode cX7_many 69 = .ok (.getfield 21, 3) := by decide +kernel
theorem dX7_many_72 : decode cX7_many 72 = .ok (.getfield 166, 3) := by decide +kernel
theorem dX7_many_75 : decode cX7_many 75 = .ok (.ireturn, 1) := by decide +kernel
theorem dX7_many_76 : decode cX7_many 76 = .ok (.bipush (-2), 2) := by decide +kernel
theorem dX7_many_78 : decode cX7_many 78 = .ok (.ireturn, 1) := by decide +kernel
theorem dX7_within_0 : decode cX7_within 0 = .ok (.iload_n 0, 1) := by decide +kernel
theorem dX7_within_1 : decode cX7_within 1 = .ok (.iload_n 1, 1) := by decide +kernel
theorem dX7_within_2 : decode cX7_within 2 = .ok (.if_icmp .lt 12, 3) := by decide +kernel
theorem dX7_within_5 : decode cX7_within 5 = .ok (.iload_n 0, 1) := by decide +kernel
theorem dX7_within_6 : decode cX7_within 6 = .ok (.iload_n 2, 1) := by decide +kernel
theorem dX7_within_7 : decode cX7_within 7 = .ok (.if_icmp .gt 7, 3) := by decide +kernel
theorem dX7_within_10 : decode cX7_within 10 = .ok (.iconst 1, 1) := by decide +kernel
theorem dX7_within_11 : decode cX7_within 11 = .ok (.goto 4, 3) := by decide +kernel
theorem dX7_within_14 : decode cX7_within 14 = .ok (.iconst 0, 1) := by decide +kernel
theorem dX7_within_15 : decode cX7_within 15 = .ok (.ireturn, 1) := by decide +kernel
theorem dX7_isPort_0 : decode cX7_isPort 0 = .ok (.iload_n 1, 1) := by decide +kernel
theorem dX7_isPort_1 : decode cX7_isPort 1 = .ok (.iconst 0, 1) := by decide +kernel
theorem dX7_isPort_2 : decode cX7_isPort 2 = .ok (.aload_n 0, 1) := by decide +kernel
theorem dX7_isPort_3 : decode cX7_isPort 3 = .ok (.getfield 51, 3) := by decide +kernel
theorem dX7_isPort_6 : decode cX7_isPort 6 = .ok (.getfield 232, 3) := by decide +kernel
theorem dX7_isPort_9 : decode cX7_isPort 9 = .ok (.iconst 1, 1) := by decide +kernel
theorem dX7_isPort_10 : decode cX7_isPort 10 = .ok (.isub, 1) := by decide +kernel
theorem dX7_isPort_11 : decode cX7_isPort 11 = .ok (.invokestatic 70, 3) := by decide +kernel
theorem dX7_isPort_14 : decode cX7_isPort 14 = .ok (.ireturn, 1) := by decide +kernel
theorem dX7_faulted_0 : decode cX7_faulted 0 = .ok (.aload_n 0, 1) := by decide +kernel
theorem dX7_faulted_1 : decode cX7_faulted 1 = .ok (.iload_n 1, 1) := by decide +kernel
theorem dX7_faulted_2 : decode cX7_faulted 2 = .ok (.putfield 66, 3) := by decide +kernel
theorem dX7_faulted_5 : decode cX7_faulted 5 = .ok (.bipush (-10), 2) := by decide +kernel
theorem dX7_faulted_7 : decode cX7_faulted 7 = .ok (.iload_n 1, 1) := by decide +kernel
theorem dX7_faulted_8 : decode cX7_faulted 8 = .ok (.isub, 1) := by decide +kernel
theorem dX7_faulted_9 : decode cX7_faulted 9 = .ok (.ireturn, 1) := by decide +kernel
theorem dX8_init_0 : decode cX8_init 0 = .ok (.aload_n 0, 1) := by decide +kernel
theorem dX8_init_1 : decode cX8_init 1 = .ok (.invokespecial 1, 3) := by decide +kernel
theorem dX8_init_4 : decode cX8_init 4 = .ok (.aload_n 0, 1) := by decide +kernel
theorem dX8_init_5 : decode cX8_init 5 = .ok (.iconst 3, 1) := by decide +kernel
theorem dX8_init_6 : decode cX8_init 6 = .ok (.putfield 7, 3) := by decide +kernel
theorem dX8_init_9 : decode cX8_init 9 = .ok (.aload_n 0, 1) := by decide +kernel
theorem dX8_init_10 : decode cX8_init 10 = .ok (.iconst 2, 1) := by decide +kernel
theorem dX8_init_11 : decode cX8_init 11 = .ok (.putfield 13, 3) := by decide +kernel
theorem dX8_init_14 : decode cX8_init 14 = .ok (.aload_n 0, 1) := by decide +kernel
theorem dX8_init_15 : decode cX8_init 15 = .ok (.iconst 2, 1) := by decide +kernel
theorem dX8_init_16 : decode cX8_init 16 = .ok (.putfield 16, 3) := by decide +kernel
theorem dX8_init_19 : decode cX8_init 19 = .ok (.aload_n 0, 1) := by decide +kernel
theorem dX8_init_20 : decode cX8_init 20 = .ok (.bipush 20, 2) := by decide +kernel
theorem dX8_init_22 : decode cX8_init 22 = .ok (.newarray .int, 2) := by decide +kernel
theorem dX8_init_24 : decode cX8_init 24 = .ok (.putfield 19, 3) := by decide +kernel
theorem dX8_init_27 : decode cX8_init 27 = .ok (.aload_n 0, 1) := by decide +kernel
theorem dX8_init_28 : decode cX8_init 28 = .ok (.bipush 20, 2) := by decide +kernel
theorem dX8_init_30 : decode cX8_init 30 = .ok (.newarray .int, 2) := by decide +kernel
theorem dX8_init_32 : decode cX8_init 32 = .ok (.putfield 23, 3) := by decide +kernel
theorem dX8_init_35 : decode cX8_init 35 = .ok (.aload_n 0, 1) := by decide +kernel
theorem dX8_init_36 : decode cX8_init 36 = .ok (.bipush 20, 2) := by decide +kernel
theorem dX8_init_38 : decode cX8_init 38 = .ok (.newarray .int, 2) := by decide +kernel
theorem dX8_init_40 : decode cX8_init 40 = .ok (.putfield 26, 3) := by decide +kernel
theorem dX8_init_43 : decode cX8_init 43 = .ok (.aload_n 0, 1) := by decide +kernel
theorem dX8_init_44 : decode cX8_init 44 = .ok (.bipush 20, 2) := by decide +kernel
theorem dX8_init_46 : decode cX8_init 46 = .ok (.newarray .int, 2) := by decide +kernel
theorem dX8_init_48 : decode cX8_init 48 = .ok (.putfield 29, 3) := by decide +kernel
theorem dX8_init_51 : decode cX8_init 51 = .ok (.aload_n 0, 1) := by decide +kernel
theorem dX8_init_52 : decode cX8_init 52 = .ok (.bipush 20, 2) := by decide +kernel
theorem dX8_init_54 : decode cX8_init 54 = .ok (.newarray .int, 2) := by decide +kernel
theorem dX8_init_56 : decode cX8_init 56 = .ok (.putfield 32, 3) := by decide +kernel
theorem dX8_init_59 : decode cX8_init 59 = .ok (.aload_n 0, 1) := by decide +kernel
theorem dX8_init_60 : decode cX8_init 60 = .ok (.iconst 1, 1) := by decide +kernel
theorem dX8_init_61 : decode cX8_init 61 = .ok (.putfield 35, 3) := by decide +kernel
theorem dX8_init_64 : decode cX8_init 64 = .ok (.aload_n 0, 1) := by decide +kernel
theorem dX8_init_65 : decode cX8_init 65 = .ok (.bipush 8, 2) := by decide +kernel
theorem dX8_init_67 : decode cX8_init 67 = .ok (.newarray .int, 2) := by decide +kernel
theorem dX8_init_69 : decode cX8_init 69 = .ok (.dup, 1) := by decide +kernel
theorem dX8_init_70 : decode cX8_init 70 = .ok (.iconst 0, 1) := by decide +kernel
theorem dX8_init_71 : decode cX8_init 71 = .ok (.iconst 0, 1) := by decide +kernel
theorem dX8_init_72 : decode cX8_init 72 = .ok (.iastore, 1) := by decide +kernel
theorem dX8_init_73 : decode cX8_init 73 = .ok (.dup, 1) := by decide +kernel
theorem dX8_init_74 : decode cX8_init 74 = .ok (.iconst 1, 1) := by decide +kernel
theorem dX8_init_75 : decode cX8_init 75 = .ok (.iconst 1, 1) := by decide +kernel
theorem dX8_init_76 : decode cX8_init 76 = .ok (.iastore, 1) := by decide +kernel
theorem dX8_init_77 : decode cX8_init 77 = .ok (.dup, 1) := by decide +kernel
theorem dX8_init_78 : decode cX8_init 78 = .ok (.iconst 2, 1) := by decide +kernel
theorem dX8_init_79 : decode cX8_init 79 = .ok (.iconst 0, 1) := by decide +kernel
theorem dX8_init_80 : decode cX8_init 80 = .ok (.iastore, 1) := by decide +kernel
theorem dX8_init_81 : decode cX8_init 81 = .ok (.dup, 1) := by decide +kernel
theorem dX8_init_82 : decode cX8_init 82 = .ok (.iconst 3, 1) := by decide +kernel
theorem dX8_init_83 : decode cX8_init 83 = .ok (.iconst 0, 1) := by decide +kernel
theorem dX8_init_84 : decode cX8_init 84 = .ok (.iastore, 1) := by decide +kernel
theorem dX8_init_85 : decode cX8_init 85 = .ok (.dup, 1) := by decide +kernel
theorem dX8_init_86 : decode cX8_init 86 = .ok (.iconst 4, 1) := by decide +kernel
theorem dX8_init_87 : decode cX8_init 87 = .ok (.iconst 0, 1) := by decide +kernel
theorem dX8_init_88 : decode cX8_init 88 = .ok (.iastore, 1) := by decide +kernel
theorem dX8_init_89 : decode cX8_init 89 = .ok (.dup, 1) := by decide +kernel
theorem dX8_init_90 : decode cX8_init 90 = .ok (.iconst 5, 1) := by decide +kernel
theorem dX8_init_91 : decode cX8_init 91 = .ok (.iconst 0, 1) := by decide +kernel
theorem dX8_init_92 : decode cX8_init 92 = .ok (.iastore, 1) := by decide +kernel
theorem dX8_init_93 : decode cX8_init 93 = .ok (.dup, 1) := by decide +kernel
theorem dX8_init_94 : decode cX8_init 94 = .ok (.bipush 6, 2) := by decide +kernel
theorem dX8_init_96 : decode cX8_init 96 = .ok (.iconst 0, 1) := by decide +kernel
theorem dX8_init_97 : decode cX8_init 97 = .ok (.iastore, 1) := by decide +kernel
theorem dX8_init_98 : decode cX8_init 98 = .ok (.dup, 1) := by decide +kernel
theorem dX8_init_99 : decode cX8_init 99 = .ok (.bipush 7, 2) := by decide +kernel
theorem dX8_init_101 : decode cX8_init 101 = .ok (.iconst 0, 1) := by decide +kernel
theorem dX8_init_102 : decode cX8_init 102 = .ok (.iastore, 1) := by decide +kernel
theorem dX8_init_103 : decode cX8_init 103 = .ok (.putfield 38, 3) := by decide +kernel
theorem dX8_init_106 : decode cX8_init 106 = .ok (.aload_n 0, 1) := by decide +kernel
theorem dX8_init_107 : decode cX8_init 107 = .ok (.bipush 8, 2) := by decide +kernel
theorem dX8_init_109 : decode cX8_init 109 = .ok (.newarray .int, 2) := by decide +kernel
theorem dX8_init_111 : decode cX8_init 111 = .ok (.putfield 41, 3) := by decide +kernel
theorem dX8_init_114 : decode cX8_init 114 = .ok (.aload_n 0, 1) := by decide +kernel
theorem dX8_init_115 : decode cX8_init 115 = .ok (.bipush 8, 2) := by decide +kernel
theorem dX8_init_117 : decode cX8_init 117 = .ok (.newarray .int, 2) := by decide +kernel
theorem dX8_init_119 : decode cX8_init 119 = .ok (.putfield 44, 3) := by decide +kernel
theorem dX8_init_122 : decode cX8_init 122 = .ok (.aload_n 0, 1) := by decide +kernel
theorem dX8_init_123 : decode cX8_init 123 = .ok (.bipush 8, 2) := by decide +kernel
theorem dX8_init_125 : decode cX8_init 125 = .ok (.newarray .int, 2) := by decide +kernel
theorem dX8_init_127 : decode cX8_init 127 = .ok (.putfield 47, 3) := by decide +kernel
theorem dX8_init_130 : decode cX8_init 130 = .ok (.aload_n 0, 1) := by decide +kernel
theorem dX8_init_131 : decode cX8_init 131 = .ok (.iconst 4, 1) := by decide +kernel
theorem dX8_init_132 : decode cX8_init 132 = .ok (.newarray .int, 2) := by decide +kernel
theorem dX8_init_134 : decode cX8_init 134 = .ok (.dup, 1) := by decide +kernel
theorem dX8_init_135 : decode cX8_init 135 = .ok (.iconst 0, 1) := by decide +kernel
theorem dX8_init_136 : decode cX8_init 136 = .ok (.bipush (-9), 2) := by decide +kernel
theorem dX8_init_138 : decode cX8_init 138 = .ok (.iastore, 1) := by decide +kernel
theorem dX8_init_139 : decode cX8_init 139 = .ok (.dup, 1) := by decide +kernel
theorem dX8_init_140 : decode cX8_init 140 = .ok (.iconst 1, 1) := by decide +kernel
theorem dX8_init_141 : decode cX8_init 141 = .ok (.bipush (-9), 2) := by decide +kernel
theorem dX8_init_143 : decode cX8_init 143 = .ok (.iastore, 1) := by decide +kernel
theorem dX8_init_144 : decode cX8_init 144 = .ok (.dup, 1) := by decide +kernel
theorem dX8_init_145 : decode cX8_init 145 = .ok (.iconst 2, 1) := by decide +kernel
theorem dX8_init_146 : decode cX8_init 146 = .ok (.bipush (-9), 2) := by decide +kernel
theorem dX8_init_148 : decode cX8_init 148 = .ok (.iastore, 1) := by decide +kernel
theorem dX8_init_149 : decode cX8_init 149 = .ok (.dup, 1) := by decide +kernel
theorem dX8_init_150 : decode cX8_init 150 = .ok (.iconst 3, 1) := by decide +kernel
theorem dX8_init_151 : decode cX8_init 151 = .ok (.bipush (-9), 2) := by decide +kernel
theorem dX8_init_153 : decode cX8_init 153 = .ok (.iastore, 1) := by decide +kernel
theorem dX8_init_154 : decode cX8_init 154 = .ok (.putfield 50, 3) := by decide +kernel
theorem dX8_init_157 : decode cX8_init 157 = .ok (.aload_n 0, 1) := by decide +kernel
theorem dX8_init_158 : decode cX8_init 158 = .ok (.iconst 4, 1) := by decide +kernel
theorem dX8_init_159 : decode cX8_init 159 = .ok (.newarray .int, 2) := by decide +kernel
theorem dX8_init_161 : decode cX8_init 161 = .ok (.putfield 53, 3) := by decide +kernel
theorem dX8_init_164 : decode cX8_init 164 = .ok (.aload_n 0, 1) := by decide +kernel
theorem dX8_init_165 : decode cX8_init 165 = .ok (.sipush 240, 3) := by decide +kernel
theorem dX8_init_168 : decode cX8_init 168 = .ok (.newarray .int, 2) := by decide +kernel
theorem dX8_init_170 : decode cX8_init 170 = .ok (.putfield 56, 3) := by decide +kernel
theorem dX8_init_173 : decode cX8_init 173 = .ok (.aload_n 0, 1) := by decide +kernel
theorem dX8_init_174 : decode cX8_init 174 = .ok (.bipush 8, 2) := by decide +kernel
theorem dX8_init_176 : decode cX8_init 176 = .ok (.newarray .int, 2) := by decide +kernel
theorem dX8_init_178 : decode cX8_init 178 = .ok (.putfield 59, 3) := by decide +kernel
theorem dX8_init_181 : decode cX8_init 181 = .ok (.aload_n 0, 1) := by decide +kernel
theorem dX8_init_182 : decode cX8_init 182 = .ok (.iconst 4, 1) := by decide +kernel
theorem dX8_init_183 : decode cX8_init 183 = .ok (.putfield 62, 3) := by decide +kernel
theorem dX8_init_186 : decode cX8_init 186 = .ok (.aload_n 0, 1) := by decide +kernel
theorem dX8_init_187 : decode cX8_init 187 = .ok (.bipush 30, 2) := by decide +kernel
theorem dX8_init_189 : decode cX8_init 189 = .ok (.newarray .int, 2) := by decide +kernel
theorem dX8_init_191 : decode cX8_init 191 = .ok (.putfield 65, 3) := by decide +kernel
theorem dX8_init_194 : decode cX8_init 194 = .ok (.aload_n 0, 1) := by decide +kernel
theorem dX8_init_195 : decode cX8_init 195 = .ok (.bipush 30, 2) := by decide +kernel
theorem dX8_init_197 : decode cX8_init 197 = .ok (.newarray .int, 2) := by decide +kernel
theorem dX8_init_199 : decode cX8_init 199 = .ok (.putfield 68, 3) := by decide +kernel
theorem dX8_init_202 : decode cX8_init 202 = .ok (.aload_n 0, 1) := by decide +kernel
theorem dX8_init_203 : decode cX8_init 203 = .ok (.bipush 8, 2) := by decide +kernel
theorem dX8_init_205 : decode cX8_init 205 = .ok (.newarray .int, 2) := by decide +kernel
theorem dX8_init_207 : decode cX8_init 207 = .ok (.putfield 71, 3) := by decide +kernel
theorem dX8_init_210 : decode cX8_init 210 = .ok (.aload_n 0, 1) := by decide +kernel
theorem dX8_init_211 : decode cX8_init 211 = .ok (.bipush 8, 2) := by decide +kernel
theorem dX8_init_213 : decode cX8_init 213 = .ok (.newarray .int, 2) := by decide +kernel
theorem dX8_init_215 : decode cX8_init 215 = .ok (.putfield 74, 3) := by decide +kernel
theorem dX8_init_218 : decode cX8_init 218 = .ok (.aload_n 0, 1) := by decide +kernel
theorem dX8_init_219 : decode cX8_init 219 = .ok (.iconst 3, 1) := by decide +kernel
theorem dX8_init_220 : decode cX8_init 220 = .ok (.putfield 77, 3) := by decide +kernel
theorem dX8_init_223 : decode cX8_init 223 = .ok (.aload_n 0, 1) := by decide +kernel
theorem dX8_init_224 : decode cX8_init 224 = .ok (.bipush 25, 2) := by decide +kernel
theorem dX8_init_226 : decode cX8_init 226 = .ok (.newarray .int, 2) := by decide +kernel
theorem dX8_init_228 : decode cX8_init 228 = .ok (.putfield 80, 3) := by decide +kernel
theorem dX8_init_231 : decode cX8_init 231 = .ok (.aload_n 0, 1) := by decide +kernel
theorem dX8_init_232 : decode cX8_init 232 = .ok (.bipush 25, 2) := by decide +kernel
theorem dX8_init_234 : decode cX8_init 234 = .ok (.newarray .int, 2) := by decide +kernel
theorem dX8_init_236 : decode cX8_init 236 = .ok (.putfield 83, 3) := by decide +kernel
theorem dX8_init_239 : decode cX8_init 239 = .ok (.aload_n 0, 1) := by decide +kernel
theorem dX8_init_240 : decode cX8_init 240 = .ok (.bipush 25, 2) := by decide +kernel
theorem dX8_init_242 : decode cX8_init 242 = .ok (.newarray .int, 2) := by decide +kernel
theorem dX8_init_244 : decode cX8_init 244 = .ok (.putfield 86, 3) := by decide +kernel
theorem dX8_init_247 : decode cX8_init 247 = .ok (.aload_n 0, 1) := by decide +kernel
theorem dX8_init_248 : decode cX8_init 248 = .ok (.iconst 5, 1) := by decide +kernel
theorem dX8_init_249 : decode cX8_init 249 = .ok (.newarray .int, 2) := by decide +kernel
theorem dX8_init_251 : decode cX8_init 251 = .ok (.putfield 89, 3) := by decide +kernel
theorem dX8_init_254 : decode cX8_init 254 = .ok (.aload_n 0, 1) := by decide +kernel
theorem dX8_init_255 : decode cX8_init 255 = .ok (.iconst 5, 1) := by decide +kernel
theorem dX8_init_256 : decode cX8_init 256 = .ok (.newarray .int, 2) := by decide +kernel
theorem dX8_init_258 : decode cX8_init 258 = .ok (.putfield 92, 3) := by decide +kernel
theorem dX8_init_261 : decode cX8_init 261 = .ok (.aload_n 0, 1) := by decide +kernel
theorem dX8_init_262 : decode cX8_init 262 = .ok (.iconst 5, 1) := by decide +kernel
theorem dX8_init_263 : decode cX8_init 263 = .ok (.newarray .int, 2) := by decide +kernel
theorem dX8_init_265 : decode cX8_init 265 = .ok (.putfield 95, 3) := by decide +kernel
theorem dX8_init_268 : decode cX8_init 268 = .ok (.aload_n 0, 1) := by decide +kernel
theorem dX8_init_269 : decode cX8_init 269 = .ok (.iconst 5, 1) := by decide +kernel
theorem dX8_init_270 : decode cX8_init 270 = .ok (.newarray .int, 2) := by decide +kernel
theorem dX8_init_272 : decode cX8_init 272 = .ok (.dup, 1) := by decide +kernel
theorem dX8_init_273 : decode cX8_init 273 = .ok (.iconst 0, 1) := by decide +kernel
theorem dX8_init_274 : decode cX8_init 274 = .ok (.bipush (-9), 2) := by decide +kernel
theorem dX8_init_276 : decode cX8_init 276 = .ok (.iastore, 1) := by decide +kernel
theorem dX8_init_277 : decode cX8_init 277 = .ok (.dup, 1) := by decide +kernel
theorem dX8_init_278 : decode cX8_init 278 = .ok (.iconst 1, 1) := by decide +kernel
theorem dX8_init_279 : decode cX8_init 279 = .ok (.bipush (-9), 2) := by decide +kernel
theorem dX8_init_281 : decode cX8_init 281 = .ok (.iastore, 1) := by decide +kernel
theorem dX8_init_282 : decode cX8_init 282 = .ok (.dup, 1) := by decide +kernel
theorem dX8_init_283 : decode cX8_init 283 = .ok (.iconst 2, 1) := by decide +kernel
theorem dX8_init_284 : decode cX8_init 284 = .ok (.bipush (-9), 2) := by decide +kernel
theorem dX8_init_286 : decode cX8_init 286 = .ok (.iastore, 1) := by decide +kernel
theorem dX8_init_287 : decode cX8_init 287 = .ok (.dup, 1) := by decide +kernel
theorem dX8_init_288 : decode cX8_init 288 = .ok (.iconst 3, 1) := by decide +kernel
theorem dX8_init_289 : decode cX8_init 289 = .ok (.bipush (-9), 2) := by decide +kernel
theorem dX8_init_291 : decode cX8_init 291 = .ok (.iastore, 1) := by decide +kernel
theorem dX8_init_292 : decode cX8_init 292 = .ok (.dup, 1) := by decide +kernel
theorem dX8_init_293 : decode cX8_init 293 = .ok (.iconst 4, 1) := by decide +kernel
theorem dX8_init_294 : decode cX8_init 294 = .ok (.bipush (-9), 2) := by decide +kernel
theorem dX8_init_296 : decode cX8_init 296 = .ok (.iastore, 1) := by decide +kernel
theorem dX8_init_297 : decode cX8_init 297 = .ok (.putfield 98, 3) := by decide +kernel
theorem dX8_init_300 : decode cX8_init 300 = .ok (.aload_n 0, 1) := by decide +kernel
theorem dX8_init_301 : decode cX8_init 301 = .ok (.iconst 5, 1) := by decide +kernel
theorem dX8_init_302 : decode cX8_init 302 = .ok (.newarray .int, 2) := by decide +kernel
theorem dX8_init_304 : decode cX8_init 304 = .ok (.putfield 101, 3) := by decide +kernel
theorem dX8_init_307 : decode cX8_init 307 = .ok (.aload_n 0, 1) := by decide +kernel
theorem dX8_init_308 : decode cX8_init 308 = .ok (.iconst 5, 1) := by decide +kernel
theorem dX8_init_309 : decode cX8_init 309 = .ok (.newarray .int, 2) := by decide +kernel
theorem dX8_init_311 : decode cX8_init 311 = .ok (.putfield 104, 3) := by decide +kernel
theorem dX8_init_314 : decode cX8_init 314 = .ok (.return_, 1) := by decide +kernel
theorem dX8_fails_0 : decode cX8_fails 0 = .ok (.aload_n 0, 1) := by decide +kernel
theorem dX8_fails_1 : decode cX8_fails 1 = .ok (.iload_n 1, 1) := by decide +kernel
theorem dX8_fails_2 : decode cX8_fails 2 = .ok (.putfield 107, 3) := by decide +kernel
theorem dX8_fails_5 : decode cX8_fails 5 = .ok (.bipush (-10), 2) := by decide +kernel
theorem dX8_fails_7 : decode cX8_fails 7 = .ok (.iload_n 1, 1) := by decide +kernel
theorem dX8_fails_8 : decode cX8_fails 8 = .ok (.isub, 1) := by decide +kernel
theorem dX8_fails_9 : decode cX8_fails 9 = .ok (.ireturn, 1) := by decide +kernel
theorem dX8_fallsOut_0 : decode cX8_fallsOut 0 = .ok (.aload_n 0, 1) := by decide +kernel
theorem dX8_fallsOut_1 : decode cX8_fallsOut 1 = .ok (.iload_n 1, 1) := by decide +kernel
theorem dX8_fallsOut_2 : decode cX8_fallsOut 2 = .ok (.putfield 107, 3) := by decide +kernel
theorem dX8_fallsOut_5 : decode cX8_fallsOut 5 = .ok (.ldc2_w 110, 3) := by decide +kernel
theorem dX8_fallsOut_8 : decode cX8_fallsOut 8 = .ok (.lreturn, 1) := by decide +kernel
theorem dX8_within_0 : decode cX8_within 0 = .ok (.iload_n 0, 1) := by decide +kernel
theorem dX8_within_1 : decode cX8_within 1 = .ok (.iload_n 1, 1) := by decide +kernel
theorem dX8_within_2 : decode cX8_within 2 = .ok (.if_icmp .lt 12, 3) := by decide +kernel
theorem dX8_within_5 : decode cX8_within 5 = .ok (.iload_n 0, 1) := by decide +kernel
theorem dX8_within_6 : decode cX8_within 6 = .ok (.iload_n 2, 1) := by decide +kernel
theorem dX8_within_7 : decode cX8_within 7 = .ok (.if_icmp .gt 7, 3) := by decide +kernel
theorem dX8_within_10 : decode cX8_within 10 = .ok (.iconst 1, 1) := by decide +kernel
theorem dX8_within_11 : decode cX8_within 11 = .ok (.goto 4, 3) := by decide +kernel
theorem dX8_within_14 : decode cX8_within 14 = .ok (.iconst 0, 1) := by decide +kernel
theorem dX8_within_15 : decode cX8_within 15 = .ok (.ireturn, 1) := by decide +kernel
theorem dX8_lines_0 : decode cX8_lines 0 = .ok (.aload_n 0, 1) := by decide +kernel
theorem dX8_lines_1 : decode cX8_lines 1 = .ok (.getfield 7, 3) := by decide +kernel
theorem dX8_lines_4 : decode cX8_lines 4 = .ok (.aload_n 0, 1) := by decide +kernel
theorem dX8_lines_5 : decode cX8_lines 5 = .ok (.getfield 13, 3) := by decide +kernel
theorem dX8_lines_8 : decode cX8_lines 8 = .ok (.imul, 1) := by decide +kernel
theorem dX8_lines_9 : decode cX8_lines 9 = .ok (.ireturn, 1) := by decide +kernel
theorem dX8_isLine_0 : decode cX8_isLine 0 = .ok (.iload_n 1, 1) := by decide +kernel
theorem dX8_isLine_1 : decode cX8_isLine 1 = .ok (.ifCond .lt 15, 3) := by decide +kernel
theorem dX8_isLine_4 : decode cX8_isLine 4 = .ok (.iload_n 1, 1) := by decide +kernel
theorem dX8_isLine_5 : decode cX8_isLine 5 = .ok (.aload_n 0, 1) := by decide +kernel
theorem dX8_isLine_6 : decode cX8_isLine 6 = .ok (.invokevirtual 112, 3) := by decide +kernel
theorem dX8_isLine_9 : decode cX8_isLine 9 = .ok (.if_icmp .ge 7, 3) := by decide +kernel
theorem dX8_isLine_12 : decode cX8_isLine 12 = .ok (.iconst 1, 1) := by decide +kernel
theorem dX8_isLine_13 : decode cX8_isLine 13 = .ok (.goto 4, 3) := by decide +kernel
theorem dX8_isLine_16 : decode cX8_isLine 16 = .ok (.iconst 0, 1) := by decide +kernel
theorem dX8_isLine_17 : decode cX8_isLine 17 = .ok (.ireturn, 1) := by decide +kernel
theorem dX8_calls_0 : decode cX8_calls 0 = .ok (.iconst 0, 1) := by decide +kernel
theorem dX8_calls_1 : decode cX8_calls 1 = .ok (.istore_n 1, 1) := by decide +kernel
theorem dX8_calls_2 : decode cX8_calls 2 = .ok (.iconst 0, 1) := by decide +kernel
theorem dX8_calls_3 : decode cX8_calls 3 = .ok (.istore_n 2, 1) := by decide +kernel
theorem dX8_calls_4 : decode cX8_calls 4 = .ok (.iload_n 2, 1) := by decide +kernel
theorem dX8_calls_5 : decode cX8_calls 5 = .ok (.bipush 20, 2) := by decide +kernel
theorem dX8_calls_7 : decode cX8_calls 7 = .ok (.if_icmp .ge 26, 3) := by decide +kernel
theorem dX8_calls_10 : decode cX8_calls 10 = .ok (.iload_n 1, 1) := by decide +kernel
theorem dX8_calls_11 : decode cX8_calls 11 = .ok (.aload_n 0, 1) := by decide +kernel
theorem dX8_calls_12 : decode cX8_calls 12 = .ok (.getfield 19, 3) := by decide +kernel
theorem dX8_calls_15 : decode cX8_calls 15 = .ok (.iload_n 2, 1) := by decide +kernel
theorem dX8_calls_16 : decode cX8_calls 16 = .ok (.iaload, 1) := by decide +kernel
theorem dX8_calls_17 : decode cX8_calls 17 = .ok (.ifCond .le 7, 3) := by decide +kernel
theorem dX8_calls_20 : decode cX8_calls 20 = .ok (.iconst 1, 1) := by decide +kernel
theorem dX8_calls_21 : decode cX8_calls 21 = .ok (.goto 4, 3) := by decide +kernel
theorem dX8_calls_24 : decode cX8_calls 24 = .ok (.iconst 0, 1) := by decide +kernel
theorem dX8_calls_25 : decode cX8_calls 25 = .ok (.iadd, 1) := by decide +kernel
theorem dX8_calls_26 : decode cX8_calls 26 = .ok (.istore_n 1, 1) := by decide +kernel
theorem dX8_calls_27 : decode cX8_calls 27 = .ok (.iinc 2 1, 3) := by decide +kernel
theorem dX8_calls_30 : decode cX8_calls 30 = .ok (.goto (-26), 3) := by decide +kernel
theorem dX8_calls_33 : decode cX8_calls 33 = .ok (.iload_n 1, 1) := by decide +kernel
theorem dX8_calls_34 : decode cX8_calls 34 = .ok (.ireturn, 1) := by decide +kernel
theorem dX8_net_0 : decode cX8_net 0 = .ok (.iload_n 1, 1) := by decide +kernel
theorem dX8_net_1 : decode cX8_net 1 = .ok (.iconst 1, 1) := by decide +kernel
theorem dX8_net_2 : decode cX8_net 2 = .ok (.iconst 5, 1) := by decide +kernel
theorem dX8_net_3 : decode cX8_net 3 = .ok (.invokestatic 116, 3) := by decide +kernel
theorem dX8_net_6 : decode cX8_net 6 = .ok (.ifCond .eq 22, 3) := by decide +kernel
theorem dX8_net_9 : decode cX8_net 9 = .ok (.iload_n 2, 1) := by decide +kernel
theorem dX8_net_10 : decode cX8_net 10 = .ok (.iconst 1, 1) := by decide +kernel
theorem dX8_net_11 : decode cX8_net 11 = .ok (.iconst 4, 1) := by decide +kernel
theorem dX8_net_12 : decode cX8_net 12 = .ok (.invokestatic 116, 3) := by decide +kernel
theorem dX8_net_15 : decode cX8_net 15 = .ok (.ifCond .eq 13, 3) := by decide +kernel
theorem dX8_net_18 : decode cX8_net 18 = .ok (.iload_n 3, 1) := by decide +kernel
theorem dX8_net_19 : decode cX8_net 19 = .ok (.iconst 1, 1) := by decide +kernel
theorem dX8_net_20 : decode cX8_net 20 = .ok (.bipush 7, 2) := by decide +kernel
theorem dX8_net_22 : decode cX8_net 22 = .ok (.invokestatic 116, 3) := by decide +kernel
theorem dX8_net_25 : decode cX8_net 25 = .ok (.ifCond .ne 6, 3) := by decide +kernel
theorem dX8_net_28 : decode cX8_net 28 = .ok (.bipush (-2), 2) := by decide +kernel
theorem dX8_net_30 : decode cX8_net 30 = .ok (.ireturn, 1) := by decide +kernel
theorem dX8_net_31 : decode cX8_net 31 = .ok (.aload_n 0, 1) := by decide +kernel
theorem dX8_net_32 : decode cX8_net 32 = .ok (.iload_n 1, 1) := by decide +kernel
theorem dX8_net_33 : decode cX8_net 33 = .ok (.putfield 7, 3) := by decide +kernel
theorem dX8_net_36 : decode cX8_net 36 = .ok (.aload_n 0, 1) := by decide +kernel
theorem dX8_net_37 : decode cX8_net 37 = .ok (.iload_n 2, 1) := by decide +kernel
theorem dX8_net_38 : decode cX8_net 38 = .ok (.putfield 13, 3) := by decide +kernel
theorem dX8_net_41 : decode cX8_net 41 = .ok (.aload_n 0, 1) := by decide +kernel
theorem dX8_net_42 : decode cX8_net 42 = .ok (.iload_n 3, 1) := by decide +kernel
theorem dX8_net_43 : decode cX8_net 43 = .ok (.putfield 16, 3) := by decide +kernel
theorem dX8_net_46 : decode cX8_net 46 = .ok (.iconst 0, 1) := by decide +kernel
theorem dX8_net_47 : decode cX8_net 47 = .ok (.istore 4, 2) := by decide +kernel
theorem dX8_net_49 : decode cX8_net 49 = .ok (.iload 4, 2) := by decide +kernel
theorem dX8_net_51 : decode cX8_net 51 = .ok (.bipush 20, 2) := by decide +kernel
theorem dX8_net_53 : decode cX8_net 53 = .ok (.if_icmp .ge 17, 3) := by decide +kernel
theorem dX8_net_56 : decode cX8_net 56 = .ok (.aload_n 0, 1) := by decide +kernel
theorem dX8_net_57 : decode cX8_net 57 = .ok (.getfield 19, 3) := by decide +kernel
theorem dX8_net_60 : decode cX8_net 60 = .ok (.iload 4, 2) := by decide +kernel
theorem dX8_net_62 : decode cX8_net 62 = .ok (.iconst 0, 1) := by decide +kernel
theorem dX8_net_63 : decode cX8_net 63 = .ok (.iastore, 1) := by decide +kernel
theorem dX8_net_64 : decode cX8_net 64 = .ok (.iinc 4 1, 3) := by decide +kernel
theorem dX8_net_67 : decode cX8_net 67 = .ok (.goto (-18), 3) := by decide +kernel
theorem dX8_net_70 : decode cX8_net 70 = .ok (.aload_n 0, 1) := by decide +kernel
theorem dX8_net_71 : decode cX8_net 71 = .ok (.invokevirtual 112, 3) := by decide +kernel
theorem dX8_net_74 : decode cX8_net 74 = .ok (.ireturn, 1) := by decide +kernel
theorem dX8_netOf_0 : decode cX8_netOf 0 = .ok (.iload_n 1, 1) := by decide +kernel
theorem dX8_netOf_1 : decode cX8_netOf 1 = .ok (.tableswitch 116 0 5 #[39, 44, 49, 54, 59, 99], 39) := by decide +kernel
theorem dX8_netOf_40 : decode cX8_netOf 40 = .ok (.aload_n 0, 1) := by decide +kernel
theorem dX8_netOf_41 : decode cX8_netOf 41 = .ok (.getfield 7, 3) := by decide +kernel
theorem dX8_netOf_44 : decode cX8_netOf 44 = .ok (.ireturn, 1) := by decide +kernel
theorem dX8_netOf_45 : decode cX8_netOf 45 = .ok (.aload_n 0, 1) := by decide +kernel
theorem dX8_netOf_46 : decode cX8_netOf 46 = .ok (.getfield 13, 3) := by decide +kernel
theorem dX8_netOf_49 : decode cX8_netOf 49 = .ok (.ireturn, 1) := by decide +kernel
theorem dX8_netOf_50 : decode cX8_netOf 50 = .ok (.aload_n 0, 1) := by decide +kernel
theorem dX8_netOf_51 : decode cX8_netOf 51 = .ok (.getfield 16, 3) := by decide +kernel
theorem dX8_netOf_54 : decode cX8_netOf 54 = .ok (.ireturn, 1) := by decide +kernel
theorem dX8_netOf_55 : decode cX8_netOf 55 = .ok (.aload_n 0, 1) := by decide +kernel
theorem dX8_netOf_56 : decode cX8_netOf 56 = .ok (.invokevirtual 120, 3) := by decide +kernel
theorem dX8_netOf_59 : decode cX8_netOf 59 = .ok (.ireturn, 1) := by decide +kernel
theorem dX8_netOf_60 : decode cX8_netOf 60 = .ok (.aload_n 0, 1) := by decide +kernel
theorem dX8_netOf_61 : decode cX8_netOf 61 = .ok (.getfield 16, 3) := by decide +kernel
theorem dX8_netOf_64 : decode cX8_netOf 64 = .ok (.iconst 2, 1) := by decide +kernel
theorem dX8_netOf_65 : decode cX8_netOf 65 = .ok (.aload_n 0, 1) := by decide +kernel
theorem dX8_netOf_66 : decode cX8_netOf 66 = .ok (.getfield 13, 3) := by decide +kernel
theorem dX8_netOf_69 : decode cX8_netOf 69 = .ok (.imul, 1) := by decide +kernel
theorem dX8_netOf_70 : decode cX8_netOf 70 = .ok (.iconst 1, 1) := by decide +kernel
theorem dX8_netOf_71 : decode cX8_netOf 71 = .ok (.isub, 1) := by decide +kernel
theorem dX8_netOf_72 : decode cX8_netOf 72 = .ok (.if_icmp .ge 22, 3) := by decide +kernel
theorem dX8_netOf_75 : decode cX8_netOf 75 = .ok (.aload_n 0, 1) := by decide +kernel
theorem dX8_netOf_76 : decode cX8_netOf 76 = .ok (.getfield 7, 3) := by decide +kernel
theorem dX8_netOf_79 : decode cX8_netOf 79 = .ok (.iconst 1, 1) := by decide +kernel
theorem dX8_netOf_80 : decode cX8_netOf 80 = .ok (.if_icmp .ne 18, 3) := by decide +kernel
theorem dX8_netOf_83 : decode cX8_netOf 83 = .ok (.aload_n 0, 1) := by decide +kernel
theorem dX8_netOf_84 : decode cX8_netOf 84 = .ok (.getfield 16, 3) := by decide +kernel
theorem dX8_netOf_87 : decode cX8_netOf 87 = .ok (.aload_n 0, 1) := by decide +kernel
theorem dX8_netOf_88 : decode cX8_netOf 88 = .ok (.getfield 13, 3) := by decide +kernel
theorem dX8_netOf_91 : decode cX8_netOf 91 = .ok (.if_icmp .lt 7, 3) := by decide +kernel
theorem dX8_netOf_94 : decode cX8_netOf 94 = .ok (.iconst 1, 1) := by decide +kernel
theorem dX8_netOf_95 : decode cX8_netOf 95 = .ok (.goto 4, 3) := by decide +kernel
theorem dX8_netOf_98 : decode cX8_netOf 98 = .ok (.iconst 0, 1) := by decide +kernel
theorem dX8_netOf_99 : decode cX8_netOf 99 = .ok (.ireturn, 1) := by decide +kernel
theorem dX8_netOf_100 : decode cX8_netOf 100 = .ok (.aload_n 0, 1) := by decide +kernel
theorem dX8_netOf_101 : decode cX8_netOf 101 = .ok (.getfield 16, 3) := by decide +kernel
theorem dX8_netOf_104 : decode cX8_netOf 104 = .ok (.aload_n 0, 1) := by decide +kernel
theorem dX8_netOf_105 : decode cX8_netOf 105 = .ok (.getfield 13, 3) := by decide +kernel
theorem dX8_netOf_108 : decode cX8_netOf 108 = .ok (.if_icmp .lt 7, 3) := by decide +kernel
theorem dX8_netOf_111 : decode cX8_netOf 111 = .ok (.iconst 1, 1) := by decide +kernel
theorem dX8_netOf_112 : decode cX8_netOf 112 = .ok (.goto 4, 3) := by decide +kernel
theorem dX8_netOf_115 : decode cX8_netOf 115 = .ok (.iconst 0, 1) := by decide +kernel
theorem dX8_netOf_116 : decode cX8_netOf 116 = .ok (.ireturn, 1) := by decide +kernel
theorem dX8_netOf_117 : decode cX8_netOf 117 = .ok (.bipush (-2), 2) := by decide +kernel
theorem dX8_netOf_119 : decode cX8_netOf 119 = .ok (.ireturn, 1) := by decide +kernel
theorem dX8_atLeft_0 : decode cX8_atLeft 0 = .ok (.aload_n 0, 1) := by decide +kernel
theorem dX8_atLeft_1 : decode cX8_atLeft 1 = .ok (.getfield 13, 3) := by decide +kernel
theorem dX8_atLeft_4 : decode cX8_atLeft 4 = .ok (.iload_n 1, 1) := by decide +kernel
theorem dX8_atLeft_5 : decode cX8_atLeft 5 = .ok (.imul, 1) := by decide +kernel
theorem dX8_atLeft_6 : decode cX8_atLeft 6 = .ok (.istore_n 3, 1) := by decide +kernel
theorem dX8_atLeft_7 : decode cX8_atLeft 7 = .ok (.iload_n 3, 1) := by decide +kernel
theorem dX8_atLeft_8 : decode cX8_atLeft 8 = .ok (.aload_n 0, 1) := by decide +kernel
theorem dX8_atLeft_9 : decode cX8_atLeft 9 = .ok (.getfield 13, 3) := by decide +kernel
theorem dX8_atLeft_12 : decode cX8_atLeft 12 = .ok (.iload_n 1, 1) := by decide +kernel
theorem dX8_atLeft_13 : decode cX8_atLeft 13 = .ok (.imul, 1) := by decide +kernel
theorem dX8_atLeft_14 : decode cX8_atLeft 14 = .ok (.aload_n 0, 1) := by decide +kernel
theorem dX8_atLeft_15 : decode cX8_atLeft 15 = .ok (.getfield 13, 3) := by decide +kernel
theorem dX8_atLeft_18 : decode cX8_atLeft 18 = .ok (.iadd, 1) := by decide +kernel
theorem dX8_atLeft_19 : decode cX8_atLeft 19 = .ok (.if_icmp .ge 30, 3) := by decide +kernel
theorem dX8_atLeft_22 : decode cX8_atLeft 22 = .ok (.aload_n 0, 1) := by decide +kernel
theorem dX8_atLeft_23 : decode cX8_atLeft 23 = .ok (.getfield 19, 3) := by decide +kernel
theorem dX8_atLeft_26 : decode cX8_atLeft 26 = .ok (.iload_n 3, 1) := by decide +kernel
theorem dX8_atLeft_27 : decode cX8_atLeft 27 = .ok (.iaload, 1) := by decide +kernel
theorem dX8_atLeft_28 : decode cX8_atLeft 28 = .ok (.ifCond .le 15, 3) := by decide +kernel
theorem dX8_atLeft_31 : decode cX8_atLeft 31 = .ok (.aload_n 0, 1) := by decide +kernel
theorem dX8_atLeft_32 : decode cX8_atLeft 32 = .ok (.getfield 23, 3) := by decide +kernel
theorem dX8_atLeft_35 : decode cX8_atLeft 35 = .ok (.iload_n 3, 1) := by decide +kernel
theorem dX8_atLeft_36 : decode cX8_atLeft 36 = .ok (.iaload, 1) := by decide +kernel
theorem dX8_atLeft_37 : decode cX8_atLeft 37 = .ok (.iload_n 2, 1) := by decide +kernel
theorem dX8_atLeft_38 : decode cX8_atLeft 38 = .ok (.if_icmp .ne 5, 3) := by decide +kernel
theorem dX8_atLeft_41 : decode cX8_atLeft 41 = .ok (.iload_n 3, 1) := by decide +kernel
theorem dX8_atLeft_42 : decode cX8_atLeft 42 = .ok (.ireturn, 1) := by decide +kernel
theorem dX8_atLeft_43 : decode cX8_atLeft 43 = .ok (.iinc 3 1, 3) := by decide +kernel
theorem dX8_atLeft_46 : decode cX8_atLeft 46 = .ok (.goto (-39), 3) := by decide +kernel
theorem dX8_atLeft_49 : decode cX8_atLeft 49 = .ok (.bipush (-9), 2) := by decide +kernel
theorem dX8_atLeft_51 : decode cX8_atLeft 51 = .ok (.ireturn, 1) := by decide +kernel
theorem dX8_atRight_0 : decode cX8_atRight 0 = .ok (.iconst 0, 1) := by decide +kernel
theorem dX8_atRight_1 : decode cX8_atRight 1 = .ok (.istore_n 3, 1) := by decide +kernel
theorem dX8_atRight_2 : decode cX8_atRight 2 = .ok (.iload_n 3, 1) := by decide +kernel
theorem dX8_atRight_3 : decode cX8_atRight 3 = .ok (.aload_n 0, 1) := by decide +kernel
theorem dX8_atRight_4 : decode cX8_atRight 4 = .ok (.invokevirtual 112, 3) := by decide +kernel
theorem dX8_atRight_7 : decode cX8_atRight 7 = .ok (.if_icmp .ge 47, 3) := by decide +kernel
theorem dX8_atRight_10 : decode cX8_atRight 10 = .ok (.aload_n 0, 1) := by decide +kernel
theorem dX8_atRight_11 : decode cX8_atRight 11 = .ok (.getfield 19, 3) := by decide +kernel
theorem dX8_atRight_14 : decode cX8_atRight 14 = .ok (.iload_n 3, 1) := by decide +kernel
theorem dX8_atRight_15 : decode cX8_atRight 15 = .ok (.iaload, 1) := by decide +kernel
theorem dX8_atRight_16 : decode cX8_atRight 16 = .ok (.ifCond .le 32, 3) := by decide +kernel
theorem dX8_atRight_19 : decode cX8_atRight 19 = .ok (.aload_n 0, 1) := by decide +kernel
theorem dX8_atRight_20 : decode cX8_atRight 20 = .ok (.getfield 19, 3) := by decide +kernel
theorem dX8_atRight_23 : decode cX8_atRight 23 = .ok (.iload_n 3, 1) := by decide +kernel
theorem dX8_atRight_24 : decode cX8_atRight 24 = .ok (.iaload, 1) := by decide +kernel
theorem dX8_atRight_25 : decode cX8_atRight 25 = .ok (.iconst 1, 1) := by decide +kernel
theorem dX8_atRight_26 : decode cX8_atRight 26 = .ok (.isub, 1) := by decide +kernel
theorem dX8_atRight_27 : decode cX8_atRight 27 = .ok (.aload_n 0, 1) := by decide +kernel
theorem dX8_atRight_28 : decode cX8_atRight 28 = .ok (.getfield 13, 3) := by decide +kernel
theorem dX8_atRight_31 : decode cX8_atRight 31 = .ok (.idiv, 1) := by decide +kernel
theorem dX8_atRight_32 : decode cX8_atRight 32 = .ok (.iload_n 1, 1) := by decide +kernel
theorem dX8_atRight_33 : decode cX8_atRight 33 = .ok (.if_icmp .ne 15, 3) := by decide +kernel
theorem dX8_atRight_36 : decode cX8_atRight 36 = .ok (.aload_n 0, 1) := by decide +kernel
theorem dX8_atRight_37 : decode cX8_atRight 37 = .ok (.getfield 23, 3) := by decide +kernel
theorem dX8_atRight_40 : decode cX8_atRight 40 = .ok (.iload_n 3, 1) := by decide +kernel
theorem dX8_atRight_41 : decode cX8_atRight 41 = .ok (.iaload, 1) := by decide +kernel
theorem dX8_atRight_42 : decode cX8_atRight 42 = .ok (.iload_n 2, 1) := by decide +kernel
theorem dX8_atRight_43 : decode cX8_atRight 43 = .ok (.if_icmp .ne 5, 3) := by decide +kernel
theorem dX8_atRight_46 : decode cX8_atRight 46 = .ok (.iload_n 3, 1) := by decide +kernel
theorem dX8_atRight_47 : decode cX8_atRight 47 = .ok (.ireturn, 1) := by decide +kernel
theorem dX8_atRight_48 : decode cX8_atRight 48 = .ok (.iinc 3 1, 3) := by decide +kernel
theorem dX8_atRight_51 : decode cX8_atRight 51 = .ok (.goto (-49), 3) := by decide +kernel
theorem dX8_atRight_54 : decode cX8_atRight 54 = .ok (.bipush (-9), 2) := by decide +kernel
theorem dX8_atRight_56 : decode cX8_atRight 56 = .ok (.ireturn, 1) := by decide +kernel
theorem dX8_isTaken_0 : decode cX8_isTaken 0 = .ok (.iconst 0, 1) := by decide +kernel
theorem dX8_isTaken_1 : decode cX8_isTaken 1 = .ok (.istore_n 3, 1) := by decide +kernel
theorem dX8_isTaken_2 : decode cX8_isTaken 2 = .ok (.iload_n 3, 1) := by decide +kernel
theorem dX8_isTaken_3 : decode cX8_isTaken 3 = .ok (.aload_n 0, 1) := by decide +kernel
theorem dX8_isTaken_4 : decode cX8_isTaken 4 = .ok (.invokevirtual 112, 3) := by decide +kernel
theorem dX8_isTaken_7 : decode cX8_isTaken 7 = .ok (.if_icmp .ge 23, 3) := by decide +kernel
theorem dX8_isTaken_10 : decode cX8_isTaken 10 = .ok (.aload_n 0, 1) := by decide +kernel
theorem dX8_isTaken_11 : decode cX8_isTaken 11 = .ok (.getfield 19, 3) := by decide +kernel
theorem dX8_isTaken_14 : decode cX8_isTaken 14 = .ok (.iload_n 3, 1) := by decide +kernel
theorem dX8_isTaken_15 : decode cX8_isTaken 15 = .ok (.iaload, 1) := by decide +kernel
theorem dX8_isTaken_16 : decode cX8_isTaken 16 = .ok (.iload_n 2, 1) := by decide +kernel
theorem dX8_isTaken_17 : decode cX8_isTaken 17 = .ok (.iconst 1, 1) := by decide +kernel
theorem dX8_isTaken_18 : decode cX8_isTaken 18 = .ok (.iadd, 1) := by decide +kernel
theorem dX8_isTaken_19 : decode cX8_isTaken 19 = .ok (.if_icmp .ne 5, 3) := by decide +kernel
theorem dX8_isTaken_22 : decode cX8_isTaken 22 = .ok (.iconst 1, 1) := by decide +kernel
theorem dX8_isTaken_23 : decode cX8_isTaken 23 = .ok (.ireturn, 1) := by decide +kernel
theorem dX8_isTaken_24 : decode cX8_isTaken 24 = .ok (.iinc 3 1, 3) := by decide +kernel
theorem dX8_isTaken_27 : decode cX8_isTaken 27 = .ok (.goto (-25), 3) := by decide +kernel
theorem dX8_isTaken_30 : decode cX8_isTaken 30 = .ok (.aload_n 0, 1) := by decide +kernel
theorem dX8_isTaken_31 : decode cX8_isTaken 31 = .ok (.getfield 19, 3) := by decide +kernel
theorem dX8_isTaken_34 : decode cX8_isTaken 34 = .ok (.iload_n 1, 1) := by decide +kernel
theorem dX8_isTaken_35 : decode cX8_isTaken 35 = .ok (.iaload, 1) := by decide +kernel
theorem dX8_isTaken_36 : decode cX8_isTaken 36 = .ok (.ifCond .le 7, 3) := by decide +kernel
theorem dX8_isTaken_39 : decode cX8_isTaken 39 = .ok (.iconst 1, 1) := by decide +kernel
theorem dX8_isTaken_40 : decode cX8_isTaken 40 = .ok (.goto 4, 3) := by decide +kernel
theorem dX8_isTaken_43 : decode cX8_isTaken 43 = .ok (.iconst 0, 1) := by decide +kernel
theorem dX8_isTaken_44 : decode cX8_isTaken 44 = .ok (.ireturn, 1) := by decide +kernel
theorem dX8_setUp_0 : decode cX8_setUp 0 = .ok (.aload_n 0, 1) := by decide +kernel
theorem dX8_setUp_1 : decode cX8_setUp 1 = .ok (.getfield 19, 3) := by decide +kernel
theorem dX8_setUp_4 : decode cX8_setUp 4 = .ok (.iload_n 1, 1) := by decide +kernel
theorem dX8_setUp_5 : decode cX8_setUp 5 = .ok (.iload_n 2, 1) := by decide +kernel
theorem dX8_setUp_6 : decode cX8_setUp 6 = .ok (.iconst 1, 1) := by decide +kernel
theorem dX8_setUp_7 : decode cX8_setUp 7 = .ok (.iadd, 1) := by decide +kernel
theorem dX8_setUp_8 : decode cX8_setUp 8 = .ok (.iastore, 1) := by decide +kernel
theorem dX8_setUp_9 : decode cX8_setUp 9 = .ok (.aload_n 0, 1) := by decide +kernel
theorem dX8_setUp_10 : decode cX8_setUp 10 = .ok (.getfield 23, 3) := by decide +kernel
theorem dX8_setUp_13 : decode cX8_setUp 13 = .ok (.iload_n 1, 1) := by decide +kernel
theorem dX8_setUp_14 : decode cX8_setUp 14 = .ok (.iload_n 3, 1) := by decide +kernel
theorem dX8_setUp_15 : decode cX8_setUp 15 = .ok (.iastore, 1) := by decide +kernel
theorem dX8_setUp_16 : decode cX8_setUp 16 = .ok (.iload_n 3, 1) := by decide +kernel
theorem dX8_setUp_17 : decode cX8_setUp 17 = .ok (.ireturn, 1) := by decide +kernel
theorem dX8_call_0 : decode cX8_call 0 = .ok (.aload_n 0, 1) := by decide +kernel
theorem dX8_call_1 : decode cX8_call 1 = .ok (.iload_n 1, 1) := by decide +kernel
theorem dX8_call_2 : decode cX8_call 2 = .ok (.invokevirtual 123, 3) := by decide +kernel
theorem dX8_call_5 : decode cX8_call 5 = .ok (.ifCond .eq 11, 3) := by decide +kernel
theorem dX8_call_8 : decode cX8_call 8 = .ok (.aload_n 0, 1) := by decide +kernel
theorem dX8_call_9 : decode cX8_call 9 = .ok (.iload_n 2, 1) := by decide +kernel
theorem dX8_call_10 : decode cX8_call 10 = .ok (.invokevirtual 123, 3) := by decide +kernel
theorem dX8_call_13 : decode cX8_call 13 = .ok (.ifCond .ne 5, 3) := by decide +kernel
theorem dX8_call_16 : decode cX8_call 16 = .ok (.iconst (-1), 1) := by decide +kernel
theorem dX8_call_17 : decode cX8_call 17 = .ok (.ireturn, 1) := by decide +kernel
theorem dX8_call_18 : decode cX8_call 18 = .ok (.aload_n 0, 1) := by decide +kernel
theorem dX8_call_19 : decode cX8_call 19 = .ok (.iload_n 1, 1) := by decide +kernel
theorem dX8_call_20 : decode cX8_call 20 = .ok (.iload_n 2, 1) := by decide +kernel
theorem dX8_call_21 : decode cX8_call 21 = .ok (.invokevirtual 127, 3) := by decide +kernel
theorem dX8_call_24 : decode cX8_call 24 = .ok (.ifCond .eq 6, 3) := by decide +kernel
theorem dX8_call_27 : decode cX8_call 27 = .ok (.bipush (-3), 2) := by decide +kernel
theorem dX8_call_29 : decode cX8_call 29 = .ok (.ireturn, 1) := by decide +kernel
theorem dX8_call_30 : decode cX8_call 30 = .ok (.iconst 0, 1) := by decide +kernel
theorem dX8_call_31 : decode cX8_call 31 = .ok (.istore_n 3, 1) := by decide +kernel
theorem dX8_call_32 : decode cX8_call 32 = .ok (.iload_n 3, 1) := by decide +kernel
theorem dX8_call_33 : decode cX8_call 33 = .ok (.aload_n 0, 1) := by decide +kernel
theorem dX8_call_34 : decode cX8_call 34 = .ok (.getfield 16, 3) := by decide +kernel
theorem dX8_call_37 : decode cX8_call 37 = .ok (.if_icmp .ge 49, 3) := by decide +kernel
theorem dX8_call_40 : decode cX8_call 40 = .ok (.aload_n 0, 1) := by decide +kernel
theorem dX8_call_41 : decode cX8_call 41 = .ok (.iload_n 1, 1) := by decide +kernel
theorem dX8_call_42 : decode cX8_call 42 = .ok (.aload_n 0, 1) := by decide +kernel
theorem dX8_call_43 : decode cX8_call 43 = .ok (.getfield 13, 3) := by decide +kernel
theorem dX8_call_46 : decode cX8_call 46 = .ok (.idiv, 1) := by decide +kernel
theorem dX8_call_47 : decode cX8_call 47 = .ok (.iload_n 3, 1) := by decide +kernel
theorem dX8_call_48 : decode cX8_call 48 = .ok (.invokevirtual 131, 3) := by decide +kernel
theorem dX8_call_51 : decode cX8_call 51 = .ok (.bipush (-9), 2) := by decide +kernel
theorem dX8_call_53 : decode cX8_call 53 = .ok (.if_icmp .ne 27, 3) := by decide +kernel
theorem dX8_call_56 : decode cX8_call 56 = .ok (.aload_n 0, 1) := by decide +kernel
theorem dX8_call_57 : decode cX8_call 57 = .ok (.iload_n 2, 1) := by decide +kernel
theorem dX8_call_58 : decode cX8_call 58 = .ok (.aload_n 0, 1) := by decide +kernel
theorem dX8_call_59 : decode cX8_call 59 = .ok (.getfield 13, 3) := by decide +kernel
theorem dX8_call_62 : decode cX8_call 62 = .ok (.idiv, 1) := by decide +kernel
theorem dX8_call_63 : decode cX8_call 63 = .ok (.iload_n 3, 1) := by decide +kernel
theorem dX8_call_64 : decode cX8_call 64 = .ok (.invokevirtual 135, 3) := by decide +kernel
theorem dX8_call_67 : decode cX8_call 67 = .ok (.bipush (-9), 2) := by decide +kernel
theorem dX8_call_69 : decode cX8_call 69 = .ok (.if_icmp .ne 11, 3) := by decide +kernel
theorem dX8_call_72 : decode cX8_call 72 = .ok (.aload_n 0, 1) := by decide +kernel
theorem dX8_call_73 : decode cX8_call 73 = .ok (.iload_n 1, 1) := by decide +kernel
theorem dX8_call_74 : decode cX8_call 74 = .ok (.iload_n 2, 1) := by decide +kernel
theorem dX8_call_75 : decode cX8_call 75 = .ok (.iload_n 3, 1) := by decide +kernel
theorem dX8_call_76 : decode cX8_call 76 = .ok (.invokevirtual 138, 3) := by decide +kernel
theorem dX8_call_79 : decode cX8_call 79 = .ok (.ireturn, 1) := by decide +kernel
theorem dX8_call_80 : decode cX8_call 80 = .ok (.iinc 3 1, 3) := by decide +kernel
theorem dX8_call_83 : decode cX8_call 83 = .ok (.goto (-51), 3) := by decide +kernel
theorem dX8_call_86 : decode cX8_call 86 = .ok (.bipush (-9), 2) := by decide +kernel
theorem dX8_call_88 : decode cX8_call 88 = .ok (.ireturn, 1) := by decide +kernel
theorem dX8_chainOf_0 : decode cX8_chainOf 0 = .ok (.iload_n 2, 1) := by decide +kernel
theorem dX8_chainOf_1 : decode cX8_chainOf 1 = .ok (.iload_n 3, 1) := by decide +kernel
theorem dX8_chainOf_2 : decode cX8_chainOf 2 = .ok (.if_icmp .ne 5, 3) := by decide +kernel
theorem dX8_chainOf_5 : decode cX8_chainOf 5 = .ok (.iconst 0, 1) := by decide +kernel
theorem dX8_chainOf_6 : decode cX8_chainOf 6 = .ok (.ireturn, 1) := by decide +kernel
theorem dX8_chainOf_7 : decode cX8_chainOf 7 = .ok (.iconst 0, 1) := by decide +kernel
theorem dX8_chainOf_8 : decode cX8_chainOf 8 = .ok (.istore 4, 2) := by decide +kernel
theorem dX8_chainOf_10 : decode cX8_chainOf 10 = .ok (.aload_n 0, 1) := by decide +kernel
theorem dX8_chainOf_11 : decode cX8_chainOf 11 = .ok (.iload_n 1, 1) := by decide +kernel
theorem dX8_chainOf_12 : decode cX8_chainOf 12 = .ok (.iload_n 2, 1) := by decide +kernel
theorem dX8_chainOf_13 : decode cX8_chainOf 13 = .ok (.invokevirtual 135, 3) := by decide +kernel
theorem dX8_chainOf_16 : decode cX8_chainOf 16 = .ok (.istore 5, 2) := by decide +kernel
theorem dX8_chainOf_18 : decode cX8_chainOf 18 = .ok (.iload 5, 2) := by decide +kernel
theorem dX8_chainOf_20 : decode cX8_chainOf 20 = .ok (.bipush (-9), 2) := by decide +kernel
theorem dX8_chainOf_22 : decode cX8_chainOf 22 = .ok (.if_icmp .eq 62, 3) := by decide +kernel
theorem dX8_chainOf_25 : decode cX8_chainOf 25 = .ok (.aload_n 0, 1) := by decide +kernel
theorem dX8_chainOf_26 : decode cX8_chainOf 26 = .ok (.getfield 26, 3) := by decide +kernel
theorem dX8_chainOf_29 : decode cX8_chainOf 29 = .ok (.iload 4, 2) := by decide +kernel
theorem dX8_chainOf_31 : decode cX8_chainOf 31 = .ok (.iload 5, 2) := by decide +kernel
theorem dX8_chainOf_33 : decode cX8_chainOf 33 = .ok (.iastore, 1) := by decide +kernel
theorem dX8_chainOf_34 : decode cX8_chainOf 34 = .ok (.iinc 4 1, 3) := by decide +kernel
theorem dX8_chainOf_37 : decode cX8_chainOf 37 = .ok (.iload 4, 2) := by decide +kernel
theorem dX8_chainOf_39 : decode cX8_chainOf 39 = .ok (.iconst 2, 1) := by decide +kernel
theorem dX8_chainOf_40 : decode cX8_chainOf 40 = .ok (.irem, 1) := by decide +kernel
theorem dX8_chainOf_41 : decode cX8_chainOf 41 = .ok (.iconst 1, 1) := by decide +kernel
theorem dX8_chainOf_42 : decode cX8_chainOf 42 = .ok (.if_icmp .ne 18, 3) := by decide +kernel
theorem dX8_chainOf_45 : decode cX8_chainOf 45 = .ok (.aload_n 0, 1) := by decide +kernel
theorem dX8_chainOf_46 : decode cX8_chainOf 46 = .ok (.iload 5, 2) := by decide +kernel
theorem dX8_chainOf_48 : decode cX8_chainOf 48 = .ok (.aload_n 0, 1) := by decide +kernel
theorem dX8_chainOf_49 : decode cX8_chainOf 49 = .ok (.getfield 13, 3) := by decide +kernel
theorem dX8_chainOf_52 : decode cX8_chainOf 52 = .ok (.idiv, 1) := by decide +kernel
theorem dX8_chainOf_53 : decode cX8_chainOf 53 = .ok (.iload_n 3, 1) := by decide +kernel
theorem dX8_chainOf_54 : decode cX8_chainOf 54 = .ok (.invokevirtual 131, 3) := by decide +kernel
theorem dX8_chainOf_57 : decode cX8_chainOf 57 = .ok (.goto 22, 3) := by decide +kernel
theorem dX8_chainOf_60 : decode cX8_chainOf 60 = .ok (.aload_n 0, 1) := by decide +kernel
theorem dX8_chainOf_61 : decode cX8_chainOf 61 = .ok (.aload_n 0, 1) := by decide +kernel
theorem dX8_chainOf_62 : decode cX8_chainOf 62 = .ok (.getfield 19, 3) := by decide +kernel
theorem dX8_chainOf_65 : decode cX8_chainOf 65 = .ok (.iload 5, 2) := by decide +kernel
theorem dX8_chainOf_67 : decode cX8_chainOf 67 = .ok (.iaload, 1) := by decide +kernel
theorem dX8_chainOf_68 : decode cX8_chainOf 68 = .ok (.iconst 1, 1) := by decide +kernel
theorem dX8_chainOf_69 : decode cX8_chainOf 69 = .ok (.isub, 1) := by decide +kernel
theorem dX8_chainOf_70 : decode cX8_chainOf 70 = .ok (.aload_n 0, 1) := by decide +kernel
theorem dX8_chainOf_71 : decode cX8_chainOf 71 = .ok (.getfield 13, 3) := by decide +kernel
theorem dX8_chainOf_74 : decode cX8_chainOf 74 = .ok (.idiv, 1) := by decide +kernel
theorem dX8_chainOf_75 : decode cX8_chainOf 75 = .ok (.iload_n 2, 1) := by decide +kernel
theorem dX8_chainOf_76 : decode cX8_chainOf 76 = .ok (.invokevirtual 135, 3) := by decide +kernel
theorem dX8_chainOf_79 : decode cX8_chainOf 79 = .ok (.istore 5, 2) := by decide +kernel
theorem dX8_chainOf_81 : decode cX8_chainOf 81 = .ok (.goto (-63), 3) := by decide +kernel
theorem dX8_chainOf_84 : decode cX8_chainOf 84 = .ok (.iload 4, 2) := by decide +kernel
theorem dX8_chainOf_86 : decode cX8_chainOf 86 = .ok (.ireturn, 1) := by decide +kernel
theorem dX8_fewest_0 : decode cX8_fewest 0 = .ok (.bipush (-9), 2) := by decide +kernel
theorem dX8_fewest_2 : decode cX8_fewest 2 = .ok (.istore_n 3, 1) := by decide +kernel
theorem dX8_fewest_3 : decode cX8_fewest 3 = .ok (.iconst 0, 1) := by decide +kernel
theorem dX8_fewest_4 : decode cX8_fewest 4 = .ok (.istore 4, 2) := by decide +kernel
theorem dX8_fewest_6 : decode cX8_fewest 6 = .ok (.iload 4, 2) := by decide +kernel
theorem dX8_fewest_8 : decode cX8_fewest 8 = .ok (.aload_n 0, 1) := by decide +kernel
theorem dX8_fewest_9 : decode cX8_fewest 9 = .ok (.getfield 16, 3) := by decide +kernel
theorem dX8_fewest_12 : decode cX8_fewest 12 = .ok (.if_icmp .ge 110, 3) := by decide +kernel
theorem dX8_fewest_15 : decode cX8_fewest 15 = .ok (.aload_n 0, 1) := by decide +kernel
theorem dX8_fewest_16 : decode cX8_fewest 16 = .ok (.iload_n 1, 1) := by decide +kernel
theorem dX8_fewest_17 : decode cX8_fewest 17 = .ok (.aload_n 0, 1) := by decide +kernel
theorem dX8_fewest_18 : decode cX8_fewest 18 = .ok (.getfield 13, 3) := by decide +kernel
theorem dX8_fewest_21 : decode cX8_fewest 21 = .ok (.idiv, 1) := by decide +kernel
theorem dX8_fewest_22 : decode cX8_fewest 22 = .ok (.iload 4, 2) := by decide +kernel
theorem dX8_fewest_24 : decode cX8_fewest 24 = .ok (.invokevirtual 131, 3) := by decide +kernel
theorem dX8_fewest_27 : decode cX8_fewest 27 = .ok (.bipush (-9), 2) := by decide +kernel
theorem dX8_fewest_29 : decode cX8_fewest 29 = .ok (.if_icmp .eq 6, 3) := by decide +kernel
theorem dX8_fewest_32 : decode cX8_fewest 32 = .ok (.goto 84, 3) := by decide +kernel
theorem dX8_fewest_35 : decode cX8_fewest 35 = .ok (.iconst 0, 1) := by decide +kernel
theorem dX8_fewest_36 : decode cX8_fewest 36 = .ok (.istore 5, 2) := by decide +kernel
theorem dX8_fewest_38 : decode cX8_fewest 38 = .ok (.iload 5, 2) := by decide +kernel
theorem dX8_fewest_40 : decode cX8_fewest 40 = .ok (.aload_n 0, 1) := by decide +kernel
theorem dX8_fewest_41 : decode cX8_fewest 41 = .ok (.getfield 16, 3) := by decide +kernel
theorem dX8_fewest_44 : decode cX8_fewest 44 = .ok (.if_icmp .ge 72, 3) := by decide +kernel
theorem dX8_fewest_47 : decode cX8_fewest 47 = .ok (.aload_n 0, 1) := by decide +kernel
theorem dX8_fewest_48 : decode cX8_fewest 48 = .ok (.iload_n 2, 1) := by decide +kernel
theorem dX8_fewest_49 : decode cX8_fewest 49 = .ok (.aload_n 0, 1) := by decide +kernel
theorem dX8_fewest_50 : decode cX8_fewest 50 = .ok (.getfield 13, 3) := by decide +kernel
theorem dX8_fewest_53 : decode cX8_fewest 53 = .ok (.idiv, 1) := by decide +kernel
theorem dX8_fewest_54 : decode cX8_fewest 54 = .ok (.iload 5, 2) := by decide +kernel
theorem dX8_fewest_56 : decode cX8_fewest 56 = .ok (.invokevirtual 135, 3) := by decide +kernel
theorem dX8_fewest_59 : decode cX8_fewest 59 = .ok (.bipush (-9), 2) := by decide +kernel
theorem dX8_fewest_61 : decode cX8_fewest 61 = .ok (.if_icmp .eq 6, 3) := by decide +kernel
theorem dX8_fewest_64 : decode cX8_fewest 64 = .ok (.goto 46, 3) := by decide +kernel
theorem dX8_fewest_67 : decode cX8_fewest 67 = .ok (.aload_n 0, 1) := by decide +kernel
theorem dX8_fewest_68 : decode cX8_fewest 68 = .ok (.iload_n 2, 1) := by decide +kernel
theorem dX8_fewest_69 : decode cX8_fewest 69 = .ok (.aload_n 0, 1) := by decide +kernel
theorem dX8_fewest_70 : decode cX8_fewest 70 = .ok (.getfield 13, 3) := by decide +kernel
theorem dX8_fewest_73 : decode cX8_fewest 73 = .ok (.idiv, 1) := by decide +kernel
theorem dX8_fewest_74 : decode cX8_fewest 74 = .ok (.iload 4, 2) := by decide +kernel
theorem dX8_fewest_76 : decode cX8_fewest 76 = .ok (.iload 5, 2) := by decide +kernel
theorem dX8_fewest_78 : decode cX8_fewest 78 = .ok (.invokevirtual 142, 3) := by decide +kernel
theorem dX8_fewest_81 : decode cX8_fewest 81 = .ok (.istore 6, 2) := by decide +kernel
theorem dX8_fewest_83 : decode cX8_fewest 83 = .ok (.iload_n 3, 1) := by decide +kernel
theorem dX8_fewest_84 : decode cX8_fewest 84 = .ok (.bipush (-9), 2) := by decide +kernel
theorem dX8_fewest_86 : decode cX8_fewest 86 = .ok (.if_icmp .eq 9, 3) := by decide +kernel
theorem dX8_fewest_89 : decode cX8_fewest 89 = .ok (.iload 6, 2) := by decide +kernel
theorem dX8_fewest_91 : decode cX8_fewest 91 = .ok (.iload_n 3, 1) := by decide +kernel
theorem dX8_fewest_92 : decode cX8_fewest 92 = .ok (.if_icmp .ge 18, 3) := by decide +kernel
theorem dX8_fewest_95 : decode cX8_fewest 95 = .ok (.iload 6, 2) := by decide +kernel
theorem dX8_fewest_97 : decode cX8_fewest 97 = .ok (.istore_n 3, 1) := by decide +kernel
theorem dX8_fewest_98 : decode cX8_fewest 98 = .ok (.aload_n 0, 1) := by decide +kernel
theorem dX8_fewest_99 : decode cX8_fewest 99 = .ok (.iload 4, 2) := by decide +kernel
theorem dX8_fewest_101 : decode cX8_fewest 101 = .ok (.putfield 145, 3) := by decide +kernel
theorem dX8_fewest_104 : decode cX8_fewest 104 = .ok (.aload_n 0, 1) := by decide +kernel
theorem dX8_fewest_105 : decode cX8_fewest 105 = .ok (.iload 5, 2) := by decide +kernel
theorem dX8_fewest_107 : decode cX8_fewest 107 = .ok (.putfield 148, 3) := by decide +kernel
theorem dX8_fewest_110 : decode cX8_fewest 110 = .ok (.iinc 5 1, 3) := by decide +kernel
theorem dX8_fewest_113 : decode cX8_fewest 113 = .ok (.goto (-75), 3) := by decide +kernel
theorem dX8_fewest_116 : decode cX8_fewest 116 = .ok (.iinc 4 1, 3) := by decide +kernel
theorem dX8_fewest_119 : decode cX8_fewest 119 = .ok (.goto (-113), 3) := by decide +kernel
theorem dX8_fewest_122 : decode cX8_fewest 122 = .ok (.iload_n 3, 1) := by decide +kernel
theorem dX8_fewest_123 : decode cX8_fewest 123 = .ok (.ireturn, 1) := by decide +kernel
theorem dX8_mendOne_0 : decode cX8_mendOne 0 = .ok (.aload_n 0, 1) := by decide +kernel
theorem dX8_mendOne_1 : decode cX8_mendOne 1 = .ok (.iload_n 1, 1) := by decide +kernel
theorem dX8_mendOne_2 : decode cX8_mendOne 2 = .ok (.iload_n 2, 1) := by decide +kernel
theorem dX8_mendOne_3 : decode cX8_mendOne 3 = .ok (.invokevirtual 151, 3) := by decide +kernel
theorem dX8_mendOne_6 : decode cX8_mendOne 6 = .ok (.istore_n 3, 1) := by decide +kernel
theorem dX8_mendOne_7 : decode cX8_mendOne 7 = .ok (.iload_n 3, 1) := by decide +kernel
theorem dX8_mendOne_8 : decode cX8_mendOne 8 = .ok (.bipush (-9), 2) := by decide +kernel
theorem dX8_mendOne_10 : decode cX8_mendOne 10 = .ok (.if_icmp .ne 6, 3) := by decide +kernel
theorem dX8_mendOne_13 : decode cX8_mendOne 13 = .ok (.bipush (-9), 2) := by decide +kernel
theorem dX8_mendOne_15 : decode cX8_mendOne 15 = .ok (.ireturn, 1) := by decide +kernel
theorem dX8_mendOne_16 : decode cX8_mendOne 16 = .ok (.aload_n 0, 1) := by decide +kernel
theorem dX8_mendOne_17 : decode cX8_mendOne 17 = .ok (.iload_n 2, 1) := by decide +kernel
theorem dX8_mendOne_18 : decode cX8_mendOne 18 = .ok (.aload_n 0, 1) := by decide +kernel
theorem dX8_mendOne_19 : decode cX8_mendOne 19 = .ok (.getfield 13, 3) := by decide +kernel
theorem dX8_mendOne_22 : decode cX8_mendOne 22 = .ok (.idiv, 1) := by decide +kernel
theorem dX8_mendOne_23 : decode cX8_mendOne 23 = .ok (.aload_n 0, 1) := by decide +kernel
theorem dX8_mendOne_24 : decode cX8_mendOne 24 = .ok (.getfield 145, 3) := by decide +kernel
theorem dX8_mendOne_27 : decode cX8_mendOne 27 = .ok (.aload_n 0, 1) := by decide +kernel
theorem dX8_mendOne_28 : decode cX8_mendOne 28 = .ok (.getfield 148, 3) := by decide +kernel
theorem dX8_mendOne_31 : decode cX8_mendOne 31 = .ok (.invokevirtual 142, 3) := by decide +kernel
theorem dX8_mendOne_34 : decode cX8_mendOne 34 = .ok (.istore_n 3, 1) := by decide +kernel
theorem dX8_mendOne_35 : decode cX8_mendOne 35 = .ok (.iconst 0, 1) := by decide +kernel
theorem dX8_mendOne_36 : decode cX8_mendOne 36 = .ok (.istore 4, 2) := by decide +kernel
theorem dX8_mendOne_38 : decode cX8_mendOne 38 = .ok (.iload 4, 2) := by decide +kernel
theorem dX8_mendOne_40 : decode cX8_mendOne 40 = .ok (.iload_n 3, 1) := by decide +kernel
theorem dX8_mendOne_41 : decode cX8_mendOne 41 = .ok (.if_icmp .ge 39, 3) := by decide +kernel
theorem dX8_mendOne_44 : decode cX8_mendOne 44 = .ok (.aload_n 0, 1) := by decide +kernel
theorem dX8_mendOne_45 : decode cX8_mendOne 45 = .ok (.getfield 23, 3) := by decide +kernel
theorem dX8_mendOne_48 : decode cX8_mendOne 48 = .ok (.aload_n 0, 1) := by decide +kernel
theorem dX8_mendOne_49 : decode cX8_mendOne 49 = .ok (.getfield 26, 3) := by decide +kernel
theorem dX8_mendOne_52 : decode cX8_mendOne 52 = .ok (.iload 4, 2) := by decide +kernel
theorem dX8_mendOne_54 : decode cX8_mendOne 54 = .ok (.iaload, 1) := by decide +kernel
theorem dX8_mendOne_55 : decode cX8_mendOne 55 = .ok (.iload 4, 2) := by decide +kernel
theorem dX8_mendOne_57 : decode cX8_mendOne 57 = .ok (.iconst 2, 1) := by decide +kernel
theorem dX8_mendOne_58 : decode cX8_mendOne 58 = .ok (.irem, 1) := by decide +kernel
theorem dX8_mendOne_59 : decode cX8_mendOne 59 = .ok (.ifCond .ne 10, 3) := by decide +kernel
theorem dX8_mendOne_62 : decode cX8_mendOne 62 = .ok (.aload_n 0, 1) := by decide +kernel
theorem dX8_mendOne_63 : decode cX8_mendOne 63 = .ok (.getfield 148, 3) := by decide +kernel
theorem dX8_mendOne_66 : decode cX8_mendOne 66 = .ok (.goto 7, 3) := by decide +kernel
theorem dX8_mendOne_69 : decode cX8_mendOne 69 = .ok (.aload_n 0, 1) := by decide +kernel
theorem dX8_mendOne_70 : decode cX8_mendOne 70 = .ok (.getfield 145, 3) := by decide +kernel
theorem dX8_mendOne_73 : decode cX8_mendOne 73 = .ok (.iastore, 1) := by decide +kernel
theorem dX8_mendOne_74 : decode cX8_mendOne 74 = .ok (.iinc 4 1, 3) := by decide +kernel
theorem dX8_mendOne_77 : decode cX8_mendOne 77 = .ok (.goto (-39), 3) := by decide +kernel
theorem dX8_mendOne_80 : decode cX8_mendOne 80 = .ok (.aload_n 0, 1) := by decide +kernel
theorem dX8_mendOne_81 : decode cX8_mendOne 81 = .ok (.iload_n 1, 1) := by decide +kernel
theorem dX8_mendOne_82 : decode cX8_mendOne 82 = .ok (.iload_n 2, 1) := by decide +kernel
theorem dX8_mendOne_83 : decode cX8_mendOne 83 = .ok (.aload_n 0, 1) := by decide +kernel
theorem dX8_mendOne_84 : decode cX8_mendOne 84 = .ok (.getfield 145, 3) := by decide +kernel
theorem dX8_mendOne_87 : decode cX8_mendOne 87 = .ok (.invokevirtual 138, 3) := by decide +kernel
theorem dX8_mendOne_90 : decode cX8_mendOne 90 = .ok (.istore 4, 2) := by decide +kernel
theorem dX8_mendOne_92 : decode cX8_mendOne 92 = .ok (.iload_n 3, 1) := by decide +kernel
theorem dX8_mendOne_93 : decode cX8_mendOne 93 = .ok (.ireturn, 1) := by decide +kernel
theorem dX8_mend_0 : decode cX8_mend 0 = .ok (.aload_n 0, 1) := by decide +kernel
theorem dX8_mend_1 : decode cX8_mend 1 = .ok (.iload_n 1, 1) := by decide +kernel
theorem dX8_mend_2 : decode cX8_mend 2 = .ok (.invokevirtual 123, 3) := by decide +kernel
theorem dX8_mend_5 : decode cX8_mend 5 = .ok (.ifCond .eq 11, 3) := by decide +kernel
theorem dX8_mend_8 : decode cX8_mend 8 = .ok (.aload_n 0, 1) := by decide +kernel
theorem dX8_mend_9 : decode cX8_mend 9 = .ok (.iload_n 2, 1) := by decide +kernel
theorem dX8_mend_10 : decode cX8_mend 10 = .ok (.invokevirtual 123, 3) := by decide +kernel
theorem dX8_mend_13 : decode cX8_mend 13 = .ok (.ifCond .ne 5, 3) := by decide +kernel
theorem dX8_mend_16 : decode cX8_mend 16 = .ok (.iconst (-1), 1) := by decide +kernel
theorem dX8_mend_17 : decode cX8_mend 17 = .ok (.ireturn, 1) := by decide +kernel
theorem dX8_mend_18 : decode cX8_mend 18 = .ok (.aload_n 0, 1) := by decide +kernel
theorem dX8_mend_19 : decode cX8_mend 19 = .ok (.iload_n 1, 1) := by decide +kernel
theorem dX8_mend_20 : decode cX8_mend 20 = .ok (.iload_n 2, 1) := by decide +kernel
theorem dX8_mend_21 : decode cX8_mend 21 = .ok (.invokevirtual 127, 3) := by decide +kernel
theorem dX8_mend_24 : decode cX8_mend 24 = .ok (.ifCond .eq 8, 3) := by decide +kernel
theorem dX8_mend_27 : decode cX8_mend 27 = .ok (.bipush (-3), 2) := by decide +kernel
theorem dX8_mend_29 : decode cX8_mend 29 = .ok (.goto 9, 3) := by decide +kernel
theorem dX8_mend_32 : decode cX8_mend 32 = .ok (.aload_n 0, 1) := by decide +kernel
theorem dX8_mend_33 : decode cX8_mend 33 = .ok (.iload_n 1, 1) := by decide +kernel
theorem dX8_mend_34 : decode cX8_mend 34 = .ok (.iload_n 2, 1) := by decide +kernel
theorem dX8_mend_35 : decode cX8_mend 35 = .ok (.invokevirtual 154, 3) := by decide +kernel
theorem dX8_mend_38 : decode cX8_mend 38 = .ok (.ireturn, 1) := by decide +kernel
theorem dX8_moves_0 : decode cX8_moves 0 = .ok (.aload_n 0, 1) := by decide +kernel
theorem dX8_moves_1 : decode cX8_moves 1 = .ok (.iload_n 1, 1) := by decide +kernel
theorem dX8_moves_2 : decode cX8_moves 2 = .ok (.invokevirtual 123, 3) := by decide +kernel
theorem dX8_moves_5 : decode cX8_moves 5 = .ok (.ifCond .eq 11, 3) := by decide +kernel
theorem dX8_moves_8 : decode cX8_moves 8 = .ok (.aload_n 0, 1) := by decide +kernel
theorem dX8_moves_9 : decode cX8_moves 9 = .ok (.iload_n 2, 1) := by decide +kernel
theorem dX8_moves_10 : decode cX8_moves 10 = .ok (.invokevirtual 123, 3) := by decide +kernel
theorem dX8_moves_13 : decode cX8_moves 13 = .ok (.ifCond .ne 5, 3) := by decide +kernel
theorem dX8_moves_16 : decode cX8_moves 16 = .ok (.iconst (-1), 1) := by decide +kernel
theorem dX8_moves_17 : decode cX8_moves 17 = .ok (.ireturn, 1) := by decide +kernel
theorem dX8_moves_18 : decode cX8_moves 18 = .ok (.aload_n 0, 1) := by decide +kernel
theorem dX8_moves_19 : decode cX8_moves 19 = .ok (.iload_n 1, 1) := by decide +kernel
theorem dX8_moves_20 : decode cX8_moves 20 = .ok (.iload_n 2, 1) := by decide +kernel
theorem dX8_moves_21 : decode cX8_moves 21 = .ok (.invokevirtual 127, 3) := by decide +kernel
theorem dX8_moves_24 : decode cX8_moves 24 = .ok (.ifCond .eq 8, 3) := by decide +kernel
theorem dX8_moves_27 : decode cX8_moves 27 = .ok (.bipush (-3), 2) := by decide +kernel
theorem dX8_moves_29 : decode cX8_moves 29 = .ok (.goto 9, 3) := by decide +kernel
theorem dX8_moves_32 : decode cX8_moves 32 = .ok (.aload_n 0, 1) := by decide +kernel
theorem dX8_moves_33 : decode cX8_moves 33 = .ok (.iload_n 1, 1) := by decide +kernel
theorem dX8_moves_34 : decode cX8_moves 34 = .ok (.iload_n 2, 1) := by decide +kernel
theorem dX8_moves_35 : decode cX8_moves 35 = .ok (.invokevirtual 151, 3) := by decide +kernel
theorem dX8_moves_38 : decode cX8_moves 38 = .ok (.ireturn, 1) := by decide +kernel
theorem dX8_hang_0 : decode cX8_hang 0 = .ok (.aload_n 0, 1) := by decide +kernel
theorem dX8_hang_1 : decode cX8_hang 1 = .ok (.iload_n 1, 1) := by decide +kernel
theorem dX8_hang_2 : decode cX8_hang 2 = .ok (.invokevirtual 123, 3) := by decide +kernel
theorem dX8_hang_5 : decode cX8_hang 5 = .ok (.ifCond .ne 5, 3) := by decide +kernel
theorem dX8_hang_8 : decode cX8_hang 8 = .ok (.iconst (-1), 1) := by decide +kernel
theorem dX8_hang_9 : decode cX8_hang 9 = .ok (.ireturn, 1) := by decide +kernel
theorem dX8_hang_10 : decode cX8_hang 10 = .ok (.aload_n 0, 1) := by decide +kernel
theorem dX8_hang_11 : decode cX8_hang 11 = .ok (.getfield 19, 3) := by decide +kernel
theorem dX8_hang_14 : decode cX8_hang 14 = .ok (.iload_n 1, 1) := by decide +kernel
theorem dX8_hang_15 : decode cX8_hang 15 = .ok (.iaload, 1) := by decide +kernel
theorem dX8_hang_16 : decode cX8_hang 16 = .ok (.ifCond .ne 6, 3) := by decide +kernel
theorem dX8_hang_19 : decode cX8_hang 19 = .ok (.bipush (-3), 2) := by decide +kernel
theorem dX8_hang_21 : decode cX8_hang 21 = .ok (.ireturn, 1) := by decide +kernel
theorem dX8_hang_22 : decode cX8_hang 22 = .ok (.aload_n 0, 1) := by decide +kernel
theorem dX8_hang_23 : decode cX8_hang 23 = .ok (.getfield 19, 3) := by decide +kernel
theorem dX8_hang_26 : decode cX8_hang 26 = .ok (.iload_n 1, 1) := by decide +kernel
theorem dX8_hang_27 : decode cX8_hang 27 = .ok (.iconst 0, 1) := by decide +kernel
theorem dX8_hang_28 : decode cX8_hang 28 = .ok (.iastore, 1) := by decide +kernel
theorem dX8_hang_29 : decode cX8_hang 29 = .ok (.aload_n 0, 1) := by decide +kernel
theorem dX8_hang_30 : decode cX8_hang 30 = .ok (.getfield 23, 3) := by decide +kernel
theorem dX8_hang_33 : decode cX8_hang 33 = .ok (.iload_n 1, 1) := by decide +kernel
theorem dX8_hang_34 : decode cX8_hang 34 = .ok (.iaload, 1) := by decide +kernel
theorem dX8_hang_35 : decode cX8_hang 35 = .ok (.ireturn, 1) := by decide +kernel
theorem dX8_anew_0 : decode cX8_anew 0 = .ok (.iconst 0, 1) := by decide +kernel
theorem dX8_anew_1 : decode cX8_anew 1 = .ok (.istore_n 1, 1) := by decide +kernel
theorem dX8_anew_2 : decode cX8_anew 2 = .ok (.iload_n 1, 1) := by decide +kernel
theorem dX8_anew_3 : decode cX8_anew 3 = .ok (.bipush 20, 2) := by decide +kernel
theorem dX8_anew_5 : decode cX8_anew 5 = .ok (.if_icmp .ge 40, 3) := by decide +kernel
theorem dX8_anew_8 : decode cX8_anew 8 = .ok (.aload_n 0, 1) := by decide +kernel
theorem dX8_anew_9 : decode cX8_anew 9 = .ok (.getfield 29, 3) := by decide +kernel
theorem dX8_anew_12 : decode cX8_anew 12 = .ok (.iload_n 1, 1) := by decide +kernel
theorem dX8_anew_13 : decode cX8_anew 13 = .ok (.aload_n 0, 1) := by decide +kernel
theorem dX8_anew_14 : decode cX8_anew 14 = .ok (.getfield 19, 3) := by decide +kernel
theorem dX8_anew_17 : decode cX8_anew 17 = .ok (.iload_n 1, 1) := by decide +kernel
theorem dX8_anew_18 : decode cX8_anew 18 = .ok (.iaload, 1) := by decide +kernel
theorem dX8_anew_19 : decode cX8_anew 19 = .ok (.iastore, 1) := by decide +kernel
theorem dX8_anew_20 : decode cX8_anew 20 = .ok (.aload_n 0, 1) := by decide +kernel
theorem dX8_anew_21 : decode cX8_anew 21 = .ok (.getfield 32, 3) := by decide +kernel
theorem dX8_anew_24 : decode cX8_anew 24 = .ok (.iload_n 1, 1) := by decide +kernel
theorem dX8_anew_25 : decode cX8_anew 25 = .ok (.aload_n 0, 1) := by decide +kernel
theorem dX8_anew_26 : decode cX8_anew 26 = .ok (.getfield 23, 3) := by decide +kernel
theorem dX8_anew_29 : decode cX8_anew 29 = .ok (.iload_n 1, 1) := by decide +kernel
theorem dX8_anew_30 : decode cX8_anew 30 = .ok (.iaload, 1) := by decide +kernel
theorem dX8_anew_31 : decode cX8_anew 31 = .ok (.iastore, 1) := by decide +kernel
theorem dX8_anew_32 : decode cX8_anew 32 = .ok (.aload_n 0, 1) := by decide +kernel
theorem dX8_anew_33 : decode cX8_anew 33 = .ok (.getfield 19, 3) := by decide +kernel
theorem dX8_anew_36 : decode cX8_anew 36 = .ok (.iload_n 1, 1) := by decide +kernel
theorem dX8_anew_37 : decode cX8_anew 37 = .ok (.iconst 0, 1) := by decide +kernel
theorem dX8_anew_38 : decode cX8_anew 38 = .ok (.iastore, 1) := by decide +kernel
theorem dX8_anew_39 : decode cX8_anew 39 = .ok (.iinc 1 1, 3) := by decide +kernel
theorem dX8_anew_42 : decode cX8_anew 42 = .ok (.goto (-40), 3) := by decide +kernel
theorem dX8_anew_45 : decode cX8_anew 45 = .ok (.iconst 1, 1) := by decide +kernel
theorem dX8_anew_46 : decode cX8_anew 46 = .ok (.istore_n 1, 1) := by decide +kernel
theorem dX8_anew_47 : decode cX8_anew 47 = .ok (.iconst 0, 1) := by decide +kernel
theorem dX8_anew_48 : decode cX8_anew 48 = .ok (.istore_n 2, 1) := by decide +kernel
theorem dX8_anew_49 : decode cX8_anew 49 = .ok (.iload_n 2, 1) := by decide +kernel
theorem dX8_anew_50 : decode cX8_anew 50 = .ok (.aload_n 0, 1) := by decide +kernel
theorem dX8_anew_51 : decode cX8_anew 51 = .ok (.invokevirtual 112, 3) := by decide +kernel
theorem dX8_anew_54 : decode cX8_anew 54 = .ok (.if_icmp .ge 46, 3) := by decide +kernel
theorem dX8_anew_57 : decode cX8_anew 57 = .ok (.iload_n 1, 1) := by decide +kernel
theorem dX8_anew_58 : decode cX8_anew 58 = .ok (.ifCond .eq 42, 3) := by decide +kernel
theorem dX8_anew_61 : decode cX8_anew 61 = .ok (.aload_n 0, 1) := by decide +kernel
theorem dX8_anew_62 : decode cX8_anew 62 = .ok (.getfield 29, 3) := by decide +kernel
theorem dX8_anew_65 : decode cX8_anew 65 = .ok (.iload_n 2, 1) := by decide +kernel
theorem dX8_anew_66 : decode cX8_anew 66 = .ok (.iaload, 1) := by decide +kernel
theorem dX8_anew_67 : decode cX8_anew 67 = .ok (.ifCond .eq 21, 3) := by decide +kernel
theorem dX8_anew_70 : decode cX8_anew 70 = .ok (.aload_n 0, 1) := by decide +kernel
theorem dX8_anew_71 : decode cX8_anew 71 = .ok (.iload_n 2, 1) := by decide +kernel
theorem dX8_anew_72 : decode cX8_anew 72 = .ok (.aload_n 0, 1) := by decide +kernel
theorem dX8_anew_73 : decode cX8_anew 73 = .ok (.getfield 29, 3) := by decide +kernel
theorem dX8_anew_76 : decode cX8_anew 76 = .ok (.iload_n 2, 1) := by decide +kernel
theorem dX8_anew_77 : decode cX8_anew 77 = .ok (.iaload, 1) := by decide +kernel
theorem dX8_anew_78 : decode cX8_anew 78 = .ok (.iconst 1, 1) := by decide +kernel
theorem dX8_anew_79 : decode cX8_anew 79 = .ok (.isub, 1) := by decide +kernel
theorem dX8_anew_80 : decode cX8_anew 80 = .ok (.invokevirtual 154, 3) := by decide +kernel
theorem dX8_anew_83 : decode cX8_anew 83 = .ok (.bipush (-9), 2) := by decide +kernel
theorem dX8_anew_85 : decode cX8_anew 85 = .ok (.if_icmp .eq 7, 3) := by decide +kernel
theorem dX8_anew_88 : decode cX8_anew 88 = .ok (.iconst 1, 1) := by decide +kernel
theorem dX8_anew_89 : decode cX8_anew 89 = .ok (.goto 4, 3) := by decide +kernel
theorem dX8_anew_92 : decode cX8_anew 92 = .ok (.iconst 0, 1) := by decide +kernel
theorem dX8_anew_93 : decode cX8_anew 93 = .ok (.istore_n 1, 1) := by decide +kernel
theorem dX8_anew_94 : decode cX8_anew 94 = .ok (.iinc 2 1, 3) := by decide +kernel
theorem dX8_anew_97 : decode cX8_anew 97 = .ok (.goto (-48), 3) := by decide +kernel
theorem dX8_anew_100 : decode cX8_anew 100 = .ok (.iconst 0, 1) := by decide +kernel
theorem dX8_anew_101 : decode cX8_anew 101 = .ok (.istore_n 2, 1) := by decide +kernel
theorem dX8_anew_102 : decode cX8_anew 102 = .ok (.iconst 0, 1) := by decide +kernel
theorem dX8_anew_103 : decode cX8_anew 103 = .ok (.istore_n 3, 1) := by decide +kernel
theorem dX8_anew_104 : decode cX8_anew 104 = .ok (.iload_n 3, 1) := by decide +kernel
theorem dX8_anew_105 : decode cX8_anew 105 = .ok (.bipush 20, 2) := by decide +kernel
theorem dX8_anew_107 : decode cX8_anew 107 = .ok (.if_icmp .ge 69, 3) := by decide +kernel
theorem dX8_anew_110 : decode cX8_anew 110 = .ok (.iload_n 1, 1) := by decide +kernel
theorem dX8_anew_111 : decode cX8_anew 111 = .ok (.ifCond .ne 27, 3) := by decide +kernel
theorem dX8_anew_114 : decode cX8_anew 114 = .ok (.aload_n 0, 1) := by decide +kernel
theorem dX8_anew_115 : decode cX8_anew 115 = .ok (.getfield 19, 3) := by decide +kernel
theorem dX8_anew_118 : decode cX8_anew 118 = .ok (.iload_n 3, 1) := by decide +kernel
theorem dX8_anew_119 : decode cX8_anew 119 = .ok (.aload_n 0, 1) := by decide +kernel
theorem dX8_anew_120 : decode cX8_anew 120 = .ok (.getfield 29, 3) := by decide +kernel
theorem dX8_anew_123 : decode cX8_anew 123 = .ok (.iload_n 3, 1) := by decide +kernel
theorem dX8_anew_124 : decode cX8_anew 124 = .ok (.iaload, 1) := by decide +kernel
theorem dX8_anew_125 : decode cX8_anew 125 = .ok (.iastore, 1) := by decide +kernel
theorem dX8_anew_126 : decode cX8_anew 126 = .ok (.aload_n 0, 1) := by decide +kernel
theorem dX8_anew_127 : decode cX8_anew 127 = .ok (.getfield 23, 3) := by decide +kernel
theorem dX8_anew_130 : decode cX8_anew 130 = .ok (.iload_n 3, 1) := by decide +kernel
theorem dX8_anew_131 : decode cX8_anew 131 = .ok (.aload_n 0, 1) := by decide +kernel
theorem dX8_anew_132 : decode cX8_anew 132 = .ok (.getfield 32, 3) := by decide +kernel
theorem dX8_anew_135 : decode cX8_anew 135 = .ok (.iload_n 3, 1) := by decide +kernel
theorem dX8_anew_136 : decode cX8_anew 136 = .ok (.iaload, 1) := by decide +kernel
theorem dX8_anew_137 : decode cX8_anew 137 = .ok (.iastore, 1) := by decide +kernel
theorem dX8_anew_138 : decode cX8_anew 138 = .ok (.iload_n 2, 1) := by decide +kernel
theorem dX8_anew_139 : decode cX8_anew 139 = .ok (.aload_n 0, 1) := by decide +kernel
theorem dX8_anew_140 : decode cX8_anew 140 = .ok (.getfield 19, 3) := by decide +kernel
theorem dX8_anew_143 : decode cX8_anew 143 = .ok (.iload_n 3, 1) := by decide +kernel
theorem dX8_anew_144 : decode cX8_anew 144 = .ok (.iaload, 1) := by decide +kernel
theorem dX8_anew_145 : decode cX8_anew 145 = .ok (.ifCond .le 22, 3) := by decide +kernel
theorem dX8_anew_148 : decode cX8_anew 148 = .ok (.aload_n 0, 1) := by decide +kernel
theorem dX8_anew_149 : decode cX8_anew 149 = .ok (.getfield 23, 3) := by decide +kernel
theorem dX8_anew_152 : decode cX8_anew 152 = .ok (.iload_n 3, 1) := by decide +kernel
theorem dX8_anew_153 : decode cX8_anew 153 = .ok (.iaload, 1) := by decide +kernel
theorem dX8_anew_154 : decode cX8_anew 154 = .ok (.aload_n 0, 1) := by decide +kernel
theorem dX8_anew_155 : decode cX8_anew 155 = .ok (.getfield 32, 3) := by decide +kernel
theorem dX8_anew_158 : decode cX8_anew 158 = .ok (.iload_n 3, 1) := by decide +kernel
theorem dX8_anew_159 : decode cX8_anew 159 = .ok (.iaload, 1) := by decide +kernel
theorem dX8_anew_160 : decode cX8_anew 160 = .ok (.if_icmp .eq 7, 3) := by decide +kernel
theorem dX8_anew_163 : decode cX8_anew 163 = .ok (.iconst 1, 1) := by decide +kernel
theorem dX8_anew_164 : decode cX8_anew 164 = .ok (.goto 4, 3) := by decide +kernel
theorem dX8_anew_167 : decode cX8_anew 167 = .ok (.iconst 0, 1) := by decide +kernel
theorem dX8_anew_168 : decode cX8_anew 168 = .ok (.iadd, 1) := by decide +kernel
theorem dX8_anew_169 : decode cX8_anew 169 = .ok (.istore_n 2, 1) := by decide +kernel
theorem dX8_anew_170 : decode cX8_anew 170 = .ok (.iinc 3 1, 3) := by decide +kernel
theorem dX8_anew_173 : decode cX8_anew 173 = .ok (.goto (-69), 3) := by decide +kernel
theorem dX8_anew_176 : decode cX8_anew 176 = .ok (.iload_n 1, 1) := by decide +kernel
theorem dX8_anew_177 : decode cX8_anew 177 = .ok (.ifCond .eq 7, 3) := by decide +kernel
theorem dX8_anew_180 : decode cX8_anew 180 = .ok (.iload_n 2, 1) := by decide +kernel
theorem dX8_anew_181 : decode cX8_anew 181 = .ok (.goto 5, 3) := by decide +kernel
theorem dX8_anew_184 : decode cX8_anew 184 = .ok (.bipush (-3), 2) := by decide +kernel
theorem dX8_anew_186 : decode cX8_anew 186 = .ok (.ireturn, 1) := by decide +kernel
theorem dX8_callOf_0 : decode cX8_callOf 0 = .ok (.aload_n 0, 1) := by decide +kernel
theorem dX8_callOf_1 : decode cX8_callOf 1 = .ok (.iload_n 1, 1) := by decide +kernel
theorem dX8_callOf_2 : decode cX8_callOf 2 = .ok (.invokevirtual 123, 3) := by decide +kernel
theorem dX8_callOf_5 : decode cX8_callOf 5 = .ok (.ifCond .ne 5, 3) := by decide +kernel
theorem dX8_callOf_8 : decode cX8_callOf 8 = .ok (.iconst (-1), 1) := by decide +kernel
theorem dX8_callOf_9 : decode cX8_callOf 9 = .ok (.ireturn, 1) := by decide +kernel
theorem dX8_callOf_10 : decode cX8_callOf 10 = .ok (.iload_n 2, 1) := by decide +kernel
theorem dX8_callOf_11 : decode cX8_callOf 11 = .ok (.iconst 0, 1) := by decide +kernel
theorem dX8_callOf_12 : decode cX8_callOf 12 = .ok (.iconst 1, 1) := by decide +kernel
theorem dX8_callOf_13 : decode cX8_callOf 13 = .ok (.invokestatic 116, 3) := by decide +kernel
theorem dX8_callOf_16 : decode cX8_callOf 16 = .ok (.ifCond .ne 6, 3) := by decide +kernel
theorem dX8_callOf_19 : decode cX8_callOf 19 = .ok (.bipush (-2), 2) := by decide +kernel
theorem dX8_callOf_21 : decode cX8_callOf 21 = .ok (.ireturn, 1) := by decide +kernel
theorem dX8_callOf_22 : decode cX8_callOf 22 = .ok (.aload_n 0, 1) := by decide +kernel
theorem dX8_callOf_23 : decode cX8_callOf 23 = .ok (.getfield 19, 3) := by decide +kernel
theorem dX8_callOf_26 : decode cX8_callOf 26 = .ok (.iload_n 1, 1) := by decide +kernel
theorem dX8_callOf_27 : decode cX8_callOf 27 = .ok (.iaload, 1) := by decide +kernel
theorem dX8_callOf_28 : decode cX8_callOf 28 = .ok (.ifCond .ne 8, 3) := by decide +kernel
theorem dX8_callOf_31 : decode cX8_callOf 31 = .ok (.bipush (-9), 2) := by decide +kernel
theorem dX8_callOf_33 : decode cX8_callOf 33 = .ok (.goto 24, 3) := by decide +kernel
theorem dX8_callOf_36 : decode cX8_callOf 36 = .ok (.iload_n 2, 1) := by decide +kernel
theorem dX8_callOf_37 : decode cX8_callOf 37 = .ok (.ifCond .ne 14, 3) := by decide +kernel
theorem dX8_callOf_40 : decode cX8_callOf 40 = .ok (.aload_n 0, 1) := by decide +kernel
theorem dX8_callOf_41 : decode cX8_callOf 41 = .ok (.getfield 19, 3) := by decide +kernel
theorem dX8_callOf_44 : decode cX8_callOf 44 = .ok (.iload_n 1, 1) := by decide +kernel
theorem dX8_callOf_45 : decode cX8_callOf 45 = .ok (.iaload, 1) := by decide +kernel
theorem dX8_callOf_46 : decode cX8_callOf 46 = .ok (.iconst 1, 1) := by decide +kernel
theorem dX8_callOf_47 : decode cX8_callOf 47 = .ok (.isub, 1) := by decide +kernel
theorem dX8_callOf_48 : decode cX8_callOf 48 = .ok (.goto 9, 3) := by decide +kernel
theorem dX8_callOf_51 : decode cX8_callOf 51 = .ok (.aload_n 0, 1) := by decide +kernel
theorem dX8_callOf_52 : decode cX8_callOf 52 = .ok (.getfield 23, 3) := by decide +kernel
theorem dX8_callOf_55 : decode cX8_callOf 55 = .ok (.iload_n 1, 1) := by decide +kernel
theorem dX8_callOf_56 : decode cX8_callOf 56 = .ok (.iaload, 1) := by decide +kernel
theorem dX8_callOf_57 : decode cX8_callOf 57 = .ok (.ireturn, 1) := by decide +kernel
theorem dX8_links_0 : decode cX8_links 0 = .ok (.iload_n 1, 1) := by decide +kernel
theorem dX8_links_1 : decode cX8_links 1 = .ok (.iconst 0, 1) := by decide +kernel
theorem dX8_links_2 : decode cX8_links 2 = .ok (.aload_n 0, 1) := by decide +kernel
theorem dX8_links_3 : decode cX8_links 3 = .ok (.getfield 16, 3) := by decide +kernel
theorem dX8_links_6 : decode cX8_links 6 = .ok (.iconst 1, 1) := by decide +kernel
theorem dX8_links_7 : decode cX8_links 7 = .ok (.isub, 1) := by decide +kernel
theorem dX8_links_8 : decode cX8_links 8 = .ok (.invokestatic 116, 3) := by decide +kernel
theorem dX8_links_11 : decode cX8_links 11 = .ok (.ifCond .ne 5, 3) := by decide +kernel
theorem dX8_links_14 : decode cX8_links 14 = .ok (.iconst (-1), 1) := by decide +kernel
theorem dX8_links_15 : decode cX8_links 15 = .ok (.ireturn, 1) := by decide +kernel
theorem dX8_links_16 : decode cX8_links 16 = .ok (.iload_n 2, 1) := by decide +kernel
theorem dX8_links_17 : decode cX8_links 17 = .ok (.iconst 0, 1) := by decide +kernel
theorem dX8_links_18 : decode cX8_links 18 = .ok (.iconst 1, 1) := by decide +kernel
theorem dX8_links_19 : decode cX8_links 19 = .ok (.invokestatic 116, 3) := by decide +kernel
end
section
theorem dX8_links_22 : decode cX8_links 22 = .ok (.ifCond .ne 6, 3) := by decide +kernel
theorem dX8_links_25 : decode cX8_links 25 = .ok (.bipush (-2), 2) := by decide +kernel
theorem dX8_links_27 : decode cX8_links 27 = .ok (.ireturn, 1) := by decide +kernel
theorem dX8_links_28 : decode cX8_links 28 = .ok (.iconst 0, 1) := by decide +kernel
theorem dX8_links_29 : decode cX8_links 29 = .ok (.istore_n 3, 1) := by decide +kernel
theorem dX8_links_30 : decode cX8_links 30 = .ok (.iconst 0, 1) := by decide +kernel
theorem dX8_links_31 : decode cX8_links 31 = .ok (.istore 4, 2) := by decide +kernel
theorem dX8_links_33 : decode cX8_links 33 = .ok (.iload 4, 2) := by decide +kernel
theorem dX8_links_35 : decode cX8_links 35 = .ok (.aload_n 0, 1) := by decide +kernel
theorem dX8_links_36 : decode cX8_links 36 = .ok (.getfield 7, 3) := by decide +kernel
theorem dX8_links_39 : decode cX8_links 39 = .ok (.if_icmp .ge 46, 3) := by decide +kernel
theorem dX8_links_42 : decode cX8_links 42 = .ok (.iload_n 3, 1) := by decide +kernel
theorem dX8_links_43 : decode cX8_links 43 = .ok (.iload_n 2, 1) := by decide +kernel
theorem dX8_links_44 : decode cX8_links 44 = .ok (.ifCond .ne 13, 3) := by decide +kernel
theorem dX8_links_47 : decode cX8_links 47 = .ok (.aload_n 0, 1) := by decide +kernel
theorem dX8_links_48 : decode cX8_links 48 = .ok (.iload 4, 2) := by decide +kernel
theorem dX8_links_50 : decode cX8_links 50 = .ok (.iload_n 1, 1) := by decide +kernel
theorem dX8_links_51 : decode cX8_links 51 = .ok (.invokevirtual 131, 3) := by decide +kernel
theorem dX8_links_54 : decode cX8_links 54 = .ok (.goto 10, 3) := by decide +kernel
theorem dX8_links_57 : decode cX8_links 57 = .ok (.aload_n 0, 1) := by decide +kernel
theorem dX8_links_58 : decode cX8_links 58 = .ok (.iload 4, 2) := by decide +kernel
theorem dX8_links_60 : decode cX8_links 60 = .ok (.iload_n 1, 1) := by decide +kernel
theorem dX8_links_61 : decode cX8_links 61 = .ok (.invokevirtual 135, 3) := by decide +kernel
theorem dX8_links_64 : decode cX8_links 64 = .ok (.bipush (-9), 2) := by decide +kernel
theorem dX8_links_66 : decode cX8_links 66 = .ok (.if_icmp .ne 7, 3) := by decide +kernel
theorem dX8_links_69 : decode cX8_links 69 = .ok (.iconst 0, 1) := by decide +kernel
theorem dX8_links_70 : decode cX8_links 70 = .ok (.goto 7, 3) := by decide +kernel
theorem dX8_links_73 : decode cX8_links 73 = .ok (.iconst 1, 1) := by decide +kernel
theorem dX8_links_74 : decode cX8_links 74 = .ok (.iload 4, 2) := by decide +kernel
theorem dX8_links_76 : decode cX8_links 76 = .ok (.ishl, 1) := by decide +kernel
theorem dX8_links_77 : decode cX8_links 77 = .ok (.ior, 1) := by decide +kernel
theorem dX8_links_78 : decode cX8_links 78 = .ok (.istore_n 3, 1) := by decide +kernel
theorem dX8_links_79 : decode cX8_links 79 = .ok (.iinc 4 1, 3) := by decide +kernel
theorem dX8_links_82 : decode cX8_links 82 = .ok (.goto (-49), 3) := by decide +kernel
theorem dX8_links_85 : decode cX8_links 85 = .ok (.iload_n 3, 1) := by decide +kernel
theorem dX8_links_86 : decode cX8_links 86 = .ok (.ireturn, 1) := by decide +kernel
theorem dX8_wide_0 : decode cX8_wide 0 = .ok (.iconst 1, 1) := by decide +kernel
theorem dX8_wide_1 : decode cX8_wide 1 = .ok (.aload_n 0, 1) := by decide +kernel
theorem dX8_wide_2 : decode cX8_wide 2 = .ok (.getfield 35, 3) := by decide +kernel
theorem dX8_wide_5 : decode cX8_wide 5 = .ok (.ishl, 1) := by decide +kernel
theorem dX8_wide_6 : decode cX8_wide 6 = .ok (.ireturn, 1) := by decide +kernel
theorem dX8_halve_0 : decode cX8_halve 0 = .ok (.iload_n 3, 1) := by decide +kernel
theorem dX8_halve_1 : decode cX8_halve 1 = .ok (.iconst 2, 1) := by decide +kernel
theorem dX8_halve_2 : decode cX8_halve 2 = .ok (.idiv, 1) := by decide +kernel
theorem dX8_halve_3 : decode cX8_halve 3 = .ok (.istore 7, 2) := by decide +kernel
theorem dX8_halve_5 : decode cX8_halve 5 = .ok (.iconst 0, 1) := by decide +kernel
theorem dX8_halve_6 : decode cX8_halve 6 = .ok (.istore 8, 2) := by decide +kernel
theorem dX8_halve_8 : decode cX8_halve 8 = .ok (.aload_n 0, 1) := by decide +kernel
theorem dX8_halve_9 : decode cX8_halve 9 = .ok (.iconst 0, 1) := by decide +kernel
theorem dX8_halve_10 : decode cX8_halve 10 = .ok (.putfield 157, 3) := by decide +kernel
theorem dX8_halve_13 : decode cX8_halve 13 = .ok (.iconst 0, 1) := by decide +kernel
theorem dX8_halve_14 : decode cX8_halve 14 = .ok (.istore 9, 2) := by decide +kernel
theorem dX8_halve_16 : decode cX8_halve 16 = .ok (.iload 9, 2) := by decide +kernel
theorem dX8_halve_18 : decode cX8_halve 18 = .ok (.iload_n 3, 1) := by decide +kernel
theorem dX8_halve_19 : decode cX8_halve 19 = .ok (.if_icmp .ge 111, 3) := by decide +kernel
theorem dX8_halve_22 : decode cX8_halve 22 = .ok (.iload 4, 2) := by decide +kernel
theorem dX8_halve_24 : decode cX8_halve 24 = .ok (.iload 9, 2) := by decide +kernel
theorem dX8_halve_26 : decode cX8_halve 26 = .ok (.iconst 2, 1) := by decide +kernel
theorem dX8_halve_27 : decode cX8_halve 27 = .ok (.idiv, 1) := by decide +kernel
theorem dX8_halve_28 : decode cX8_halve 28 = .ok (.ishr, 1) := by decide +kernel
theorem dX8_halve_29 : decode cX8_halve 29 = .ok (.iconst 1, 1) := by decide +kernel
theorem dX8_halve_30 : decode cX8_halve 30 = .ok (.iand, 1) := by decide +kernel
theorem dX8_halve_31 : decode cX8_halve 31 = .ok (.iload 9, 2) := by decide +kernel
theorem dX8_halve_33 : decode cX8_halve 33 = .ok (.iconst 1, 1) := by decide +kernel
theorem dX8_halve_34 : decode cX8_halve 34 = .ok (.iand, 1) := by decide +kernel
theorem dX8_halve_35 : decode cX8_halve 35 = .ok (.ixor, 1) := by decide +kernel
theorem dX8_halve_36 : decode cX8_halve 36 = .ok (.istore 10, 2) := by decide +kernel
theorem dX8_halve_38 : decode cX8_halve 38 = .ok (.aload_n 1, 1) := by decide +kernel
theorem dX8_halve_39 : decode cX8_halve 39 = .ok (.iload_n 2, 1) := by decide +kernel
theorem dX8_halve_40 : decode cX8_halve 40 = .ok (.iload 9, 2) := by decide +kernel
theorem dX8_halve_42 : decode cX8_halve 42 = .ok (.iadd, 1) := by decide +kernel
theorem dX8_halve_43 : decode cX8_halve 43 = .ok (.iaload, 1) := by decide +kernel
theorem dX8_halve_44 : decode cX8_halve 44 = .ok (.istore 11, 2) := by decide +kernel
theorem dX8_halve_46 : decode cX8_halve 46 = .ok (.iconst 1, 1) := by decide +kernel
theorem dX8_halve_47 : decode cX8_halve 47 = .ok (.iconst 2, 1) := by decide +kernel
theorem dX8_halve_48 : decode cX8_halve 48 = .ok (.iload 11, 2) := by decide +kernel
theorem dX8_halve_50 : decode cX8_halve 50 = .ok (.iconst 2, 1) := by decide +kernel
theorem dX8_halve_51 : decode cX8_halve 51 = .ok (.idiv, 1) := by decide +kernel
theorem dX8_halve_52 : decode cX8_halve 52 = .ok (.imul, 1) := by decide +kernel
theorem dX8_halve_53 : decode cX8_halve 53 = .ok (.iload 10, 2) := by decide +kernel
theorem dX8_halve_55 : decode cX8_halve 55 = .ok (.iadd, 1) := by decide +kernel
theorem dX8_halve_56 : decode cX8_halve 56 = .ok (.ishl, 1) := by decide +kernel
theorem dX8_halve_57 : decode cX8_halve 57 = .ok (.istore 12, 2) := by decide +kernel
theorem dX8_halve_59 : decode cX8_halve 59 = .ok (.iload 8, 2) := by decide +kernel
theorem dX8_halve_61 : decode cX8_halve 61 = .ok (.iload 12, 2) := by decide +kernel
theorem dX8_halve_63 : decode cX8_halve 63 = .ok (.iand, 1) := by decide +kernel
theorem dX8_halve_64 : decode cX8_halve 64 = .ok (.ifCond .eq 5, 3) := by decide +kernel
theorem dX8_halve_67 : decode cX8_halve 67 = .ok (.iconst 0, 1) := by decide +kernel
theorem dX8_halve_68 : decode cX8_halve 68 = .ok (.ireturn, 1) := by decide +kernel
theorem dX8_halve_69 : decode cX8_halve 69 = .ok (.iload 8, 2) := by decide +kernel
theorem dX8_halve_71 : decode cX8_halve 71 = .ok (.iload 12, 2) := by decide +kernel
theorem dX8_halve_73 : decode cX8_halve 73 = .ok (.ior, 1) := by decide +kernel
theorem dX8_halve_74 : decode cX8_halve 74 = .ok (.istore 8, 2) := by decide +kernel
theorem dX8_halve_76 : decode cX8_halve 76 = .ok (.aload 5, 2) := by decide +kernel
theorem dX8_halve_78 : decode cX8_halve 78 = .ok (.iload 6, 2) := by decide +kernel
theorem dX8_halve_80 : decode cX8_halve 80 = .ok (.iload 7, 2) := by decide +kernel
theorem dX8_halve_82 : decode cX8_halve 82 = .ok (.iload 10, 2) := by decide +kernel
theorem dX8_halve_84 : decode cX8_halve 84 = .ok (.imul, 1) := by decide +kernel
theorem dX8_halve_85 : decode cX8_halve 85 = .ok (.iadd, 1) := by decide +kernel
theorem dX8_halve_86 : decode cX8_halve 86 = .ok (.iload 9, 2) := by decide +kernel
theorem dX8_halve_88 : decode cX8_halve 88 = .ok (.iconst 2, 1) := by decide +kernel
theorem dX8_halve_89 : decode cX8_halve 89 = .ok (.idiv, 1) := by decide +kernel
theorem dX8_halve_90 : decode cX8_halve 90 = .ok (.iadd, 1) := by decide +kernel
theorem dX8_halve_91 : decode cX8_halve 91 = .ok (.iload 11, 2) := by decide +kernel
theorem dX8_halve_93 : decode cX8_halve 93 = .ok (.iconst 2, 1) := by decide +kernel
theorem dX8_halve_94 : decode cX8_halve 94 = .ok (.idiv, 1) := by decide +kernel
theorem dX8_halve_95 : decode cX8_halve 95 = .ok (.iastore, 1) := by decide +kernel
theorem dX8_halve_96 : decode cX8_halve 96 = .ok (.aload_n 0, 1) := by decide +kernel
theorem dX8_halve_97 : decode cX8_halve 97 = .ok (.dup, 1) := by decide +kernel
theorem dX8_halve_98 : decode cX8_halve 98 = .ok (.getfield 157, 3) := by decide +kernel
theorem dX8_halve_101 : decode cX8_halve 101 = .ok (.iload 11, 2) := by decide +kernel
theorem dX8_halve_103 : decode cX8_halve 103 = .ok (.iconst 1, 1) := by decide +kernel
theorem dX8_halve_104 : decode cX8_halve 104 = .ok (.iand, 1) := by decide +kernel
theorem dX8_halve_105 : decode cX8_halve 105 = .ok (.iload 10, 2) := by decide +kernel
theorem dX8_halve_107 : decode cX8_halve 107 = .ok (.if_icmp .eq 12, 3) := by decide +kernel
theorem dX8_halve_110 : decode cX8_halve 110 = .ok (.iconst 1, 1) := by decide +kernel
theorem dX8_halve_111 : decode cX8_halve 111 = .ok (.iload 11, 2) := by decide +kernel
theorem dX8_halve_113 : decode cX8_halve 113 = .ok (.iconst 2, 1) := by decide +kernel
theorem dX8_halve_114 : decode cX8_halve 114 = .ok (.idiv, 1) := by decide +kernel
theorem dX8_halve_115 : decode cX8_halve 115 = .ok (.ishl, 1) := by decide +kernel
theorem dX8_halve_116 : decode cX8_halve 116 = .ok (.goto 4, 3) := by decide +kernel
theorem dX8_halve_119 : decode cX8_halve 119 = .ok (.iconst 0, 1) := by decide +kernel
theorem dX8_halve_120 : decode cX8_halve 120 = .ok (.ior, 1) := by decide +kernel
theorem dX8_halve_121 : decode cX8_halve 121 = .ok (.putfield 157, 3) := by decide +kernel
theorem dX8_halve_124 : decode cX8_halve 124 = .ok (.iinc 9 1, 3) := by decide +kernel
theorem dX8_halve_127 : decode cX8_halve 127 = .ok (.goto (-111), 3) := by decide +kernel
theorem dX8_halve_130 : decode cX8_halve 130 = .ok (.iconst 1, 1) := by decide +kernel
theorem dX8_halve_131 : decode cX8_halve 131 = .ok (.ireturn, 1) := by decide +kernel
theorem dX8_firstOfTwo_0 : decode cX8_firstOfTwo 0 = .ok (.aload_n 0, 1) := by decide +kernel
theorem dX8_firstOfTwo_1 : decode cX8_firstOfTwo 1 = .ok (.iload_n 1, 1) := by decide +kernel
theorem dX8_firstOfTwo_2 : decode cX8_firstOfTwo 2 = .ok (.iaload, 1) := by decide +kernel
theorem dX8_firstOfTwo_3 : decode cX8_firstOfTwo 3 = .ok (.ifCond .ne 7, 3) := by decide +kernel
theorem dX8_firstOfTwo_6 : decode cX8_firstOfTwo 6 = .ok (.lconst 0, 1) := by decide +kernel
theorem dX8_firstOfTwo_7 : decode cX8_firstOfTwo 7 = .ok (.goto 4, 3) := by decide +kernel
theorem dX8_firstOfTwo_10 : decode cX8_firstOfTwo 10 = .ok (.lconst 1, 1) := by decide +kernel
theorem dX8_firstOfTwo_11 : decode cX8_firstOfTwo 11 = .ok (.lreturn, 1) := by decide +kernel
theorem dX8_findFour_0 : decode cX8_findFour 0 = .ok (.aload_n 0, 1) := by decide +kernel
theorem dX8_findFour_1 : decode cX8_findFour 1 = .ok (.lconst 0, 1) := by decide +kernel
theorem dX8_findFour_2 : decode cX8_findFour 2 = .ok (.putfield 160, 3) := by decide +kernel
theorem dX8_findFour_5 : decode cX8_findFour 5 = .ok (.aload_n 0, 1) := by decide +kernel
theorem dX8_findFour_6 : decode cX8_findFour 6 = .ok (.ldc2_w 164, 3) := by decide +kernel
theorem dX8_findFour_9 : decode cX8_findFour 9 = .ok (.putfield 166, 3) := by decide +kernel
theorem dX8_findFour_12 : decode cX8_findFour 12 = .ok (.iconst 0, 1) := by decide +kernel
theorem dX8_findFour_13 : decode cX8_findFour 13 = .ok (.istore_n 3, 1) := by decide +kernel
theorem dX8_findFour_14 : decode cX8_findFour 14 = .ok (.iload_n 3, 1) := by decide +kernel
theorem dX8_findFour_15 : decode cX8_findFour 15 = .ok (.iconst 4, 1) := by decide +kernel
theorem dX8_findFour_16 : decode cX8_findFour 16 = .ok (.if_icmp .ge 104, 3) := by decide +kernel
theorem dX8_findFour_19 : decode cX8_findFour 19 = .ok (.aload_n 0, 1) := by decide +kernel
theorem dX8_findFour_20 : decode cX8_findFour 20 = .ok (.aload_n 1, 1) := by decide +kernel
theorem dX8_findFour_21 : decode cX8_findFour 21 = .ok (.iload_n 2, 1) := by decide +kernel
theorem dX8_findFour_22 : decode cX8_findFour 22 = .ok (.iconst 4, 1) := by decide +kernel
theorem dX8_findFour_23 : decode cX8_findFour 23 = .ok (.iload_n 3, 1) := by decide +kernel
theorem dX8_findFour_24 : decode cX8_findFour 24 = .ok (.aload_n 0, 1) := by decide +kernel
theorem dX8_findFour_25 : decode cX8_findFour 25 = .ok (.getfield 47, 3) := by decide +kernel
theorem dX8_findFour_28 : decode cX8_findFour 28 = .ok (.iconst 0, 1) := by decide +kernel
theorem dX8_findFour_29 : decode cX8_findFour 29 = .ok (.invokevirtual 169, 3) := by decide +kernel
theorem dX8_findFour_32 : decode cX8_findFour 32 = .ok (.ifCond .ne 6, 3) := by decide +kernel
theorem dX8_findFour_35 : decode cX8_findFour 35 = .ok (.goto 79, 3) := by decide +kernel
theorem dX8_findFour_38 : decode cX8_findFour 38 = .ok (.iload_n 3, 1) := by decide +kernel
theorem dX8_findFour_39 : decode cX8_findFour 39 = .ok (.i2l, 1) := by decide +kernel
theorem dX8_findFour_40 : decode cX8_findFour 40 = .ok (.aload_n 0, 1) := by decide +kernel
theorem dX8_findFour_41 : decode cX8_findFour 41 = .ok (.getfield 157, 3) := by decide +kernel
theorem dX8_findFour_44 : decode cX8_findFour 44 = .ok (.i2l, 1) := by decide +kernel
theorem dX8_findFour_45 : decode cX8_findFour 45 = .ok (.iconst 2, 1) := by decide +kernel
theorem dX8_findFour_46 : decode cX8_findFour 46 = .ok (.lshl, 1) := by decide +kernel
theorem dX8_findFour_47 : decode cX8_findFour 47 = .ok (.lor, 1) := by decide +kernel
theorem dX8_findFour_48 : decode cX8_findFour 48 = .ok (.aload_n 0, 1) := by decide +kernel
theorem dX8_findFour_49 : decode cX8_findFour 49 = .ok (.getfield 47, 3) := by decide +kernel
theorem dX8_findFour_52 : decode cX8_findFour 52 = .ok (.iconst 0, 1) := by decide +kernel
theorem dX8_findFour_53 : decode cX8_findFour 53 = .ok (.invokestatic 173, 3) := by decide +kernel
theorem dX8_findFour_56 : decode cX8_findFour 56 = .ok (.iconst 4, 1) := by decide +kernel
theorem dX8_findFour_57 : decode cX8_findFour 57 = .ok (.lshl, 1) := by decide +kernel
theorem dX8_findFour_58 : decode cX8_findFour 58 = .ok (.lor, 1) := by decide +kernel
theorem dX8_findFour_59 : decode cX8_findFour 59 = .ok (.aload_n 0, 1) := by decide +kernel
theorem dX8_findFour_60 : decode cX8_findFour 60 = .ok (.getfield 47, 3) := by decide +kernel
theorem dX8_findFour_63 : decode cX8_findFour 63 = .ok (.iconst 2, 1) := by decide +kernel
theorem dX8_findFour_64 : decode cX8_findFour 64 = .ok (.invokestatic 173, 3) := by decide +kernel
theorem dX8_findFour_67 : decode cX8_findFour 67 = .ok (.iconst 5, 1) := by decide +kernel
theorem dX8_findFour_68 : decode cX8_findFour 68 = .ok (.lshl, 1) := by decide +kernel
theorem dX8_findFour_69 : decode cX8_findFour 69 = .ok (.lor, 1) := by decide +kernel
theorem dX8_findFour_70 : decode cX8_findFour 70 = .ok (.lstore 4, 2) := by decide +kernel
theorem dX8_findFour_72 : decode cX8_findFour 72 = .ok (.aload_n 0, 1) := by decide +kernel
theorem dX8_findFour_73 : decode cX8_findFour 73 = .ok (.dup, 1) := by decide +kernel
theorem dX8_findFour_74 : decode cX8_findFour 74 = .ok (.getfield 160, 3) := by decide +kernel
theorem dX8_findFour_77 : decode cX8_findFour 77 = .ok (.lconst 1, 1) := by decide +kernel
theorem dX8_findFour_78 : decode cX8_findFour 78 = .ok (.ladd, 1) := by decide +kernel
theorem dX8_findFour_79 : decode cX8_findFour 79 = .ok (.putfield 160, 3) := by decide +kernel
theorem dX8_findFour_82 : decode cX8_findFour 82 = .ok (.aload_n 0, 1) := by decide +kernel
theorem dX8_findFour_83 : decode cX8_findFour 83 = .ok (.aload_n 0, 1) := by decide +kernel
theorem dX8_findFour_84 : decode cX8_findFour 84 = .ok (.getfield 166, 3) := by decide +kernel
theorem dX8_findFour_87 : decode cX8_findFour 87 = .ok (.lconst 0, 1) := by decide +kernel
theorem dX8_findFour_88 : decode cX8_findFour 88 = .ok (.lcmp, 1) := by decide +kernel
theorem dX8_findFour_89 : decode cX8_findFour 89 = .ok (.ifCond .lt 13, 3) := by decide +kernel
theorem dX8_findFour_92 : decode cX8_findFour 92 = .ok (.lload 4, 2) := by decide +kernel
theorem dX8_findFour_94 : decode cX8_findFour 94 = .ok (.aload_n 0, 1) := by decide +kernel
theorem dX8_findFour_95 : decode cX8_findFour 95 = .ok (.getfield 166, 3) := by decide +kernel
theorem dX8_findFour_98 : decode cX8_findFour 98 = .ok (.lcmp, 1) := by decide +kernel
theorem dX8_findFour_99 : decode cX8_findFour 99 = .ok (.ifCond .ge 8, 3) := by decide +kernel
theorem dX8_findFour_102 : decode cX8_findFour 102 = .ok (.lload 4, 2) := by decide +kernel
theorem dX8_findFour_104 : decode cX8_findFour 104 = .ok (.goto 7, 3) := by decide +kernel
theorem dX8_findFour_107 : decode cX8_findFour 107 = .ok (.aload_n 0, 1) := by decide +kernel
theorem dX8_findFour_108 : decode cX8_findFour 108 = .ok (.getfield 166, 3) := by decide +kernel
theorem dX8_findFour_111 : decode cX8_findFour 111 = .ok (.putfield 166, 3) := by decide +kernel
theorem dX8_findFour_114 : decode cX8_findFour 114 = .ok (.iinc 3 1, 3) := by decide +kernel
theorem dX8_findFour_117 : decode cX8_findFour 117 = .ok (.goto (-103), 3) := by decide +kernel
theorem dX8_findFour_120 : decode cX8_findFour 120 = .ok (.return_, 1) := by decide +kernel
theorem dX8_findEight_0 : decode cX8_findEight 0 = .ok (.lconst 0, 1) := by decide +kernel
theorem dX8_findEight_1 : decode cX8_findEight 1 = .ok (.lstore_n 1, 1) := by decide +kernel
theorem dX8_findEight_2 : decode cX8_findEight 2 = .ok (.ldc2_w 164, 3) := by decide +kernel
theorem dX8_findEight_5 : decode cX8_findEight 5 = .ok (.lstore_n 3, 1) := by decide +kernel
theorem dX8_findEight_6 : decode cX8_findEight 6 = .ok (.iconst 0, 1) := by decide +kernel
theorem dX8_findEight_7 : decode cX8_findEight 7 = .ok (.istore 5, 2) := by decide +kernel
theorem dX8_findEight_9 : decode cX8_findEight 9 = .ok (.iload 5, 2) := by decide +kernel
theorem dX8_findEight_11 : decode cX8_findEight 11 = .ok (.bipush 16, 2) := by decide +kernel
theorem dX8_findEight_13 : decode cX8_findEight 13 = .ok (.if_icmp .ge 124, 3) := by decide +kernel
theorem dX8_findEight_16 : decode cX8_findEight 16 = .ok (.aload_n 0, 1) := by decide +kernel
theorem dX8_findEight_17 : decode cX8_findEight 17 = .ok (.aload_n 0, 1) := by decide +kernel
theorem dX8_findEight_18 : decode cX8_findEight 18 = .ok (.getfield 38, 3) := by decide +kernel
theorem dX8_findEight_21 : decode cX8_findEight 21 = .ok (.iconst 0, 1) := by decide +kernel
theorem dX8_findEight_22 : decode cX8_findEight 22 = .ok (.bipush 8, 2) := by decide +kernel
theorem dX8_findEight_24 : decode cX8_findEight 24 = .ok (.iload 5, 2) := by decide +kernel
theorem dX8_findEight_26 : decode cX8_findEight 26 = .ok (.aload_n 0, 1) := by decide +kernel
theorem dX8_findEight_27 : decode cX8_findEight 27 = .ok (.getfield 44, 3) := by decide +kernel
theorem dX8_findEight_30 : decode cX8_findEight 30 = .ok (.iconst 0, 1) := by decide +kernel
theorem dX8_findEight_31 : decode cX8_findEight 31 = .ok (.invokevirtual 169, 3) := by decide +kernel
theorem dX8_findEight_34 : decode cX8_findEight 34 = .ok (.ifCond .ne 6, 3) := by decide +kernel
theorem dX8_findEight_37 : decode cX8_findEight 37 = .ok (.goto 94, 3) := by decide +kernel
theorem dX8_findEight_40 : decode cX8_findEight 40 = .ok (.iload 5, 2) := by decide +kernel
theorem dX8_findEight_42 : decode cX8_findEight 42 = .ok (.i2l, 1) := by decide +kernel
theorem dX8_findEight_43 : decode cX8_findEight 43 = .ok (.aload_n 0, 1) := by decide +kernel
theorem dX8_findEight_44 : decode cX8_findEight 44 = .ok (.getfield 157, 3) := by decide +kernel
theorem dX8_findEight_47 : decode cX8_findEight 47 = .ok (.i2l, 1) := by decide +kernel
theorem dX8_findEight_48 : decode cX8_findEight 48 = .ok (.iconst 4, 1) := by decide +kernel
theorem dX8_findEight_49 : decode cX8_findEight 49 = .ok (.lshl, 1) := by decide +kernel
theorem dX8_findEight_50 : decode cX8_findEight 50 = .ok (.lor, 1) := by decide +kernel
theorem dX8_findEight_51 : decode cX8_findEight 51 = .ok (.lstore 6, 2) := by decide +kernel
theorem dX8_findEight_53 : decode cX8_findEight 53 = .ok (.aload_n 0, 1) := by decide +kernel
theorem dX8_findEight_54 : decode cX8_findEight 54 = .ok (.aload_n 0, 1) := by decide +kernel
theorem dX8_findEight_55 : decode cX8_findEight 55 = .ok (.getfield 44, 3) := by decide +kernel
theorem dX8_findEight_58 : decode cX8_findEight 58 = .ok (.iconst 0, 1) := by decide +kernel
theorem dX8_findEight_59 : decode cX8_findEight 59 = .ok (.invokevirtual 177, 3) := by decide +kernel
theorem dX8_findEight_62 : decode cX8_findEight 62 = .ok (.aload_n 0, 1) := by decide +kernel
theorem dX8_findEight_63 : decode cX8_findEight 63 = .ok (.getfield 160, 3) := by decide +kernel
theorem dX8_findEight_66 : decode cX8_findEight 66 = .ok (.lstore 8, 2) := by decide +kernel
theorem dX8_findEight_68 : decode cX8_findEight 68 = .ok (.lload 6, 2) := by decide +kernel
theorem dX8_findEight_70 : decode cX8_findEight 70 = .ok (.aload_n 0, 1) := by decide +kernel
theorem dX8_findEight_71 : decode cX8_findEight 71 = .ok (.getfield 166, 3) := by decide +kernel
theorem dX8_findEight_74 : decode cX8_findEight 74 = .ok (.bipush 8, 2) := by decide +kernel
theorem dX8_findEight_76 : decode cX8_findEight 76 = .ok (.lshl, 1) := by decide +kernel
theorem dX8_findEight_77 : decode cX8_findEight 77 = .ok (.lor, 1) := by decide +kernel
theorem dX8_findEight_78 : decode cX8_findEight 78 = .ok (.lstore 6, 2) := by decide +kernel
theorem dX8_findEight_80 : decode cX8_findEight 80 = .ok (.aload_n 0, 1) := by decide +kernel
theorem dX8_findEight_81 : decode cX8_findEight 81 = .ok (.aload_n 0, 1) := by decide +kernel
theorem dX8_findEight_82 : decode cX8_findEight 82 = .ok (.getfield 44, 3) := by decide +kernel
theorem dX8_findEight_85 : decode cX8_findEight 85 = .ok (.iconst 4, 1) := by decide +kernel
theorem dX8_findEight_86 : decode cX8_findEight 86 = .ok (.invokevirtual 177, 3) := by decide +kernel
theorem dX8_findEight_89 : decode cX8_findEight 89 = .ok (.lload_n 1, 1) := by decide +kernel
theorem dX8_findEight_90 : decode cX8_findEight 90 = .ok (.lload 8, 2) := by decide +kernel
theorem dX8_findEight_92 : decode cX8_findEight 92 = .ok (.aload_n 0, 1) := by decide +kernel
theorem dX8_findEight_93 : decode cX8_findEight 93 = .ok (.getfield 160, 3) := by decide +kernel
theorem dX8_findEight_96 : decode cX8_findEight 96 = .ok (.lmul, 1) := by decide +kernel
theorem dX8_findEight_97 : decode cX8_findEight 97 = .ok (.ladd, 1) := by decide +kernel
theorem dX8_findEight_98 : decode cX8_findEight 98 = .ok (.lstore_n 1, 1) := by decide +kernel
theorem dX8_findEight_99 : decode cX8_findEight 99 = .ok (.lload 6, 2) := by decide +kernel
theorem dX8_findEight_101 : decode cX8_findEight 101 = .ok (.aload_n 0, 1) := by decide +kernel
theorem dX8_findEight_102 : decode cX8_findEight 102 = .ok (.getfield 166, 3) := by decide +kernel
theorem dX8_findEight_105 : decode cX8_findEight 105 = .ok (.bipush 14, 2) := by decide +kernel
theorem dX8_findEight_107 : decode cX8_findEight 107 = .ok (.lshl, 1) := by decide +kernel
theorem dX8_findEight_108 : decode cX8_findEight 108 = .ok (.lor, 1) := by decide +kernel
theorem dX8_findEight_109 : decode cX8_findEight 109 = .ok (.lstore 6, 2) := by decide +kernel
theorem dX8_findEight_111 : decode cX8_findEight 111 = .ok (.lload_n 3, 1) := by decide +kernel
theorem dX8_findEight_112 : decode cX8_findEight 112 = .ok (.lconst 0, 1) := by decide +kernel
theorem dX8_findEight_113 : decode cX8_findEight 113 = .ok (.lcmp, 1) := by decide +kernel
theorem dX8_findEight_114 : decode cX8_findEight 114 = .ok (.ifCond .lt 10, 3) := by decide +kernel
theorem dX8_findEight_117 : decode cX8_findEight 117 = .ok (.lload 6, 2) := by decide +kernel
theorem dX8_findEight_119 : decode cX8_findEight 119 = .ok (.lload_n 3, 1) := by decide +kernel
theorem dX8_findEight_120 : decode cX8_findEight 120 = .ok (.lcmp, 1) := by decide +kernel
theorem dX8_findEight_121 : decode cX8_findEight 121 = .ok (.ifCond .ge 8, 3) := by decide +kernel
theorem dX8_findEight_124 : decode cX8_findEight 124 = .ok (.lload 6, 2) := by decide +kernel
theorem dX8_findEight_126 : decode cX8_findEight 126 = .ok (.goto 4, 3) := by decide +kernel
theorem dX8_findEight_129 : decode cX8_findEight 129 = .ok (.lload_n 3, 1) := by decide +kernel
theorem dX8_findEight_130 : decode cX8_findEight 130 = .ok (.lstore_n 3, 1) := by decide +kernel
theorem dX8_findEight_131 : decode cX8_findEight 131 = .ok (.iinc 5 1, 3) := by decide +kernel
theorem dX8_findEight_134 : decode cX8_findEight 134 = .ok (.goto (-125), 3) := by decide +kernel
theorem dX8_findEight_137 : decode cX8_findEight 137 = .ok (.aload_n 0, 1) := by decide +kernel
theorem dX8_findEight_138 : decode cX8_findEight 138 = .ok (.lload_n 1, 1) := by decide +kernel
theorem dX8_findEight_139 : decode cX8_findEight 139 = .ok (.putfield 160, 3) := by decide +kernel
theorem dX8_findEight_142 : decode cX8_findEight 142 = .ok (.aload_n 0, 1) := by decide +kernel
theorem dX8_findEight_143 : decode cX8_findEight 143 = .ok (.lload_n 3, 1) := by decide +kernel
theorem dX8_findEight_144 : decode cX8_findEight 144 = .ok (.putfield 166, 3) := by decide +kernel
theorem dX8_findEight_147 : decode cX8_findEight 147 = .ok (.return_, 1) := by decide +kernel
theorem dX8_find_0 : decode cX8_find 0 = .ok (.aload_n 0, 1) := by decide +kernel
theorem dX8_find_1 : decode cX8_find 1 = .ok (.getfield 35, 3) := by decide +kernel
theorem dX8_find_4 : decode cX8_find 4 = .ok (.iconst 1, 1) := by decide +kernel
theorem dX8_find_5 : decode cX8_find 5 = .ok (.if_icmp .ne 23, 3) := by decide +kernel
theorem dX8_find_8 : decode cX8_find 8 = .ok (.aload_n 0, 1) := by decide +kernel
theorem dX8_find_9 : decode cX8_find 9 = .ok (.lconst 1, 1) := by decide +kernel
theorem dX8_find_10 : decode cX8_find 10 = .ok (.putfield 160, 3) := by decide +kernel
theorem dX8_find_13 : decode cX8_find 13 = .ok (.aload_n 0, 1) := by decide +kernel
theorem dX8_find_14 : decode cX8_find 14 = .ok (.aload_n 0, 1) := by decide +kernel
theorem dX8_find_15 : decode cX8_find 15 = .ok (.getfield 38, 3) := by decide +kernel
theorem dX8_find_18 : decode cX8_find 18 = .ok (.iconst 0, 1) := by decide +kernel
theorem dX8_find_19 : decode cX8_find 19 = .ok (.invokestatic 173, 3) := by decide +kernel
theorem dX8_find_22 : decode cX8_find 22 = .ok (.putfield 166, 3) := by decide +kernel
theorem dX8_find_25 : decode cX8_find 25 = .ok (.goto 27, 3) := by decide +kernel
theorem dX8_find_28 : decode cX8_find 28 = .ok (.aload_n 0, 1) := by decide +kernel
theorem dX8_find_29 : decode cX8_find 29 = .ok (.getfield 35, 3) := by decide +kernel
theorem dX8_find_32 : decode cX8_find 32 = .ok (.iconst 2, 1) := by decide +kernel
theorem dX8_find_33 : decode cX8_find 33 = .ok (.if_icmp .ne 15, 3) := by decide +kernel
theorem dX8_find_36 : decode cX8_find 36 = .ok (.aload_n 0, 1) := by decide +kernel
theorem dX8_find_37 : decode cX8_find 37 = .ok (.aload_n 0, 1) := by decide +kernel
theorem dX8_find_38 : decode cX8_find 38 = .ok (.getfield 38, 3) := by decide +kernel
theorem dX8_find_41 : decode cX8_find 41 = .ok (.iconst 0, 1) := by decide +kernel
theorem dX8_find_42 : decode cX8_find 42 = .ok (.invokevirtual 177, 3) := by decide +kernel
theorem dX8_find_45 : decode cX8_find 45 = .ok (.goto 7, 3) := by decide +kernel
theorem dX8_find_48 : decode cX8_find 48 = .ok (.aload_n 0, 1) := by decide +kernel
theorem dX8_find_49 : decode cX8_find 49 = .ok (.invokevirtual 181, 3) := by decide +kernel
theorem dX8_find_52 : decode cX8_find 52 = .ok (.return_, 1) := by decide +kernel
theorem dX8_ways_0 : decode cX8_ways 0 = .ok (.aload_n 0, 1) := by decide +kernel
theorem dX8_ways_1 : decode cX8_ways 1 = .ok (.invokevirtual 184, 3) := by decide +kernel
theorem dX8_ways_4 : decode cX8_ways 4 = .ok (.aload_n 0, 1) := by decide +kernel
theorem dX8_ways_5 : decode cX8_ways 5 = .ok (.getfield 160, 3) := by decide +kernel
theorem dX8_ways_8 : decode cX8_ways 8 = .ok (.lreturn, 1) := by decide +kernel
theorem dX8_first_0 : decode cX8_first 0 = .ok (.aload_n 0, 1) := by decide +kernel
theorem dX8_first_1 : decode cX8_first 1 = .ok (.invokevirtual 184, 3) := by decide +kernel
theorem dX8_first_4 : decode cX8_first 4 = .ok (.aload_n 0, 1) := by decide +kernel
theorem dX8_first_5 : decode cX8_first 5 = .ok (.getfield 166, 3) := by decide +kernel
theorem dX8_first_8 : decode cX8_first 8 = .ok (.lreturn, 1) := by decide +kernel
theorem dX8_against_0 : decode cX8_against 0 = .ok (.aload_n 0, 1) := by decide +kernel
theorem dX8_against_1 : decode cX8_against 1 = .ok (.getfield 50, 3) := by decide +kernel
theorem dX8_against_4 : decode cX8_against 4 = .ok (.iload_n 1, 1) := by decide +kernel
theorem dX8_against_5 : decode cX8_against 5 = .ok (.iaload, 1) := by decide +kernel
theorem dX8_against_6 : decode cX8_against 6 = .ok (.bipush (-9), 2) := by decide +kernel
theorem dX8_against_8 : decode cX8_against 8 = .ok (.if_icmp .eq 19, 3) := by decide +kernel
theorem dX8_against_11 : decode cX8_against 11 = .ok (.aload_n 0, 1) := by decide +kernel
theorem dX8_against_12 : decode cX8_against 12 = .ok (.getfield 50, 3) := by decide +kernel
theorem dX8_against_15 : decode cX8_against 15 = .ok (.iload_n 1, 1) := by decide +kernel
theorem dX8_against_16 : decode cX8_against 16 = .ok (.iaload, 1) := by decide +kernel
theorem dX8_against_17 : decode cX8_against 17 = .ok (.iload_n 2, 1) := by decide +kernel
theorem dX8_against_18 : decode cX8_against 18 = .ok (.if_icmp .eq 9, 3) := by decide +kernel
theorem dX8_against_21 : decode cX8_against 21 = .ok (.aload_n 0, 1) := by decide +kernel
theorem dX8_against_22 : decode cX8_against 22 = .ok (.iconst 2, 1) := by decide +kernel
theorem dX8_against_23 : decode cX8_against 23 = .ok (.invokevirtual 187, 3) := by decide +kernel
theorem dX8_against_26 : decode cX8_against 26 = .ok (.ireturn, 1) := by decide +kernel
theorem dX8_against_27 : decode cX8_against 27 = .ok (.aload_n 0, 1) := by decide +kernel
theorem dX8_against_28 : decode cX8_against 28 = .ok (.getfield 50, 3) := by decide +kernel
theorem dX8_against_31 : decode cX8_against 31 = .ok (.iload_n 1, 1) := by decide +kernel
theorem dX8_against_32 : decode cX8_against 32 = .ok (.iaload, 1) := by decide +kernel
theorem dX8_against_33 : decode cX8_against 33 = .ok (.bipush (-9), 2) := by decide +kernel
theorem dX8_against_35 : decode cX8_against 35 = .ok (.if_icmp .ne 9, 3) := by decide +kernel
theorem dX8_against_38 : decode cX8_against 38 = .ok (.aload_n 0, 1) := by decide +kernel
theorem dX8_against_39 : decode cX8_against 39 = .ok (.iconst 1, 1) := by decide +kernel
theorem dX8_against_40 : decode cX8_against 40 = .ok (.invokevirtual 187, 3) := by decide +kernel
theorem dX8_against_43 : decode cX8_against 43 = .ok (.ireturn, 1) := by decide +kernel
theorem dX8_against_44 : decode cX8_against 44 = .ok (.iload_n 3, 1) := by decide +kernel
theorem dX8_against_45 : decode cX8_against 45 = .ok (.ifCond .lt 26, 3) := by decide +kernel
theorem dX8_against_48 : decode cX8_against 48 = .ok (.iload_n 3, 1) := by decide +kernel
theorem dX8_against_49 : decode cX8_against 49 = .ok (.aload_n 0, 1) := by decide +kernel
theorem dX8_against_50 : decode cX8_against 50 = .ok (.getfield 53, 3) := by decide +kernel
theorem dX8_against_53 : decode cX8_against 53 = .ok (.iload_n 1, 1) := by decide +kernel
theorem dX8_against_54 : decode cX8_against 54 = .ok (.iaload, 1) := by decide +kernel
theorem dX8_against_55 : decode cX8_against 55 = .ok (.if_icmp .gt 16, 3) := by decide +kernel
theorem dX8_against_58 : decode cX8_against 58 = .ok (.iload 4, 2) := by decide +kernel
theorem dX8_against_60 : decode cX8_against 60 = .ok (.aload_n 0, 1) := by decide +kernel
theorem dX8_against_61 : decode cX8_against 61 = .ok (.getfield 53, 3) := by decide +kernel
theorem dX8_against_64 : decode cX8_against 64 = .ok (.iload_n 1, 1) := by decide +kernel
theorem dX8_against_65 : decode cX8_against 65 = .ok (.iaload, 1) := by decide +kernel
theorem dX8_against_66 : decode cX8_against 66 = .ok (.iload_n 3, 1) := by decide +kernel
theorem dX8_against_67 : decode cX8_against 67 = .ok (.isub, 1) := by decide +kernel
theorem dX8_against_68 : decode cX8_against 68 = .ok (.if_icmp .le 9, 3) := by decide +kernel
theorem dX8_against_71 : decode cX8_against 71 = .ok (.aload_n 0, 1) := by decide +kernel
theorem dX8_against_72 : decode cX8_against 72 = .ok (.iconst 3, 1) := by decide +kernel
theorem dX8_against_73 : decode cX8_against 73 = .ok (.invokevirtual 187, 3) := by decide +kernel
theorem dX8_against_76 : decode cX8_against 76 = .ok (.ireturn, 1) := by decide +kernel
theorem dX8_against_77 : decode cX8_against 77 = .ok (.iconst 0, 1) := by decide +kernel
theorem dX8_against_78 : decode cX8_against 78 = .ok (.ireturn, 1) := by decide +kernel
theorem dX8_isSheet_0 : decode cX8_isSheet 0 = .ok (.iload_n 0, 1) := by decide +kernel
theorem dX8_isSheet_1 : decode cX8_isSheet 1 = .ok (.iconst 0, 1) := by decide +kernel
theorem dX8_isSheet_2 : decode cX8_isSheet 2 = .ok (.iconst 3, 1) := by decide +kernel
theorem dX8_isSheet_3 : decode cX8_isSheet 3 = .ok (.invokestatic 116, 3) := by decide +kernel
theorem dX8_isSheet_6 : decode cX8_isSheet 6 = .ok (.ireturn, 1) := by decide +kernel
theorem dX8_isLane_0 : decode cX8_isLane 0 = .ok (.iload_n 0, 1) := by decide +kernel
theorem dX8_isLane_1 : decode cX8_isLane 1 = .ok (.iconst 0, 1) := by decide +kernel
theorem dX8_isLane_2 : decode cX8_isLane 2 = .ok (.iconst 2, 1) := by decide +kernel
theorem dX8_isLane_3 : decode cX8_isLane 3 = .ok (.invokestatic 116, 3) := by decide +kernel
theorem dX8_isLane_6 : decode cX8_isLane 6 = .ok (.ireturn, 1) := by decide +kernel
theorem dX8_order_0 : decode cX8_order 0 = .ok (.aload_n 0, 1) := by decide +kernel
theorem dX8_order_1 : decode cX8_order 1 = .ok (.iconst 0, 1) := by decide +kernel
theorem dX8_order_2 : decode cX8_order 2 = .ok (.putfield 107, 3) := by decide +kernel
theorem dX8_order_5 : decode cX8_order 5 = .ok (.iload_n 2, 1) := by decide +kernel
theorem dX8_order_6 : decode cX8_order 6 = .ok (.invokestatic 191, 3) := by decide +kernel
theorem dX8_order_9 : decode cX8_order 9 = .ok (.ifCond .ne 5, 3) := by decide +kernel
theorem dX8_order_12 : decode cX8_order 12 = .ok (.iconst (-1), 1) := by decide +kernel
theorem dX8_order_13 : decode cX8_order 13 = .ok (.ireturn, 1) := by decide +kernel
theorem dX8_order_14 : decode cX8_order 14 = .ok (.iload_n 3, 1) := by decide +kernel
theorem dX8_order_15 : decode cX8_order 15 = .ok (.invokestatic 194, 3) := by decide +kernel
theorem dX8_order_18 : decode cX8_order 18 = .ok (.ifCond .eq 12, 3) := by decide +kernel
theorem dX8_order_21 : decode cX8_order 21 = .ok (.iload_n 1, 1) := by decide +kernel
theorem dX8_order_22 : decode cX8_order 22 = .ok (.iconst 1, 1) := by decide +kernel
theorem dX8_order_23 : decode cX8_order 23 = .ok (.iconst 3, 1) := by decide +kernel
theorem dX8_order_24 : decode cX8_order 24 = .ok (.invokestatic 116, 3) := by decide +kernel
theorem dX8_order_27 : decode cX8_order 27 = .ok (.ifCond .ne 6, 3) := by decide +kernel
theorem dX8_order_30 : decode cX8_order 30 = .ok (.bipush (-2), 2) := by decide +kernel
theorem dX8_order_32 : decode cX8_order 32 = .ok (.ireturn, 1) := by decide +kernel
theorem dX8_order_33 : decode cX8_order 33 = .ok (.iconst 1, 1) := by decide +kernel
theorem dX8_order_34 : decode cX8_order 34 = .ok (.iload_n 1, 1) := by decide +kernel
theorem dX8_order_35 : decode cX8_order 35 = .ok (.ishl, 1) := by decide +kernel
theorem dX8_order_36 : decode cX8_order 36 = .ok (.istore 5, 2) := by decide +kernel
theorem dX8_order_38 : decode cX8_order 38 = .ok (.aload_n 0, 1) := by decide +kernel
theorem dX8_order_39 : decode cX8_order 39 = .ok (.iload_n 2, 1) := by decide +kernel
theorem dX8_order_40 : decode cX8_order 40 = .ok (.iload_n 3, 1) := by decide +kernel
theorem dX8_order_41 : decode cX8_order 41 = .ok (.iload 4, 2) := by decide +kernel
theorem dX8_order_43 : decode cX8_order 43 = .ok (.iload 5, 2) := by decide +kernel
theorem dX8_order_45 : decode cX8_order 45 = .ok (.invokevirtual 197, 3) := by decide +kernel
theorem dX8_order_48 : decode cX8_order 48 = .ok (.istore 6, 2) := by decide +kernel
theorem dX8_order_50 : decode cX8_order 50 = .ok (.iload 6, 2) := by decide +kernel
theorem dX8_order_52 : decode cX8_order 52 = .ok (.ifCond .eq 6, 3) := by decide +kernel
theorem dX8_order_55 : decode cX8_order 55 = .ok (.iload 6, 2) := by decide +kernel
theorem dX8_order_57 : decode cX8_order 57 = .ok (.ireturn, 1) := by decide +kernel
theorem dX8_order_58 : decode cX8_order 58 = .ok (.bipush 60, 2) := by decide +kernel
theorem dX8_order_60 : decode cX8_order 60 = .ok (.iload_n 2, 1) := by decide +kernel
theorem dX8_order_61 : decode cX8_order 61 = .ok (.imul, 1) := by decide +kernel
theorem dX8_order_62 : decode cX8_order 62 = .ok (.iload 4, 2) := by decide +kernel
theorem dX8_order_64 : decode cX8_order 64 = .ok (.iadd, 1) := by decide +kernel
theorem dX8_order_65 : decode cX8_order 65 = .ok (.istore 7, 2) := by decide +kernel
theorem dX8_order_67 : decode cX8_order 67 = .ok (.iconst 0, 1) := by decide +kernel
theorem dX8_order_68 : decode cX8_order 68 = .ok (.istore 8, 2) := by decide +kernel
theorem dX8_order_70 : decode cX8_order 70 = .ok (.iconst 0, 1) := by decide +kernel
theorem dX8_order_71 : decode cX8_order 71 = .ok (.istore 9, 2) := by decide +kernel
theorem dX8_order_73 : decode cX8_order 73 = .ok (.iload 9, 2) := by decide +kernel
theorem dX8_order_75 : decode cX8_order 75 = .ok (.iload 5, 2) := by decide +kernel
theorem dX8_order_77 : decode cX8_order 77 = .ok (.if_icmp .ge 57, 3) := by decide +kernel
theorem dX8_order_80 : decode cX8_order 80 = .ok (.aload_n 0, 1) := by decide +kernel
theorem dX8_order_81 : decode cX8_order 81 = .ok (.getfield 56, 3) := by decide +kernel
theorem dX8_order_84 : decode cX8_order 84 = .ok (.iload 7, 2) := by decide +kernel
theorem dX8_order_86 : decode cX8_order 86 = .ok (.iload 9, 2) := by decide +kernel
theorem dX8_order_88 : decode cX8_order 88 = .ok (.iadd, 1) := by decide +kernel
theorem dX8_order_89 : decode cX8_order 89 = .ok (.iaload, 1) := by decide +kernel
theorem dX8_order_90 : decode cX8_order 90 = .ok (.istore 10, 2) := by decide +kernel
theorem dX8_order_92 : decode cX8_order 92 = .ok (.iload 10, 2) := by decide +kernel
theorem dX8_order_94 : decode cX8_order 94 = .ok (.iconst 0, 1) := by decide +kernel
theorem dX8_order_95 : decode cX8_order 95 = .ok (.iload 5, 2) := by decide +kernel
theorem dX8_order_97 : decode cX8_order 97 = .ok (.iconst 1, 1) := by decide +kernel
theorem dX8_order_98 : decode cX8_order 98 = .ok (.isub, 1) := by decide +kernel
theorem dX8_order_99 : decode cX8_order 99 = .ok (.invokestatic 116, 3) := by decide +kernel
theorem dX8_order_102 : decode cX8_order 102 = .ok (.ifCond .eq 14, 3) := by decide +kernel
theorem dX8_order_105 : decode cX8_order 105 = .ok (.iload 8, 2) := by decide +kernel
theorem dX8_order_107 : decode cX8_order 107 = .ok (.iload 10, 2) := by decide +kernel
theorem dX8_order_109 : decode cX8_order 109 = .ok (.ishr, 1) := by decide +kernel
theorem dX8_order_110 : decode cX8_order 110 = .ok (.iconst 1, 1) := by decide +kernel
theorem dX8_order_111 : decode cX8_order 111 = .ok (.iand, 1) := by decide +kernel
theorem dX8_order_112 : decode cX8_order 112 = .ok (.iconst 1, 1) := by decide +kernel
theorem dX8_order_113 : decode cX8_order 113 = .ok (.if_icmp .ne 6, 3) := by decide +kernel
theorem dX8_order_116 : decode cX8_order 116 = .ok (.bipush (-2), 2) := by decide +kernel
theorem dX8_order_118 : decode cX8_order 118 = .ok (.ireturn, 1) := by decide +kernel
theorem dX8_order_119 : decode cX8_order 119 = .ok (.iload 8, 2) := by decide +kernel
theorem dX8_order_121 : decode cX8_order 121 = .ok (.iconst 1, 1) := by decide +kernel
theorem dX8_order_122 : decode cX8_order 122 = .ok (.iload 10, 2) := by decide +kernel
theorem dX8_order_124 : decode cX8_order 124 = .ok (.ishl, 1) := by decide +kernel
theorem dX8_order_125 : decode cX8_order 125 = .ok (.ior, 1) := by decide +kernel
theorem dX8_order_126 : decode cX8_order 126 = .ok (.istore 8, 2) := by decide +kernel
theorem dX8_order_128 : decode cX8_order 128 = .ok (.iinc 9 1, 3) := by decide +kernel
theorem dX8_order_131 : decode cX8_order 131 = .ok (.goto (-58), 3) := by decide +kernel
theorem dX8_order_134 : decode cX8_order 134 = .ok (.aload_n 0, 1) := by decide +kernel
theorem dX8_order_135 : decode cX8_order 135 = .ok (.iload_n 1, 1) := by decide +kernel
theorem dX8_order_136 : decode cX8_order 136 = .ok (.putfield 35, 3) := by decide +kernel
theorem dX8_order_139 : decode cX8_order 139 = .ok (.iconst 0, 1) := by decide +kernel
theorem dX8_order_140 : decode cX8_order 140 = .ok (.istore 9, 2) := by decide +kernel
theorem dX8_order_142 : decode cX8_order 142 = .ok (.iload 9, 2) := by decide +kernel
theorem dX8_order_144 : decode cX8_order 144 = .ok (.iload 5, 2) := by decide +kernel
theorem dX8_order_146 : decode cX8_order 146 = .ok (.if_icmp .ge 26, 3) := by decide +kernel
theorem dX8_order_149 : decode cX8_order 149 = .ok (.aload_n 0, 1) := by decide +kernel
theorem dX8_order_150 : decode cX8_order 150 = .ok (.getfield 38, 3) := by decide +kernel
theorem dX8_order_153 : decode cX8_order 153 = .ok (.iload 9, 2) := by decide +kernel
theorem dX8_order_155 : decode cX8_order 155 = .ok (.aload_n 0, 1) := by decide +kernel
theorem dX8_order_156 : decode cX8_order 156 = .ok (.getfield 56, 3) := by decide +kernel
theorem dX8_order_159 : decode cX8_order 159 = .ok (.iload 7, 2) := by decide +kernel
theorem dX8_order_161 : decode cX8_order 161 = .ok (.iload 9, 2) := by decide +kernel
theorem dX8_order_163 : decode cX8_order 163 = .ok (.iadd, 1) := by decide +kernel
theorem dX8_order_164 : decode cX8_order 164 = .ok (.iaload, 1) := by decide +kernel
theorem dX8_order_165 : decode cX8_order 165 = .ok (.iastore, 1) := by decide +kernel
theorem dX8_order_166 : decode cX8_order 166 = .ok (.iinc 9 1, 3) := by decide +kernel
theorem dX8_order_169 : decode cX8_order 169 = .ok (.goto (-27), 3) := by decide +kernel
theorem dX8_order_172 : decode cX8_order 172 = .ok (.iload 5, 2) := by decide +kernel
theorem dX8_order_174 : decode cX8_order 174 = .ok (.ireturn, 1) := by decide +kernel
theorem dX8_isEnd_0 : decode cX8_isEnd 0 = .ok (.iload_n 1, 1) := by decide +kernel
theorem dX8_isEnd_1 : decode cX8_isEnd 1 = .ok (.ifCond .lt 15, 3) := by decide +kernel
theorem dX8_isEnd_4 : decode cX8_isEnd 4 = .ok (.iload_n 1, 1) := by decide +kernel
theorem dX8_isEnd_5 : decode cX8_isEnd 5 = .ok (.aload_n 0, 1) := by decide +kernel
theorem dX8_isEnd_6 : decode cX8_isEnd 6 = .ok (.invokevirtual 201, 3) := by decide +kernel
theorem dX8_isEnd_9 : decode cX8_isEnd 9 = .ok (.if_icmp .ge 7, 3) := by decide +kernel
theorem dX8_isEnd_12 : decode cX8_isEnd 12 = .ok (.iconst 1, 1) := by decide +kernel
theorem dX8_isEnd_13 : decode cX8_isEnd 13 = .ok (.goto 4, 3) := by decide +kernel
theorem dX8_isEnd_16 : decode cX8_isEnd 16 = .ok (.iconst 0, 1) := by decide +kernel
theorem dX8_isEnd_17 : decode cX8_isEnd 17 = .ok (.ireturn, 1) := by decide +kernel
theorem dX8_outlet_0 : decode cX8_outlet 0 = .ok (.aload_n 0, 1) := by decide +kernel
theorem dX8_outlet_1 : decode cX8_outlet 1 = .ok (.iload_n 1, 1) := by decide +kernel
theorem dX8_outlet_2 : decode cX8_outlet 2 = .ok (.invokevirtual 204, 3) := by decide +kernel
theorem dX8_outlet_5 : decode cX8_outlet 5 = .ok (.ifCond .eq 12, 3) := by decide +kernel
theorem dX8_outlet_8 : decode cX8_outlet 8 = .ok (.aload_n 0, 1) := by decide +kernel
theorem dX8_outlet_9 : decode cX8_outlet 9 = .ok (.getfield 38, 3) := by decide +kernel
theorem dX8_outlet_12 : decode cX8_outlet 12 = .ok (.iload_n 1, 1) := by decide +kernel
theorem dX8_outlet_13 : decode cX8_outlet 13 = .ok (.iaload, 1) := by decide +kernel
theorem dX8_outlet_14 : decode cX8_outlet 14 = .ok (.goto 4, 3) := by decide +kernel
theorem dX8_outlet_17 : decode cX8_outlet 17 = .ok (.iconst (-1), 1) := by decide +kernel
theorem dX8_outlet_18 : decode cX8_outlet 18 = .ok (.ireturn, 1) := by decide +kernel
theorem dX8_carriedTwo_0 : decode cX8_carriedTwo 0 = .ok (.iload_n 0, 1) := by decide +kernel
theorem dX8_carriedTwo_1 : decode cX8_carriedTwo 1 = .ok (.iload_n 1, 1) := by decide +kernel
theorem dX8_carriedTwo_2 : decode cX8_carriedTwo 2 = .ok (.iconst 1, 1) := by decide +kernel
theorem dX8_carriedTwo_3 : decode cX8_carriedTwo 3 = .ok (.iand, 1) := by decide +kernel
theorem dX8_carriedTwo_4 : decode cX8_carriedTwo 4 = .ok (.ixor, 1) := by decide +kernel
theorem dX8_carriedTwo_5 : decode cX8_carriedTwo 5 = .ok (.ireturn, 1) := by decide +kernel
theorem dX8_carriedFour_0 : decode cX8_carriedFour 0 = .ok (.iload_n 1, 1) := by decide +kernel
theorem dX8_carriedFour_1 : decode cX8_carriedFour 1 = .ok (.iload_n 0, 1) := by decide +kernel
theorem dX8_carriedFour_2 : decode cX8_carriedFour 2 = .ok (.iconst 2, 1) := by decide +kernel
theorem dX8_carriedFour_3 : decode cX8_carriedFour 3 = .ok (.idiv, 1) := by decide +kernel
theorem dX8_carriedFour_4 : decode cX8_carriedFour 4 = .ok (.ishr, 1) := by decide +kernel
theorem dX8_carriedFour_5 : decode cX8_carriedFour 5 = .ok (.iconst 1, 1) := by decide +kernel
theorem dX8_carriedFour_6 : decode cX8_carriedFour 6 = .ok (.iand, 1) := by decide +kernel
theorem dX8_carriedFour_7 : decode cX8_carriedFour 7 = .ok (.iload_n 0, 1) := by decide +kernel
theorem dX8_carriedFour_8 : decode cX8_carriedFour 8 = .ok (.iconst 1, 1) := by decide +kernel
theorem dX8_carriedFour_9 : decode cX8_carriedFour 9 = .ok (.iand, 1) := by decide +kernel
theorem dX8_carriedFour_10 : decode cX8_carriedFour 10 = .ok (.ixor, 1) := by decide +kernel
theorem dX8_carriedFour_11 : decode cX8_carriedFour 11 = .ok (.istore_n 2, 1) := by decide +kernel
theorem dX8_carriedFour_12 : decode cX8_carriedFour 12 = .ok (.iload_n 0, 1) := by decide +kernel
theorem dX8_carriedFour_13 : decode cX8_carriedFour 13 = .ok (.iconst 2, 1) := by decide +kernel
theorem dX8_carriedFour_14 : decode cX8_carriedFour 14 = .ok (.idiv, 1) := by decide +kernel
theorem dX8_carriedFour_15 : decode cX8_carriedFour 15 = .ok (.iload_n 1, 1) := by decide +kernel
theorem dX8_carriedFour_16 : decode cX8_carriedFour 16 = .ok (.iconst 4, 1) := by decide +kernel
theorem dX8_carriedFour_17 : decode cX8_carriedFour 17 = .ok (.iload_n 2, 1) := by decide +kernel
theorem dX8_carriedFour_18 : decode cX8_carriedFour 18 = .ok (.iadd, 1) := by decide +kernel
theorem dX8_carriedFour_19 : decode cX8_carriedFour 19 = .ok (.ishr, 1) := by decide +kernel
theorem dX8_carriedFour_20 : decode cX8_carriedFour 20 = .ok (.invokestatic 207, 3) := by decide +kernel
theorem dX8_carriedFour_23 : decode cX8_carriedFour 23 = .ok (.istore_n 3, 1) := by decide +kernel
theorem dX8_carriedFour_24 : decode cX8_carriedFour 24 = .ok (.iconst 2, 1) := by decide +kernel
theorem dX8_carriedFour_25 : decode cX8_carriedFour 25 = .ok (.iload_n 3, 1) := by decide +kernel
theorem dX8_carriedFour_26 : decode cX8_carriedFour 26 = .ok (.imul, 1) := by decide +kernel
theorem dX8_carriedFour_27 : decode cX8_carriedFour 27 = .ok (.iload_n 2, 1) := by decide +kernel
theorem dX8_carriedFour_28 : decode cX8_carriedFour 28 = .ok (.iload_n 1, 1) := by decide +kernel
theorem dX8_carriedFour_29 : decode cX8_carriedFour 29 = .ok (.iconst 2, 1) := by decide +kernel
theorem dX8_carriedFour_30 : decode cX8_carriedFour 30 = .ok (.iload_n 3, 1) := by decide +kernel
theorem dX8_carriedFour_31 : decode cX8_carriedFour 31 = .ok (.iadd, 1) := by decide +kernel
theorem dX8_carriedFour_32 : decode cX8_carriedFour 32 = .ok (.ishr, 1) := by decide +kernel
theorem dX8_carriedFour_33 : decode cX8_carriedFour 33 = .ok (.iconst 1, 1) := by decide +kernel
theorem dX8_carriedFour_34 : decode cX8_carriedFour 34 = .ok (.iand, 1) := by decide +kernel
theorem dX8_carriedFour_35 : decode cX8_carriedFour 35 = .ok (.ixor, 1) := by decide +kernel
theorem dX8_carriedFour_36 : decode cX8_carriedFour 36 = .ok (.iadd, 1) := by decide +kernel
theorem dX8_carriedFour_37 : decode cX8_carriedFour 37 = .ok (.ireturn, 1) := by decide +kernel
theorem dX8_carriedEight_0 : decode cX8_carriedEight 0 = .ok (.iload_n 1, 1) := by decide +kernel
theorem dX8_carriedEight_1 : decode cX8_carriedEight 1 = .ok (.iload_n 0, 1) := by decide +kernel
theorem dX8_carriedEight_2 : decode cX8_carriedEight 2 = .ok (.iconst 2, 1) := by decide +kernel
theorem dX8_carriedEight_3 : decode cX8_carriedEight 3 = .ok (.idiv, 1) := by decide +kernel
theorem dX8_carriedEight_4 : decode cX8_carriedEight 4 = .ok (.ishr, 1) := by decide +kernel
theorem dX8_carriedEight_5 : decode cX8_carriedEight 5 = .ok (.iconst 1, 1) := by decide +kernel
theorem dX8_carriedEight_6 : decode cX8_carriedEight 6 = .ok (.iand, 1) := by decide +kernel
theorem dX8_carriedEight_7 : decode cX8_carriedEight 7 = .ok (.iload_n 0, 1) := by decide +kernel
theorem dX8_carriedEight_8 : decode cX8_carriedEight 8 = .ok (.iconst 1, 1) := by decide +kernel
theorem dX8_carriedEight_9 : decode cX8_carriedEight 9 = .ok (.iand, 1) := by decide +kernel
theorem dX8_carriedEight_10 : decode cX8_carriedEight 10 = .ok (.ixor, 1) := by decide +kernel
theorem dX8_carriedEight_11 : decode cX8_carriedEight 11 = .ok (.istore_n 2, 1) := by decide +kernel
theorem dX8_carriedEight_12 : decode cX8_carriedEight 12 = .ok (.iload_n 0, 1) := by decide +kernel
theorem dX8_carriedEight_13 : decode cX8_carriedEight 13 = .ok (.iconst 2, 1) := by decide +kernel
theorem dX8_carriedEight_14 : decode cX8_carriedEight 14 = .ok (.idiv, 1) := by decide +kernel
theorem dX8_carriedEight_15 : decode cX8_carriedEight 15 = .ok (.iload_n 1, 1) := by decide +kernel
theorem dX8_carriedEight_16 : decode cX8_carriedEight 16 = .ok (.bipush 8, 2) := by decide +kernel
theorem dX8_carriedEight_18 : decode cX8_carriedEight 18 = .ok (.bipush 6, 2) := by decide +kernel
theorem dX8_carriedEight_20 : decode cX8_carriedEight 20 = .ok (.iload_n 2, 1) := by decide +kernel
theorem dX8_carriedEight_21 : decode cX8_carriedEight 21 = .ok (.imul, 1) := by decide +kernel
theorem dX8_carriedEight_22 : decode cX8_carriedEight 22 = .ok (.iadd, 1) := by decide +kernel
theorem dX8_carriedEight_23 : decode cX8_carriedEight 23 = .ok (.ishr, 1) := by decide +kernel
theorem dX8_carriedEight_24 : decode cX8_carriedEight 24 = .ok (.invokestatic 210, 3) := by decide +kernel
theorem dX8_carriedEight_27 : decode cX8_carriedEight 27 = .ok (.istore_n 3, 1) := by decide +kernel
theorem dX8_carriedEight_28 : decode cX8_carriedEight 28 = .ok (.iconst 2, 1) := by decide +kernel
theorem dX8_carriedEight_29 : decode cX8_carriedEight 29 = .ok (.iload_n 3, 1) := by decide +kernel
theorem dX8_carriedEight_30 : decode cX8_carriedEight 30 = .ok (.imul, 1) := by decide +kernel
theorem dX8_carriedEight_31 : decode cX8_carriedEight 31 = .ok (.iload_n 2, 1) := by decide +kernel
theorem dX8_carriedEight_32 : decode cX8_carriedEight 32 = .ok (.iload_n 1, 1) := by decide +kernel
theorem dX8_carriedEight_33 : decode cX8_carriedEight 33 = .ok (.iconst 4, 1) := by decide +kernel
theorem dX8_carriedEight_34 : decode cX8_carriedEight 34 = .ok (.iload_n 3, 1) := by decide +kernel
theorem dX8_carriedEight_35 : decode cX8_carriedEight 35 = .ok (.iadd, 1) := by decide +kernel
theorem dX8_carriedEight_36 : decode cX8_carriedEight 36 = .ok (.ishr, 1) := by decide +kernel
theorem dX8_carriedEight_37 : decode cX8_carriedEight 37 = .ok (.iconst 1, 1) := by decide +kernel
theorem dX8_carriedEight_38 : decode cX8_carriedEight 38 = .ok (.iand, 1) := by decide +kernel
theorem dX8_carriedEight_39 : decode cX8_carriedEight 39 = .ok (.ixor, 1) := by decide +kernel
theorem dX8_carriedEight_40 : decode cX8_carriedEight 40 = .ok (.iadd, 1) := by decide +kernel
theorem dX8_carriedEight_41 : decode cX8_carriedEight 41 = .ok (.ireturn, 1) := by decide +kernel
theorem dX8_carry_0 : decode cX8_carry 0 = .ok (.iload_n 1, 1) := by decide +kernel
theorem dX8_carry_1 : decode cX8_carry 1 = .ok (.iconst 1, 1) := by decide +kernel
theorem dX8_carry_2 : decode cX8_carry 2 = .ok (.iconst 3, 1) := by decide +kernel
theorem dX8_carry_3 : decode cX8_carry 3 = .ok (.invokestatic 116, 3) := by decide +kernel
theorem dX8_carry_6 : decode cX8_carry 6 = .ok (.ifCond .eq 37, 3) := by decide +kernel
theorem dX8_carry_9 : decode cX8_carry 9 = .ok (.lload_n 2, 1) := by decide +kernel
theorem dX8_carry_10 : decode cX8_carry 10 = .ok (.lconst 0, 1) := by decide +kernel
theorem dX8_carry_11 : decode cX8_carry 11 = .ok (.lcmp, 1) := by decide +kernel
theorem dX8_carry_12 : decode cX8_carry 12 = .ok (.ifCond .lt 31, 3) := by decide +kernel
theorem dX8_carry_15 : decode cX8_carry 15 = .ok (.lload_n 2, 1) := by decide +kernel
theorem dX8_carry_16 : decode cX8_carry 16 = .ok (.lconst 1, 1) := by decide +kernel
theorem dX8_carry_17 : decode cX8_carry 17 = .ok (.iload_n 1, 1) := by decide +kernel
theorem dX8_carry_18 : decode cX8_carry 18 = .ok (.iconst 1, 1) := by decide +kernel
theorem dX8_carry_19 : decode cX8_carry 19 = .ok (.if_icmp .ne 7, 3) := by decide +kernel
theorem dX8_carry_22 : decode cX8_carry 22 = .ok (.iconst 1, 1) := by decide +kernel
theorem dX8_carry_23 : decode cX8_carry 23 = .ok (.goto 15, 3) := by decide +kernel
theorem dX8_carry_26 : decode cX8_carry 26 = .ok (.iload_n 1, 1) := by decide +kernel
theorem dX8_carry_27 : decode cX8_carry 27 = .ok (.iconst 2, 1) := by decide +kernel
theorem dX8_carry_28 : decode cX8_carry 28 = .ok (.if_icmp .ne 8, 3) := by decide +kernel
theorem dX8_carry_31 : decode cX8_carry 31 = .ok (.bipush 6, 2) := by decide +kernel
theorem dX8_carry_33 : decode cX8_carry 33 = .ok (.goto 5, 3) := by decide +kernel
theorem dX8_carry_36 : decode cX8_carry 36 = .ok (.bipush 20, 2) := by decide +kernel
theorem dX8_carry_38 : decode cX8_carry 38 = .ok (.lshl, 1) := by decide +kernel
theorem dX8_carry_39 : decode cX8_carry 39 = .ok (.lcmp, 1) := by decide +kernel
theorem dX8_carry_40 : decode cX8_carry 40 = .ok (.ifCond .lt 6, 3) := by decide +kernel
theorem dX8_carry_43 : decode cX8_carry 43 = .ok (.bipush (-2), 2) := by decide +kernel
theorem dX8_carry_45 : decode cX8_carry 45 = .ok (.ireturn, 1) := by decide +kernel
theorem dX8_carry_46 : decode cX8_carry 46 = .ok (.aload_n 0, 1) := by decide +kernel
theorem dX8_carry_47 : decode cX8_carry 47 = .ok (.iload_n 1, 1) := by decide +kernel
theorem dX8_carry_48 : decode cX8_carry 48 = .ok (.putfield 35, 3) := by decide +kernel
theorem dX8_carry_51 : decode cX8_carry 51 = .ok (.lload_n 2, 1) := by decide +kernel
theorem dX8_carry_52 : decode cX8_carry 52 = .ok (.l2i, 1) := by decide +kernel
theorem dX8_carry_53 : decode cX8_carry 53 = .ok (.istore 4, 2) := by decide +kernel
theorem dX8_carry_55 : decode cX8_carry 55 = .ok (.iconst 0, 1) := by decide +kernel
theorem dX8_carry_56 : decode cX8_carry 56 = .ok (.istore 5, 2) := by decide +kernel
theorem dX8_carry_58 : decode cX8_carry 58 = .ok (.iload 5, 2) := by decide +kernel
theorem dX8_carry_60 : decode cX8_carry 60 = .ok (.aload_n 0, 1) := by decide +kernel
theorem dX8_carry_61 : decode cX8_carry 61 = .ok (.invokevirtual 201, 3) := by decide +kernel
theorem dX8_carry_64 : decode cX8_carry 64 = .ok (.if_icmp .ge 53, 3) := by decide +kernel
theorem dX8_carry_67 : decode cX8_carry 67 = .ok (.aload_n 0, 1) := by decide +kernel
theorem dX8_carry_68 : decode cX8_carry 68 = .ok (.getfield 38, 3) := by decide +kernel
theorem dX8_carry_71 : decode cX8_carry 71 = .ok (.iload 5, 2) := by decide +kernel
theorem dX8_carry_73 : decode cX8_carry 73 = .ok (.iload_n 1, 1) := by decide +kernel
theorem dX8_carry_74 : decode cX8_carry 74 = .ok (.iconst 1, 1) := by decide +kernel
theorem dX8_carry_75 : decode cX8_carry 75 = .ok (.if_icmp .ne 13, 3) := by decide +kernel
theorem dX8_carry_78 : decode cX8_carry 78 = .ok (.iload 5, 2) := by decide +kernel
theorem dX8_carry_80 : decode cX8_carry 80 = .ok (.iload 4, 2) := by decide +kernel
theorem dX8_carry_82 : decode cX8_carry 82 = .ok (.invokestatic 207, 3) := by decide +kernel
theorem dX8_carry_85 : decode cX8_carry 85 = .ok (.goto 25, 3) := by decide +kernel
theorem dX8_carry_88 : decode cX8_carry 88 = .ok (.iload_n 1, 1) := by decide +kernel
theorem dX8_carry_89 : decode cX8_carry 89 = .ok (.iconst 2, 1) := by decide +kernel
theorem dX8_carry_90 : decode cX8_carry 90 = .ok (.if_icmp .ne 13, 3) := by decide +kernel
theorem dX8_carry_93 : decode cX8_carry 93 = .ok (.iload 5, 2) := by decide +kernel
theorem dX8_carry_95 : decode cX8_carry 95 = .ok (.iload 4, 2) := by decide +kernel
theorem dX8_carry_97 : decode cX8_carry 97 = .ok (.invokestatic 210, 3) := by decide +kernel
theorem dX8_carry_100 : decode cX8_carry 100 = .ok (.goto 10, 3) := by decide +kernel
theorem dX8_carry_103 : decode cX8_carry 103 = .ok (.iload 5, 2) := by decide +kernel
theorem dX8_carry_105 : decode cX8_carry 105 = .ok (.iload 4, 2) := by decide +kernel
theorem dX8_carry_107 : decode cX8_carry 107 = .ok (.invokestatic 213, 3) := by decide +kernel
theorem dX8_carry_110 : decode cX8_carry 110 = .ok (.iastore, 1) := by decide +kernel
theorem dX8_carry_111 : decode cX8_carry 111 = .ok (.iinc 5 1, 3) := by decide +kernel
theorem dX8_carry_114 : decode cX8_carry 114 = .ok (.goto (-56), 3) := by decide +kernel
theorem dX8_carry_117 : decode cX8_carry 117 = .ok (.aload_n 0, 1) := by decide +kernel
theorem dX8_carry_118 : decode cX8_carry 118 = .ok (.invokevirtual 201, 3) := by decide +kernel
theorem dX8_carry_121 : decode cX8_carry 121 = .ok (.ireturn, 1) := by decide +kernel
theorem dX8_lineOf_0 : decode cX8_lineOf 0 = .ok (.iload_n 1, 1) := by decide +kernel
theorem dX8_lineOf_1 : decode cX8_lineOf 1 = .ok (.istore_n 3, 1) := by decide +kernel
theorem dX8_lineOf_2 : decode cX8_lineOf 2 = .ok (.iconst 0, 1) := by decide +kernel
theorem dX8_lineOf_3 : decode cX8_lineOf 3 = .ok (.istore 4, 2) := by decide +kernel
theorem dX8_lineOf_5 : decode cX8_lineOf 5 = .ok (.iload 4, 2) := by decide +kernel
theorem dX8_lineOf_7 : decode cX8_lineOf 7 = .ok (.iload_n 2, 1) := by decide +kernel
theorem dX8_lineOf_8 : decode cX8_lineOf 8 = .ok (.if_icmp .gt 61, 3) := by decide +kernel
theorem dX8_lineOf_11 : decode cX8_lineOf 11 = .ok (.iconst 2, 1) := by decide +kernel
theorem dX8_lineOf_12 : decode cX8_lineOf 12 = .ok (.iload_n 3, 1) := by decide +kernel
theorem dX8_lineOf_13 : decode cX8_lineOf 13 = .ok (.imul, 1) := by decide +kernel
theorem dX8_lineOf_14 : decode cX8_lineOf 14 = .ok (.aload_n 0, 1) := by decide +kernel
theorem dX8_lineOf_15 : decode cX8_lineOf 15 = .ok (.invokevirtual 201, 3) := by decide +kernel
theorem dX8_lineOf_18 : decode cX8_lineOf 18 = .ok (.if_icmp .lt 16, 3) := by decide +kernel
theorem dX8_lineOf_21 : decode cX8_lineOf 21 = .ok (.iconst 2, 1) := by decide +kernel
theorem dX8_lineOf_22 : decode cX8_lineOf 22 = .ok (.iload_n 3, 1) := by decide +kernel
theorem dX8_lineOf_23 : decode cX8_lineOf 23 = .ok (.imul, 1) := by decide +kernel
theorem dX8_lineOf_24 : decode cX8_lineOf 24 = .ok (.aload_n 0, 1) := by decide +kernel
theorem dX8_lineOf_25 : decode cX8_lineOf 25 = .ok (.invokevirtual 201, 3) := by decide +kernel
theorem dX8_lineOf_28 : decode cX8_lineOf 28 = .ok (.isub, 1) := by decide +kernel
theorem dX8_lineOf_29 : decode cX8_lineOf 29 = .ok (.iconst 1, 1) := by decide +kernel
theorem dX8_lineOf_30 : decode cX8_lineOf 30 = .ok (.iadd, 1) := by decide +kernel
theorem dX8_lineOf_31 : decode cX8_lineOf 31 = .ok (.goto 6, 3) := by decide +kernel
theorem dX8_lineOf_34 : decode cX8_lineOf 34 = .ok (.iconst 2, 1) := by decide +kernel
theorem dX8_lineOf_35 : decode cX8_lineOf 35 = .ok (.iload_n 3, 1) := by decide +kernel
theorem dX8_lineOf_36 : decode cX8_lineOf 36 = .ok (.imul, 1) := by decide +kernel
theorem dX8_lineOf_37 : decode cX8_lineOf 37 = .ok (.istore_n 3, 1) := by decide +kernel
theorem dX8_lineOf_38 : decode cX8_lineOf 38 = .ok (.iconst 2, 1) := by decide +kernel
theorem dX8_lineOf_39 : decode cX8_lineOf 39 = .ok (.iload_n 3, 1) := by decide +kernel
theorem dX8_lineOf_40 : decode cX8_lineOf 40 = .ok (.iconst 2, 1) := by decide +kernel
theorem dX8_lineOf_41 : decode cX8_lineOf 41 = .ok (.idiv, 1) := by decide +kernel
theorem dX8_lineOf_42 : decode cX8_lineOf 42 = .ok (.imul, 1) := by decide +kernel
theorem dX8_lineOf_43 : decode cX8_lineOf 43 = .ok (.aload_n 0, 1) := by decide +kernel
theorem dX8_lineOf_44 : decode cX8_lineOf 44 = .ok (.getfield 38, 3) := by decide +kernel
theorem dX8_lineOf_47 : decode cX8_lineOf 47 = .ok (.iload_n 1, 1) := by decide +kernel
theorem dX8_lineOf_48 : decode cX8_lineOf 48 = .ok (.iaload, 1) := by decide +kernel
theorem dX8_lineOf_49 : decode cX8_lineOf 49 = .ok (.aload_n 0, 1) := by decide +kernel
theorem dX8_lineOf_50 : decode cX8_lineOf 50 = .ok (.getfield 35, 3) := by decide +kernel
theorem dX8_lineOf_53 : decode cX8_lineOf 53 = .ok (.iconst 1, 1) := by decide +kernel
theorem dX8_lineOf_54 : decode cX8_lineOf 54 = .ok (.isub, 1) := by decide +kernel
theorem dX8_lineOf_55 : decode cX8_lineOf 55 = .ok (.iload 4, 2) := by decide +kernel
theorem dX8_lineOf_57 : decode cX8_lineOf 57 = .ok (.isub, 1) := by decide +kernel
theorem dX8_lineOf_58 : decode cX8_lineOf 58 = .ok (.ishr, 1) := by decide +kernel
theorem dX8_lineOf_59 : decode cX8_lineOf 59 = .ok (.iconst 1, 1) := by decide +kernel
theorem dX8_lineOf_60 : decode cX8_lineOf 60 = .ok (.iand, 1) := by decide +kernel
theorem dX8_lineOf_61 : decode cX8_lineOf 61 = .ok (.iadd, 1) := by decide +kernel
theorem dX8_lineOf_62 : decode cX8_lineOf 62 = .ok (.istore_n 3, 1) := by decide +kernel
theorem dX8_lineOf_63 : decode cX8_lineOf 63 = .ok (.iinc 4 1, 3) := by decide +kernel
theorem dX8_lineOf_66 : decode cX8_lineOf 66 = .ok (.goto (-61), 3) := by decide +kernel
theorem dX8_lineOf_69 : decode cX8_lineOf 69 = .ok (.iload_n 3, 1) := by decide +kernel
theorem dX8_lineOf_70 : decode cX8_lineOf 70 = .ok (.ireturn, 1) := by decide +kernel
theorem dX8_line_0 : decode cX8_line 0 = .ok (.aload_n 0, 1) := by decide +kernel
theorem dX8_line_1 : decode cX8_line 1 = .ok (.iload_n 1, 1) := by decide +kernel
theorem dX8_line_2 : decode cX8_line 2 = .ok (.invokevirtual 204, 3) := by decide +kernel
theorem dX8_line_5 : decode cX8_line 5 = .ok (.ifCond .eq 26, 3) := by decide +kernel
theorem dX8_line_8 : decode cX8_line 8 = .ok (.iload_n 2, 1) := by decide +kernel
theorem dX8_line_9 : decode cX8_line 9 = .ok (.iconst 0, 1) := by decide +kernel
theorem dX8_line_10 : decode cX8_line 10 = .ok (.aload_n 0, 1) := by decide +kernel
theorem dX8_line_11 : decode cX8_line 11 = .ok (.getfield 35, 3) := by decide +kernel
theorem dX8_line_14 : decode cX8_line 14 = .ok (.iconst 1, 1) := by decide +kernel
theorem dX8_line_15 : decode cX8_line 15 = .ok (.isub, 1) := by decide +kernel
theorem dX8_line_16 : decode cX8_line 16 = .ok (.invokestatic 116, 3) := by decide +kernel
theorem dX8_line_19 : decode cX8_line 19 = .ok (.ifCond .eq 12, 3) := by decide +kernel
theorem dX8_line_22 : decode cX8_line 22 = .ok (.aload_n 0, 1) := by decide +kernel
theorem dX8_line_23 : decode cX8_line 23 = .ok (.iload_n 1, 1) := by decide +kernel
theorem dX8_line_24 : decode cX8_line 24 = .ok (.iload_n 2, 1) := by decide +kernel
theorem dX8_line_25 : decode cX8_line 25 = .ok (.invokevirtual 216, 3) := by decide +kernel
theorem dX8_line_28 : decode cX8_line 28 = .ok (.goto 4, 3) := by decide +kernel
theorem dX8_line_31 : decode cX8_line 31 = .ok (.iconst (-1), 1) := by decide +kernel
theorem dX8_line_32 : decode cX8_line 32 = .ok (.ireturn, 1) := by decide +kernel
theorem dX8_clashOf_0 : decode cX8_clashOf 0 = .ok (.iconst 0, 1) := by decide +kernel
theorem dX8_clashOf_1 : decode cX8_clashOf 1 = .ok (.istore_n 3, 1) := by decide +kernel
theorem dX8_clashOf_2 : decode cX8_clashOf 2 = .ok (.iload_n 3, 1) := by decide +kernel
theorem dX8_clashOf_3 : decode cX8_clashOf 3 = .ok (.aload_n 0, 1) := by decide +kernel
theorem dX8_clashOf_4 : decode cX8_clashOf 4 = .ok (.getfield 35, 3) := by decide +kernel
theorem dX8_clashOf_7 : decode cX8_clashOf 7 = .ok (.if_icmp .ge 26, 3) := by decide +kernel
theorem dX8_clashOf_10 : decode cX8_clashOf 10 = .ok (.aload_n 0, 1) := by decide +kernel
theorem dX8_clashOf_11 : decode cX8_clashOf 11 = .ok (.iload_n 1, 1) := by decide +kernel
theorem dX8_clashOf_12 : decode cX8_clashOf 12 = .ok (.iload_n 3, 1) := by decide +kernel
theorem dX8_clashOf_13 : decode cX8_clashOf 13 = .ok (.invokevirtual 216, 3) := by decide +kernel
theorem dX8_clashOf_16 : decode cX8_clashOf 16 = .ok (.aload_n 0, 1) := by decide +kernel
theorem dX8_clashOf_17 : decode cX8_clashOf 17 = .ok (.iload_n 2, 1) := by decide +kernel
theorem dX8_clashOf_18 : decode cX8_clashOf 18 = .ok (.iload_n 3, 1) := by decide +kernel
theorem dX8_clashOf_19 : decode cX8_clashOf 19 = .ok (.invokevirtual 216, 3) := by decide +kernel
theorem dX8_clashOf_22 : decode cX8_clashOf 22 = .ok (.if_icmp .ne 5, 3) := by decide +kernel
theorem dX8_clashOf_25 : decode cX8_clashOf 25 = .ok (.iload_n 3, 1) := by decide +kernel
theorem dX8_clashOf_26 : decode cX8_clashOf 26 = .ok (.ireturn, 1) := by decide +kernel
theorem dX8_clashOf_27 : decode cX8_clashOf 27 = .ok (.iinc 3 1, 3) := by decide +kernel
theorem dX8_clashOf_30 : decode cX8_clashOf 30 = .ok (.goto (-28), 3) := by decide +kernel
theorem dX8_clashOf_33 : decode cX8_clashOf 33 = .ok (.bipush (-9), 2) := by decide +kernel
theorem dX8_clashOf_35 : decode cX8_clashOf 35 = .ok (.ireturn, 1) := by decide +kernel
theorem dX8_clash_0 : decode cX8_clash 0 = .ok (.aload_n 0, 1) := by decide +kernel
theorem dX8_clash_1 : decode cX8_clash 1 = .ok (.iload_n 1, 1) := by decide +kernel
theorem dX8_clash_2 : decode cX8_clash 2 = .ok (.invokevirtual 204, 3) := by decide +kernel
theorem dX8_clash_5 : decode cX8_clash 5 = .ok (.ifCond .eq 11, 3) := by decide +kernel
theorem dX8_clash_8 : decode cX8_clash 8 = .ok (.aload_n 0, 1) := by decide +kernel
theorem dX8_clash_9 : decode cX8_clash 9 = .ok (.iload_n 2, 1) := by decide +kernel
theorem dX8_clash_10 : decode cX8_clash 10 = .ok (.invokevirtual 204, 3) := by decide +kernel
theorem dX8_clash_13 : decode cX8_clash 13 = .ok (.ifCond .ne 5, 3) := by decide +kernel
theorem dX8_clash_16 : decode cX8_clash 16 = .ok (.iconst (-1), 1) := by decide +kernel
theorem dX8_clash_17 : decode cX8_clash 17 = .ok (.ireturn, 1) := by decide +kernel
theorem dX8_clash_18 : decode cX8_clash 18 = .ok (.iload_n 1, 1) := by decide +kernel
theorem dX8_clash_19 : decode cX8_clash 19 = .ok (.iload_n 2, 1) := by decide +kernel
theorem dX8_clash_20 : decode cX8_clash 20 = .ok (.if_icmp .ne 8, 3) := by decide +kernel
theorem dX8_clash_23 : decode cX8_clash 23 = .ok (.bipush (-3), 2) := by decide +kernel
theorem dX8_clash_25 : decode cX8_clash 25 = .ok (.goto 9, 3) := by decide +kernel
theorem dX8_clash_28 : decode cX8_clash 28 = .ok (.aload_n 0, 1) := by decide +kernel
theorem dX8_clash_29 : decode cX8_clash 29 = .ok (.iload_n 1, 1) := by decide +kernel
theorem dX8_clash_30 : decode cX8_clash 30 = .ok (.iload_n 2, 1) := by decide +kernel
theorem dX8_clash_31 : decode cX8_clash 31 = .ok (.invokevirtual 219, 3) := by decide +kernel
theorem dX8_clash_34 : decode cX8_clash 34 = .ok (.ireturn, 1) := by decide +kernel
theorem dX8_mayBe_0 : decode cX8_mayBe 0 = .ok (.iconst 0, 1) := by decide +kernel
theorem dX8_mayBe_1 : decode cX8_mayBe 1 = .ok (.istore_n 2, 1) := by decide +kernel
theorem dX8_mayBe_2 : decode cX8_mayBe 2 = .ok (.iload_n 2, 1) := by decide +kernel
theorem dX8_mayBe_3 : decode cX8_mayBe 3 = .ok (.iload_n 1, 1) := by decide +kernel
theorem dX8_mayBe_4 : decode cX8_mayBe 4 = .ok (.if_icmp .ge 37, 3) := by decide +kernel
theorem dX8_mayBe_7 : decode cX8_mayBe 7 = .ok (.aload_n 0, 1) := by decide +kernel
theorem dX8_mayBe_8 : decode cX8_mayBe 8 = .ok (.getfield 59, 3) := by decide +kernel
theorem dX8_mayBe_11 : decode cX8_mayBe 11 = .ok (.iload_n 2, 1) := by decide +kernel
theorem dX8_mayBe_12 : decode cX8_mayBe 12 = .ok (.iaload, 1) := by decide +kernel
theorem dX8_mayBe_13 : decode cX8_mayBe 13 = .ok (.aload_n 0, 1) := by decide +kernel
theorem dX8_mayBe_14 : decode cX8_mayBe 14 = .ok (.getfield 59, 3) := by decide +kernel
theorem dX8_mayBe_17 : decode cX8_mayBe 17 = .ok (.iload_n 1, 1) := by decide +kernel
theorem dX8_mayBe_18 : decode cX8_mayBe 18 = .ok (.iaload, 1) := by decide +kernel
theorem dX8_mayBe_19 : decode cX8_mayBe 19 = .ok (.if_icmp .ne 16, 3) := by decide +kernel
theorem dX8_mayBe_22 : decode cX8_mayBe 22 = .ok (.aload_n 0, 1) := by decide +kernel
theorem dX8_mayBe_23 : decode cX8_mayBe 23 = .ok (.iload_n 1, 1) := by decide +kernel
theorem dX8_mayBe_24 : decode cX8_mayBe 24 = .ok (.iload_n 2, 1) := by decide +kernel
theorem dX8_mayBe_25 : decode cX8_mayBe 25 = .ok (.invokevirtual 219, 3) := by decide +kernel
theorem dX8_mayBe_28 : decode cX8_mayBe 28 = .ok (.bipush (-9), 2) := by decide +kernel
theorem dX8_mayBe_30 : decode cX8_mayBe 30 = .ok (.if_icmp .eq 5, 3) := by decide +kernel
theorem dX8_mayBe_33 : decode cX8_mayBe 33 = .ok (.iconst 0, 1) := by decide +kernel
theorem dX8_mayBe_34 : decode cX8_mayBe 34 = .ok (.ireturn, 1) := by decide +kernel
theorem dX8_mayBe_35 : decode cX8_mayBe 35 = .ok (.iinc 2 1, 3) := by decide +kernel
theorem dX8_mayBe_38 : decode cX8_mayBe 38 = .ok (.goto (-36), 3) := by decide +kernel
theorem dX8_mayBe_41 : decode cX8_mayBe 41 = .ok (.iconst 1, 1) := by decide +kernel
theorem dX8_mayBe_42 : decode cX8_mayBe 42 = .ok (.ireturn, 1) := by decide +kernel
theorem dX8_setsAhead_0 : decode cX8_setsAhead 0 = .ok (.iconst 0, 1) := by decide +kernel
theorem dX8_setsAhead_1 : decode cX8_setsAhead 1 = .ok (.istore_n 2, 1) := by decide +kernel
theorem dX8_setsAhead_2 : decode cX8_setsAhead 2 = .ok (.iconst 0, 1) := by decide +kernel
theorem dX8_setsAhead_3 : decode cX8_setsAhead 3 = .ok (.istore_n 3, 1) := by decide +kernel
theorem dX8_setsAhead_4 : decode cX8_setsAhead 4 = .ok (.iload_n 3, 1) := by decide +kernel
theorem dX8_setsAhead_5 : decode cX8_setsAhead 5 = .ok (.iload_n 1, 1) := by decide +kernel
theorem dX8_setsAhead_6 : decode cX8_setsAhead 6 = .ok (.if_icmp .ge 34, 3) := by decide +kernel
theorem dX8_setsAhead_9 : decode cX8_setsAhead 9 = .ok (.aload_n 0, 1) := by decide +kernel
theorem dX8_setsAhead_10 : decode cX8_setsAhead 10 = .ok (.getfield 59, 3) := by decide +kernel
theorem dX8_setsAhead_13 : decode cX8_setsAhead 13 = .ok (.iload_n 3, 1) := by decide +kernel
theorem dX8_setsAhead_14 : decode cX8_setsAhead 14 = .ok (.iaload, 1) := by decide +kernel
theorem dX8_setsAhead_15 : decode cX8_setsAhead 15 = .ok (.iconst 1, 1) := by decide +kernel
theorem dX8_setsAhead_16 : decode cX8_setsAhead 16 = .ok (.iadd, 1) := by decide +kernel
theorem dX8_setsAhead_17 : decode cX8_setsAhead 17 = .ok (.iload_n 2, 1) := by decide +kernel
theorem dX8_setsAhead_18 : decode cX8_setsAhead 18 = .ok (.if_icmp .le 14, 3) := by decide +kernel
theorem dX8_setsAhead_21 : decode cX8_setsAhead 21 = .ok (.aload_n 0, 1) := by decide +kernel
theorem dX8_setsAhead_22 : decode cX8_setsAhead 22 = .ok (.getfield 59, 3) := by decide +kernel
theorem dX8_setsAhead_25 : decode cX8_setsAhead 25 = .ok (.iload_n 3, 1) := by decide +kernel
theorem dX8_setsAhead_26 : decode cX8_setsAhead 26 = .ok (.iaload, 1) := by decide +kernel
theorem dX8_setsAhead_27 : decode cX8_setsAhead 27 = .ok (.iconst 1, 1) := by decide +kernel
theorem dX8_setsAhead_28 : decode cX8_setsAhead 28 = .ok (.iadd, 1) := by decide +kernel
theorem dX8_setsAhead_29 : decode cX8_setsAhead 29 = .ok (.goto 4, 3) := by decide +kernel
theorem dX8_setsAhead_32 : decode cX8_setsAhead 32 = .ok (.iload_n 2, 1) := by decide +kernel
theorem dX8_setsAhead_33 : decode cX8_setsAhead 33 = .ok (.istore_n 2, 1) := by decide +kernel
theorem dX8_setsAhead_34 : decode cX8_setsAhead 34 = .ok (.iinc 3 1, 3) := by decide +kernel
theorem dX8_setsAhead_37 : decode cX8_setsAhead 37 = .ok (.goto (-33), 3) := by decide +kernel
theorem dX8_setsAhead_40 : decode cX8_setsAhead 40 = .ok (.iload_n 2, 1) := by decide +kernel
theorem dX8_setsAhead_41 : decode cX8_setsAhead 41 = .ok (.ireturn, 1) := by decide +kernel
theorem dX8_areEnough_0 : decode cX8_areEnough 0 = .ok (.iconst 0, 1) := by decide +kernel
theorem dX8_areEnough_1 : decode cX8_areEnough 1 = .ok (.istore_n 2, 1) := by decide +kernel
theorem dX8_areEnough_2 : decode cX8_areEnough 2 = .ok (.aload_n 0, 1) := by decide +kernel
theorem dX8_areEnough_3 : decode cX8_areEnough 3 = .ok (.getfield 59, 3) := by decide +kernel
theorem dX8_areEnough_6 : decode cX8_areEnough 6 = .ok (.iconst 0, 1) := by decide +kernel
theorem dX8_areEnough_7 : decode cX8_areEnough 7 = .ok (.iconst (-1), 1) := by decide +kernel
theorem dX8_areEnough_8 : decode cX8_areEnough 8 = .ok (.iastore, 1) := by decide +kernel
theorem dX8_areEnough_9 : decode cX8_areEnough 9 = .ok (.iload_n 2, 1) := by decide +kernel
theorem dX8_areEnough_10 : decode cX8_areEnough 10 = .ok (.ifCond .lt 79, 3) := by decide +kernel
theorem dX8_areEnough_13 : decode cX8_areEnough 13 = .ok (.aload_n 0, 1) := by decide +kernel
theorem dX8_areEnough_14 : decode cX8_areEnough 14 = .ok (.getfield 59, 3) := by decide +kernel
theorem dX8_areEnough_17 : decode cX8_areEnough 17 = .ok (.iload_n 2, 1) := by decide +kernel
theorem dX8_areEnough_18 : decode cX8_areEnough 18 = .ok (.dup2, 1) := by decide +kernel
theorem dX8_areEnough_19 : decode cX8_areEnough 19 = .ok (.iaload, 1) := by decide +kernel
theorem dX8_areEnough_20 : decode cX8_areEnough 20 = .ok (.iconst 1, 1) := by decide +kernel
theorem dX8_areEnough_21 : decode cX8_areEnough 21 = .ok (.iadd, 1) := by decide +kernel
theorem dX8_areEnough_22 : decode cX8_areEnough 22 = .ok (.iastore, 1) := by decide +kernel
theorem dX8_areEnough_23 : decode cX8_areEnough 23 = .ok (.aload_n 0, 1) := by decide +kernel
theorem dX8_areEnough_24 : decode cX8_areEnough 24 = .ok (.getfield 59, 3) := by decide +kernel
theorem dX8_areEnough_27 : decode cX8_areEnough 27 = .ok (.iload_n 2, 1) := by decide +kernel
theorem dX8_areEnough_28 : decode cX8_areEnough 28 = .ok (.iaload, 1) := by decide +kernel
theorem dX8_areEnough_29 : decode cX8_areEnough 29 = .ok (.aload_n 0, 1) := by decide +kernel
theorem dX8_areEnough_30 : decode cX8_areEnough 30 = .ok (.iload_n 2, 1) := by decide +kernel
theorem dX8_areEnough_31 : decode cX8_areEnough 31 = .ok (.invokevirtual 222, 3) := by decide +kernel
theorem dX8_areEnough_34 : decode cX8_areEnough 34 = .ok (.if_icmp .gt 13, 3) := by decide +kernel
theorem dX8_areEnough_37 : decode cX8_areEnough 37 = .ok (.aload_n 0, 1) := by decide +kernel
theorem dX8_areEnough_38 : decode cX8_areEnough 38 = .ok (.getfield 59, 3) := by decide +kernel
theorem dX8_areEnough_41 : decode cX8_areEnough 41 = .ok (.iload_n 2, 1) := by decide +kernel
theorem dX8_areEnough_42 : decode cX8_areEnough 42 = .ok (.iaload, 1) := by decide +kernel
theorem dX8_areEnough_43 : decode cX8_areEnough 43 = .ok (.iload_n 1, 1) := by decide +kernel
theorem dX8_areEnough_44 : decode cX8_areEnough 44 = .ok (.if_icmp .lt 9, 3) := by decide +kernel
theorem dX8_areEnough_47 : decode cX8_areEnough 47 = .ok (.iinc 2 (-1), 3) := by decide +kernel
theorem dX8_areEnough_50 : decode cX8_areEnough 50 = .ok (.goto (-41), 3) := by decide +kernel
theorem dX8_areEnough_53 : decode cX8_areEnough 53 = .ok (.aload_n 0, 1) := by decide +kernel
theorem dX8_areEnough_54 : decode cX8_areEnough 54 = .ok (.iload_n 2, 1) := by decide +kernel
theorem dX8_areEnough_55 : decode cX8_areEnough 55 = .ok (.invokevirtual 225, 3) := by decide +kernel
theorem dX8_areEnough_58 : decode cX8_areEnough 58 = .ok (.ifCond .ne 6, 3) := by decide +kernel
theorem dX8_areEnough_61 : decode cX8_areEnough 61 = .ok (.goto (-52), 3) := by decide +kernel
theorem dX8_areEnough_64 : decode cX8_areEnough 64 = .ok (.iload_n 2, 1) := by decide +kernel
theorem dX8_areEnough_65 : decode cX8_areEnough 65 = .ok (.aload_n 0, 1) := by decide +kernel
theorem dX8_areEnough_66 : decode cX8_areEnough 66 = .ok (.invokevirtual 201, 3) := by decide +kernel
theorem dX8_areEnough_69 : decode cX8_areEnough 69 = .ok (.iconst 1, 1) := by decide +kernel
theorem dX8_areEnough_70 : decode cX8_areEnough 70 = .ok (.isub, 1) := by decide +kernel
theorem dX8_areEnough_71 : decode cX8_areEnough 71 = .ok (.if_icmp .ne 5, 3) := by decide +kernel
theorem dX8_areEnough_74 : decode cX8_areEnough 74 = .ok (.iconst 1, 1) := by decide +kernel
theorem dX8_areEnough_75 : decode cX8_areEnough 75 = .ok (.ireturn, 1) := by decide +kernel
theorem dX8_areEnough_76 : decode cX8_areEnough 76 = .ok (.iinc 2 1, 3) := by decide +kernel
theorem dX8_areEnough_79 : decode cX8_areEnough 79 = .ok (.aload_n 0, 1) := by decide +kernel
theorem dX8_areEnough_80 : decode cX8_areEnough 80 = .ok (.getfield 59, 3) := by decide +kernel
theorem dX8_areEnough_83 : decode cX8_areEnough 83 = .ok (.iload_n 2, 1) := by decide +kernel
theorem dX8_areEnough_84 : decode cX8_areEnough 84 = .ok (.iconst (-1), 1) := by decide +kernel
theorem dX8_areEnough_85 : decode cX8_areEnough 85 = .ok (.iastore, 1) := by decide +kernel
theorem dX8_areEnough_86 : decode cX8_areEnough 86 = .ok (.goto (-77), 3) := by decide +kernel
theorem dX8_areEnough_89 : decode cX8_areEnough 89 = .ok (.iconst 0, 1) := by decide +kernel
theorem dX8_areEnough_90 : decode cX8_areEnough 90 = .ok (.ireturn, 1) := by decide +kernel
theorem dX8_findRounds_0 : decode cX8_findRounds 0 = .ok (.iconst 1, 1) := by decide +kernel
theorem dX8_findRounds_1 : decode cX8_findRounds 1 = .ok (.istore_n 1, 1) := by decide +kernel
theorem dX8_findRounds_2 : decode cX8_findRounds 2 = .ok (.aload_n 0, 1) := by decide +kernel
theorem dX8_findRounds_3 : decode cX8_findRounds 3 = .ok (.iload_n 1, 1) := by decide +kernel
theorem dX8_findRounds_4 : decode cX8_findRounds 4 = .ok (.invokevirtual 228, 3) := by decide +kernel
theorem dX8_findRounds_7 : decode cX8_findRounds 7 = .ok (.ifCond .ne 9, 3) := by decide +kernel
theorem dX8_findRounds_10 : decode cX8_findRounds 10 = .ok (.iinc 1 1, 3) := by decide +kernel
theorem dX8_findRounds_13 : decode cX8_findRounds 13 = .ok (.goto (-11), 3) := by decide +kernel
theorem dX8_findRounds_16 : decode cX8_findRounds 16 = .ok (.iload_n 1, 1) := by decide +kernel
theorem dX8_findRounds_17 : decode cX8_findRounds 17 = .ok (.ireturn, 1) := by decide +kernel
theorem dX8_rounds_0 : decode cX8_rounds 0 = .ok (.aload_n 0, 1) := by decide +kernel
theorem dX8_rounds_1 : decode cX8_rounds 1 = .ok (.invokevirtual 231, 3) := by decide +kernel
theorem dX8_rounds_4 : decode cX8_rounds 4 = .ok (.ireturn, 1) := by decide +kernel
theorem dX8_round_0 : decode cX8_round 0 = .ok (.aload_n 0, 1) := by decide +kernel
theorem dX8_round_1 : decode cX8_round 1 = .ok (.iload_n 1, 1) := by decide +kernel
theorem dX8_round_2 : decode cX8_round 2 = .ok (.invokevirtual 204, 3) := by decide +kernel
theorem dX8_round_5 : decode cX8_round 5 = .ok (.ifCond .ne 5, 3) := by decide +kernel
theorem dX8_round_8 : decode cX8_round 8 = .ok (.iconst (-1), 1) := by decide +kernel
theorem dX8_round_9 : decode cX8_round 9 = .ok (.ireturn, 1) := by decide +kernel
theorem dX8_round_10 : decode cX8_round 10 = .ok (.aload_n 0, 1) := by decide +kernel
theorem dX8_round_11 : decode cX8_round 11 = .ok (.invokevirtual 231, 3) := by decide +kernel
theorem dX8_round_14 : decode cX8_round 14 = .ok (.istore_n 2, 1) := by decide +kernel
theorem dX8_round_15 : decode cX8_round 15 = .ok (.aload_n 0, 1) := by decide +kernel
theorem dX8_round_16 : decode cX8_round 16 = .ok (.getfield 59, 3) := by decide +kernel
theorem dX8_round_19 : decode cX8_round 19 = .ok (.iload_n 1, 1) := by decide +kernel
theorem dX8_round_20 : decode cX8_round 20 = .ok (.iaload, 1) := by decide +kernel
theorem dX8_round_21 : decode cX8_round 21 = .ok (.ireturn, 1) := by decide +kernel
theorem dX8_wires_0 : decode cX8_wires 0 = .ok (.iload_n 1, 1) := by decide +kernel
theorem dX8_wires_1 : decode cX8_wires 1 = .ok (.iconst 2, 1) := by decide +kernel
theorem dX8_wires_2 : decode cX8_wires 2 = .ok (.bipush 8, 2) := by decide +kernel
theorem dX8_wires_4 : decode cX8_wires 4 = .ok (.invokestatic 116, 3) := by decide +kernel
theorem dX8_wires_7 : decode cX8_wires 7 = .ok (.ifCond .ne 6, 3) := by decide +kernel
theorem dX8_wires_10 : decode cX8_wires 10 = .ok (.bipush (-2), 2) := by decide +kernel
theorem dX8_wires_12 : decode cX8_wires 12 = .ok (.ireturn, 1) := by decide +kernel
theorem dX8_wires_13 : decode cX8_wires 13 = .ok (.aload_n 0, 1) := by decide +kernel
theorem dX8_wires_14 : decode cX8_wires 14 = .ok (.getfield 234, 3) := by decide +kernel
theorem dX8_wires_17 : decode cX8_wires 17 = .ok (.istore_n 2, 1) := by decide +kernel
theorem dX8_wires_18 : decode cX8_wires 18 = .ok (.aload_n 0, 1) := by decide +kernel
theorem dX8_wires_19 : decode cX8_wires 19 = .ok (.iload_n 1, 1) := by decide +kernel
theorem dX8_wires_20 : decode cX8_wires 20 = .ok (.putfield 62, 3) := by decide +kernel
theorem dX8_wires_23 : decode cX8_wires 23 = .ok (.aload_n 0, 1) := by decide +kernel
theorem dX8_wires_24 : decode cX8_wires 24 = .ok (.iconst 0, 1) := by decide +kernel
theorem dX8_wires_25 : decode cX8_wires 25 = .ok (.putfield 234, 3) := by decide +kernel
theorem dX8_wires_28 : decode cX8_wires 28 = .ok (.iload_n 2, 1) := by decide +kernel
theorem dX8_wires_29 : decode cX8_wires 29 = .ok (.ireturn, 1) := by decide +kernel
theorem dX8_isWire_0 : decode cX8_isWire 0 = .ok (.iload_n 1, 1) := by decide +kernel
theorem dX8_isWire_1 : decode cX8_isWire 1 = .ok (.ifCond .lt 15, 3) := by decide +kernel
theorem dX8_isWire_4 : decode cX8_isWire 4 = .ok (.iload_n 1, 1) := by decide +kernel
theorem dX8_isWire_5 : decode cX8_isWire 5 = .ok (.aload_n 0, 1) := by decide +kernel
theorem dX8_isWire_6 : decode cX8_isWire 6 = .ok (.getfield 62, 3) := by decide +kernel
theorem dX8_isWire_9 : decode cX8_isWire 9 = .ok (.if_icmp .ge 7, 3) := by decide +kernel
theorem dX8_isWire_12 : decode cX8_isWire 12 = .ok (.iconst 1, 1) := by decide +kernel
theorem dX8_isWire_13 : decode cX8_isWire 13 = .ok (.goto 4, 3) := by decide +kernel
theorem dX8_isWire_16 : decode cX8_isWire 16 = .ok (.iconst 0, 1) := by decide +kernel
theorem dX8_isWire_17 : decode cX8_isWire 17 = .ok (.ireturn, 1) := by decide +kernel
theorem dX8_compare_0 : decode cX8_compare 0 = .ok (.aload_n 0, 1) := by decide +kernel
theorem dX8_compare_1 : decode cX8_compare 1 = .ok (.iload_n 1, 1) := by decide +kernel
theorem dX8_compare_2 : decode cX8_compare 2 = .ok (.invokevirtual 237, 3) := by decide +kernel
theorem dX8_compare_5 : decode cX8_compare 5 = .ok (.ifCond .eq 11, 3) := by decide +kernel
theorem dX8_compare_8 : decode cX8_compare 8 = .ok (.aload_n 0, 1) := by decide +kernel
theorem dX8_compare_9 : decode cX8_compare 9 = .ok (.iload_n 2, 1) := by decide +kernel
theorem dX8_compare_10 : decode cX8_compare 10 = .ok (.invokevirtual 237, 3) := by decide +kernel
theorem dX8_compare_13 : decode cX8_compare 13 = .ok (.ifCond .ne 5, 3) := by decide +kernel
theorem dX8_compare_16 : decode cX8_compare 16 = .ok (.iconst (-1), 1) := by decide +kernel
theorem dX8_compare_17 : decode cX8_compare 17 = .ok (.ireturn, 1) := by decide +kernel
theorem dX8_compare_18 : decode cX8_compare 18 = .ok (.iload_n 1, 1) := by decide +kernel
theorem dX8_compare_19 : decode cX8_compare 19 = .ok (.iload_n 2, 1) := by decide +kernel
theorem dX8_compare_20 : decode cX8_compare 20 = .ok (.if_icmp .ne 6, 3) := by decide +kernel
theorem dX8_compare_23 : decode cX8_compare 23 = .ok (.bipush (-2), 2) := by decide +kernel
theorem dX8_compare_25 : decode cX8_compare 25 = .ok (.ireturn, 1) := by decide +kernel
theorem dX8_compare_26 : decode cX8_compare 26 = .ok (.aload_n 0, 1) := by decide +kernel
theorem dX8_compare_27 : decode cX8_compare 27 = .ok (.getfield 234, 3) := by decide +kernel
theorem dX8_compare_30 : decode cX8_compare 30 = .ok (.bipush 30, 2) := by decide +kernel
theorem dX8_compare_32 : decode cX8_compare 32 = .ok (.if_icmp .ne 6, 3) := by decide +kernel
theorem dX8_compare_35 : decode cX8_compare 35 = .ok (.bipush (-4), 2) := by decide +kernel
theorem dX8_compare_37 : decode cX8_compare 37 = .ok (.ireturn, 1) := by decide +kernel
theorem dX8_compare_38 : decode cX8_compare 38 = .ok (.aload_n 0, 1) := by decide +kernel
theorem dX8_compare_39 : decode cX8_compare 39 = .ok (.getfield 65, 3) := by decide +kernel
theorem dX8_compare_42 : decode cX8_compare 42 = .ok (.aload_n 0, 1) := by decide +kernel
theorem dX8_compare_43 : decode cX8_compare 43 = .ok (.getfield 234, 3) := by decide +kernel
theorem dX8_compare_46 : decode cX8_compare 46 = .ok (.iload_n 1, 1) := by decide +kernel
theorem dX8_compare_47 : decode cX8_compare 47 = .ok (.iastore, 1) := by decide +kernel
theorem dX8_compare_48 : decode cX8_compare 48 = .ok (.aload_n 0, 1) := by decide +kernel
theorem dX8_compare_49 : decode cX8_compare 49 = .ok (.getfield 68, 3) := by decide +kernel
theorem dX8_compare_52 : decode cX8_compare 52 = .ok (.aload_n 0, 1) := by decide +kernel
theorem dX8_compare_53 : decode cX8_compare 53 = .ok (.getfield 234, 3) := by decide +kernel
theorem dX8_compare_56 : decode cX8_compare 56 = .ok (.iload_n 2, 1) := by decide +kernel
theorem dX8_compare_57 : decode cX8_compare 57 = .ok (.iastore, 1) := by decide +kernel
theorem dX8_compare_58 : decode cX8_compare 58 = .ok (.aload_n 0, 1) := by decide +kernel
theorem dX8_compare_59 : decode cX8_compare 59 = .ok (.dup, 1) := by decide +kernel
theorem dX8_compare_60 : decode cX8_compare 60 = .ok (.getfield 234, 3) := by decide +kernel
theorem dX8_compare_63 : decode cX8_compare 63 = .ok (.iconst 1, 1) := by decide +kernel
theorem dX8_compare_64 : decode cX8_compare 64 = .ok (.iadd, 1) := by decide +kernel
theorem dX8_compare_65 : decode cX8_compare 65 = .ok (.putfield 234, 3) := by decide +kernel
theorem dX8_compare_68 : decode cX8_compare 68 = .ok (.aload_n 0, 1) := by decide +kernel
theorem dX8_compare_69 : decode cX8_compare 69 = .ok (.getfield 234, 3) := by decide +kernel
theorem dX8_compare_72 : decode cX8_compare 72 = .ok (.iconst 1, 1) := by decide +kernel
theorem dX8_compare_73 : decode cX8_compare 73 = .ok (.isub, 1) := by decide +kernel
theorem dX8_compare_74 : decode cX8_compare 74 = .ok (.ireturn, 1) := by decide +kernel
theorem dX8_back_0 : decode cX8_back 0 = .ok (.aload_n 0, 1) := by decide +kernel
theorem dX8_back_1 : decode cX8_back 1 = .ok (.getfield 234, 3) := by decide +kernel
theorem dX8_back_4 : decode cX8_back 4 = .ok (.ifCond .ne 6, 3) := by decide +kernel
theorem dX8_back_7 : decode cX8_back 7 = .ok (.bipush (-3), 2) := by decide +kernel
theorem dX8_back_9 : decode cX8_back 9 = .ok (.ireturn, 1) := by decide +kernel
theorem dX8_back_10 : decode cX8_back 10 = .ok (.aload_n 0, 1) := by decide +kernel
theorem dX8_back_11 : decode cX8_back 11 = .ok (.dup, 1) := by decide +kernel
theorem dX8_back_12 : decode cX8_back 12 = .ok (.getfield 234, 3) := by decide +kernel
theorem dX8_back_15 : decode cX8_back 15 = .ok (.iconst 1, 1) := by decide +kernel
theorem dX8_back_16 : decode cX8_back 16 = .ok (.isub, 1) := by decide +kernel
theorem dX8_back_17 : decode cX8_back 17 = .ok (.putfield 234, 3) := by decide +kernel
theorem dX8_back_20 : decode cX8_back 20 = .ok (.aload_n 0, 1) := by decide +kernel
theorem dX8_back_21 : decode cX8_back 21 = .ok (.getfield 234, 3) := by decide +kernel
theorem dX8_back_24 : decode cX8_back 24 = .ok (.ireturn, 1) := by decide +kernel
theorem dX8_through_0 : decode cX8_through 0 = .ok (.iload_n 1, 1) := by decide +kernel
theorem dX8_through_1 : decode cX8_through 1 = .ok (.istore_n 3, 1) := by decide +kernel
theorem dX8_through_2 : decode cX8_through 2 = .ok (.iconst 0, 1) := by decide +kernel
theorem dX8_through_3 : decode cX8_through 3 = .ok (.istore 4, 2) := by decide +kernel
theorem dX8_through_5 : decode cX8_through 5 = .ok (.iload 4, 2) := by decide +kernel
theorem dX8_through_7 : decode cX8_through 7 = .ok (.iload_n 2, 1) := by decide +kernel
theorem dX8_through_8 : decode cX8_through 8 = .ok (.if_icmp .ge 58, 3) := by decide +kernel
theorem dX8_through_11 : decode cX8_through 11 = .ok (.aload_n 0, 1) := by decide +kernel
theorem dX8_through_12 : decode cX8_through 12 = .ok (.getfield 65, 3) := by decide +kernel
theorem dX8_through_15 : decode cX8_through 15 = .ok (.iload 4, 2) := by decide +kernel
theorem dX8_through_17 : decode cX8_through 17 = .ok (.iaload, 1) := by decide +kernel
theorem dX8_through_18 : decode cX8_through 18 = .ok (.istore 5, 2) := by decide +kernel
theorem dX8_through_20 : decode cX8_through 20 = .ok (.aload_n 0, 1) := by decide +kernel
theorem dX8_through_21 : decode cX8_through 21 = .ok (.getfield 68, 3) := by decide +kernel
theorem dX8_through_24 : decode cX8_through 24 = .ok (.iload 4, 2) := by decide +kernel
theorem dX8_through_26 : decode cX8_through 26 = .ok (.iaload, 1) := by decide +kernel
theorem dX8_through_27 : decode cX8_through 27 = .ok (.istore 6, 2) := by decide +kernel
theorem dX8_through_29 : decode cX8_through 29 = .ok (.iload_n 3, 1) := by decide +kernel
theorem dX8_through_30 : decode cX8_through 30 = .ok (.iload 5, 2) := by decide +kernel
theorem dX8_through_32 : decode cX8_through 32 = .ok (.ishr, 1) := by decide +kernel
theorem dX8_through_33 : decode cX8_through 33 = .ok (.iconst 1, 1) := by decide +kernel
theorem dX8_through_34 : decode cX8_through 34 = .ok (.iand, 1) := by decide +kernel
theorem dX8_through_35 : decode cX8_through 35 = .ok (.iconst 1, 1) := by decide +kernel
theorem dX8_through_36 : decode cX8_through 36 = .ok (.if_icmp .ne 24, 3) := by decide +kernel
theorem dX8_through_39 : decode cX8_through 39 = .ok (.iload_n 3, 1) := by decide +kernel
theorem dX8_through_40 : decode cX8_through 40 = .ok (.iload 6, 2) := by decide +kernel
theorem dX8_through_42 : decode cX8_through 42 = .ok (.ishr, 1) := by decide +kernel
theorem dX8_through_43 : decode cX8_through 43 = .ok (.iconst 1, 1) := by decide +kernel
theorem dX8_through_44 : decode cX8_through 44 = .ok (.iand, 1) := by decide +kernel
theorem dX8_through_45 : decode cX8_through 45 = .ok (.ifCond .ne 15, 3) := by decide +kernel
theorem dX8_through_48 : decode cX8_through 48 = .ok (.iload_n 3, 1) := by decide +kernel
theorem dX8_through_49 : decode cX8_through 49 = .ok (.iconst 1, 1) := by decide +kernel
theorem dX8_through_50 : decode cX8_through 50 = .ok (.iload 5, 2) := by decide +kernel
theorem dX8_through_52 : decode cX8_through 52 = .ok (.ishl, 1) := by decide +kernel
theorem dX8_through_53 : decode cX8_through 53 = .ok (.iconst 1, 1) := by decide +kernel
theorem dX8_through_54 : decode cX8_through 54 = .ok (.iload 6, 2) := by decide +kernel
theorem dX8_through_56 : decode cX8_through 56 = .ok (.ishl, 1) := by decide +kernel
theorem dX8_through_57 : decode cX8_through 57 = .ok (.ior, 1) := by decide +kernel
theorem dX8_through_58 : decode cX8_through 58 = .ok (.ixor, 1) := by decide +kernel
theorem dX8_through_59 : decode cX8_through 59 = .ok (.istore_n 3, 1) := by decide +kernel
theorem dX8_through_60 : decode cX8_through 60 = .ok (.iinc 4 1, 3) := by decide +kernel
theorem dX8_through_63 : decode cX8_through 63 = .ok (.goto (-58), 3) := by decide +kernel
theorem dX8_through_66 : decode cX8_through 66 = .ok (.iload_n 3, 1) := by decide +kernel
theorem dX8_through_67 : decode cX8_through 67 = .ok (.ireturn, 1) := by decide +kernel
theorem dX8_isInOrder_0 : decode cX8_isInOrder 0 = .ok (.iconst 0, 1) := by decide +kernel
theorem dX8_isInOrder_1 : decode cX8_isInOrder 1 = .ok (.istore_n 2, 1) := by decide +kernel
theorem dX8_isInOrder_2 : decode cX8_isInOrder 2 = .ok (.iload_n 2, 1) := by decide +kernel
theorem dX8_isInOrder_3 : decode cX8_isInOrder 3 = .ok (.iconst 1, 1) := by decide +kernel
theorem dX8_isInOrder_4 : decode cX8_isInOrder 4 = .ok (.iadd, 1) := by decide +kernel
theorem dX8_isInOrder_5 : decode cX8_isInOrder 5 = .ok (.aload_n 0, 1) := by decide +kernel
theorem dX8_isInOrder_6 : decode cX8_isInOrder 6 = .ok (.getfield 62, 3) := by decide +kernel
theorem dX8_isInOrder_9 : decode cX8_isInOrder 9 = .ok (.if_icmp .ge 26, 3) := by decide +kernel
theorem dX8_isInOrder_12 : decode cX8_isInOrder 12 = .ok (.iload_n 1, 1) := by decide +kernel
theorem dX8_isInOrder_13 : decode cX8_isInOrder 13 = .ok (.iload_n 2, 1) := by decide +kernel
theorem dX8_isInOrder_14 : decode cX8_isInOrder 14 = .ok (.ishr, 1) := by decide +kernel
theorem dX8_isInOrder_15 : decode cX8_isInOrder 15 = .ok (.iconst 1, 1) := by decide +kernel
theorem dX8_isInOrder_16 : decode cX8_isInOrder 16 = .ok (.iand, 1) := by decide +kernel
theorem dX8_isInOrder_17 : decode cX8_isInOrder 17 = .ok (.iload_n 1, 1) := by decide +kernel
theorem dX8_isInOrder_18 : decode cX8_isInOrder 18 = .ok (.iload_n 2, 1) := by decide +kernel
theorem dX8_isInOrder_19 : decode cX8_isInOrder 19 = .ok (.iconst 1, 1) := by decide +kernel
theorem dX8_isInOrder_20 : decode cX8_isInOrder 20 = .ok (.iadd, 1) := by decide +kernel
theorem dX8_isInOrder_21 : decode cX8_isInOrder 21 = .ok (.ishr, 1) := by decide +kernel
theorem dX8_isInOrder_22 : decode cX8_isInOrder 22 = .ok (.iconst 1, 1) := by decide +kernel
theorem dX8_isInOrder_23 : decode cX8_isInOrder 23 = .ok (.iand, 1) := by decide +kernel
theorem dX8_isInOrder_24 : decode cX8_isInOrder 24 = .ok (.if_icmp .le 5, 3) := by decide +kernel
theorem dX8_isInOrder_27 : decode cX8_isInOrder 27 = .ok (.iconst 0, 1) := by decide +kernel
theorem dX8_isInOrder_28 : decode cX8_isInOrder 28 = .ok (.ireturn, 1) := by decide +kernel
theorem dX8_isInOrder_29 : decode cX8_isInOrder 29 = .ok (.iinc 2 1, 3) := by decide +kernel
theorem dX8_isInOrder_32 : decode cX8_isInOrder 32 = .ok (.goto (-30), 3) := by decide +kernel
theorem dX8_isInOrder_35 : decode cX8_isInOrder 35 = .ok (.iconst 1, 1) := by decide +kernel
theorem dX8_isInOrder_36 : decode cX8_isInOrder 36 = .ok (.ireturn, 1) := by decide +kernel
theorem dX8_isIdle_0 : decode cX8_isIdle 0 = .ok (.iconst 0, 1) := by decide +kernel
theorem dX8_isIdle_1 : decode cX8_isIdle 1 = .ok (.istore_n 2, 1) := by decide +kernel
theorem dX8_isIdle_2 : decode cX8_isIdle 2 = .ok (.iload_n 2, 1) := by decide +kernel
theorem dX8_isIdle_3 : decode cX8_isIdle 3 = .ok (.iconst 1, 1) := by decide +kernel
theorem dX8_isIdle_4 : decode cX8_isIdle 4 = .ok (.aload_n 0, 1) := by decide +kernel
theorem dX8_isIdle_5 : decode cX8_isIdle 5 = .ok (.getfield 62, 3) := by decide +kernel
theorem dX8_isIdle_8 : decode cX8_isIdle 8 = .ok (.ishl, 1) := by decide +kernel
theorem dX8_isIdle_9 : decode cX8_isIdle 9 = .ok (.if_icmp .ge 45, 3) := by decide +kernel
theorem dX8_isIdle_12 : decode cX8_isIdle 12 = .ok (.aload_n 0, 1) := by decide +kernel
theorem dX8_isIdle_13 : decode cX8_isIdle 13 = .ok (.iload_n 2, 1) := by decide +kernel
theorem dX8_isIdle_14 : decode cX8_isIdle 14 = .ok (.iload_n 1, 1) := by decide +kernel
theorem dX8_isIdle_15 : decode cX8_isIdle 15 = .ok (.invokevirtual 240, 3) := by decide +kernel
theorem dX8_isIdle_18 : decode cX8_isIdle 18 = .ok (.istore_n 3, 1) := by decide +kernel
theorem dX8_isIdle_19 : decode cX8_isIdle 19 = .ok (.iload_n 3, 1) := by decide +kernel
theorem dX8_isIdle_20 : decode cX8_isIdle 20 = .ok (.aload_n 0, 1) := by decide +kernel
theorem dX8_isIdle_21 : decode cX8_isIdle 21 = .ok (.getfield 65, 3) := by decide +kernel
theorem dX8_isIdle_24 : decode cX8_isIdle 24 = .ok (.iload_n 1, 1) := by decide +kernel
theorem dX8_isIdle_25 : decode cX8_isIdle 25 = .ok (.iaload, 1) := by decide +kernel
theorem dX8_isIdle_26 : decode cX8_isIdle 26 = .ok (.ishr, 1) := by decide +kernel
theorem dX8_isIdle_27 : decode cX8_isIdle 27 = .ok (.iconst 1, 1) := by decide +kernel
theorem dX8_isIdle_28 : decode cX8_isIdle 28 = .ok (.iand, 1) := by decide +kernel
theorem dX8_isIdle_29 : decode cX8_isIdle 29 = .ok (.iconst 1, 1) := by decide +kernel
theorem dX8_isIdle_30 : decode cX8_isIdle 30 = .ok (.if_icmp .ne 18, 3) := by decide +kernel
theorem dX8_isIdle_33 : decode cX8_isIdle 33 = .ok (.iload_n 3, 1) := by decide +kernel
theorem dX8_isIdle_34 : decode cX8_isIdle 34 = .ok (.aload_n 0, 1) := by decide +kernel
theorem dX8_isIdle_35 : decode cX8_isIdle 35 = .ok (.getfield 68, 3) := by decide +kernel
theorem dX8_isIdle_38 : decode cX8_isIdle 38 = .ok (.iload_n 1, 1) := by decide +kernel
theorem dX8_isIdle_39 : decode cX8_isIdle 39 = .ok (.iaload, 1) := by decide +kernel
theorem dX8_isIdle_40 : decode cX8_isIdle 40 = .ok (.ishr, 1) := by decide +kernel
theorem dX8_isIdle_41 : decode cX8_isIdle 41 = .ok (.iconst 1, 1) := by decide +kernel
theorem dX8_isIdle_42 : decode cX8_isIdle 42 = .ok (.iand, 1) := by decide +kernel
theorem dX8_isIdle_43 : decode cX8_isIdle 43 = .ok (.ifCond .ne 5, 3) := by decide +kernel
theorem dX8_isIdle_46 : decode cX8_isIdle 46 = .ok (.iconst 0, 1) := by decide +kernel
theorem dX8_isIdle_47 : decode cX8_isIdle 47 = .ok (.ireturn, 1) := by decide +kernel
theorem dX8_isIdle_48 : decode cX8_isIdle 48 = .ok (.iinc 2 1, 3) := by decide +kernel
theorem dX8_isIdle_51 : decode cX8_isIdle 51 = .ok (.goto (-49), 3) := by decide +kernel
theorem dX8_isIdle_54 : decode cX8_isIdle 54 = .ok (.iconst 1, 1) := by decide +kernel
theorem dX8_isIdle_55 : decode cX8_isIdle 55 = .ok (.ireturn, 1) := by decide +kernel
theorem dX8_step_0 : decode cX8_step 0 = .ok (.iconst 0, 1) := by decide +kernel
theorem dX8_step_1 : decode cX8_step 1 = .ok (.istore_n 2, 1) := by decide +kernel
theorem dX8_step_2 : decode cX8_step 2 = .ok (.iconst 0, 1) := by decide +kernel
theorem dX8_step_3 : decode cX8_step 3 = .ok (.istore_n 3, 1) := by decide +kernel
theorem dX8_step_4 : decode cX8_step 4 = .ok (.iload_n 3, 1) := by decide +kernel
theorem dX8_step_5 : decode cX8_step 5 = .ok (.bipush 8, 2) := by decide +kernel
theorem dX8_step_7 : decode cX8_step 7 = .ok (.if_icmp .ge 16, 3) := by decide +kernel
theorem dX8_step_10 : decode cX8_step 10 = .ok (.aload_n 0, 1) := by decide +kernel
theorem dX8_step_11 : decode cX8_step 11 = .ok (.getfield 71, 3) := by decide +kernel
theorem dX8_step_14 : decode cX8_step 14 = .ok (.iload_n 3, 1) := by decide +kernel
theorem dX8_step_15 : decode cX8_step 15 = .ok (.iconst 0, 1) := by decide +kernel
theorem dX8_step_16 : decode cX8_step 16 = .ok (.iastore, 1) := by decide +kernel
theorem dX8_step_17 : decode cX8_step 17 = .ok (.iinc 3 1, 3) := by decide +kernel
theorem dX8_step_20 : decode cX8_step 20 = .ok (.goto (-16), 3) := by decide +kernel
theorem dX8_step_23 : decode cX8_step 23 = .ok (.iconst 0, 1) := by decide +kernel
theorem dX8_step_24 : decode cX8_step 24 = .ok (.istore_n 3, 1) := by decide +kernel
theorem dX8_step_25 : decode cX8_step 25 = .ok (.iload_n 3, 1) := by decide +kernel
theorem dX8_step_26 : decode cX8_step 26 = .ok (.aload_n 0, 1) := by decide +kernel
theorem dX8_step_27 : decode cX8_step 27 = .ok (.getfield 234, 3) := by decide +kernel
theorem dX8_step_30 : decode cX8_step 30 = .ok (.if_icmp .ge 116, 3) := by decide +kernel
theorem dX8_step_33 : decode cX8_step 33 = .ok (.aload_n 0, 1) := by decide +kernel
theorem dX8_step_34 : decode cX8_step 34 = .ok (.getfield 71, 3) := by decide +kernel
theorem dX8_step_37 : decode cX8_step 37 = .ok (.aload_n 0, 1) := by decide +kernel
theorem dX8_step_38 : decode cX8_step 38 = .ok (.getfield 65, 3) := by decide +kernel
theorem dX8_step_41 : decode cX8_step 41 = .ok (.iload_n 3, 1) := by decide +kernel
theorem dX8_step_42 : decode cX8_step 42 = .ok (.iaload, 1) := by decide +kernel
theorem dX8_step_43 : decode cX8_step 43 = .ok (.iaload, 1) := by decide +kernel
theorem dX8_step_44 : decode cX8_step 44 = .ok (.aload_n 0, 1) := by decide +kernel
theorem dX8_step_45 : decode cX8_step 45 = .ok (.getfield 71, 3) := by decide +kernel
theorem dX8_step_48 : decode cX8_step 48 = .ok (.aload_n 0, 1) := by decide +kernel
theorem dX8_step_49 : decode cX8_step 49 = .ok (.getfield 68, 3) := by decide +kernel
theorem dX8_step_52 : decode cX8_step 52 = .ok (.iload_n 3, 1) := by decide +kernel
theorem dX8_step_53 : decode cX8_step 53 = .ok (.iaload, 1) := by decide +kernel
theorem dX8_step_54 : decode cX8_step 54 = .ok (.iaload, 1) := by decide +kernel
theorem dX8_step_55 : decode cX8_step 55 = .ok (.if_icmp .le 17, 3) := by decide +kernel
theorem dX8_step_58 : decode cX8_step 58 = .ok (.aload_n 0, 1) := by decide +kernel
theorem dX8_step_59 : decode cX8_step 59 = .ok (.getfield 71, 3) := by decide +kernel
theorem dX8_step_62 : decode cX8_step 62 = .ok (.aload_n 0, 1) := by decide +kernel
theorem dX8_step_63 : decode cX8_step 63 = .ok (.getfield 65, 3) := by decide +kernel
theorem dX8_step_66 : decode cX8_step 66 = .ok (.iload_n 3, 1) := by decide +kernel
theorem dX8_step_67 : decode cX8_step 67 = .ok (.iaload, 1) := by decide +kernel
theorem dX8_step_68 : decode cX8_step 68 = .ok (.iaload, 1) := by decide +kernel
theorem dX8_step_69 : decode cX8_step 69 = .ok (.goto 14, 3) := by decide +kernel
theorem dX8_step_72 : decode cX8_step 72 = .ok (.aload_n 0, 1) := by decide +kernel
theorem dX8_step_73 : decode cX8_step 73 = .ok (.getfield 71, 3) := by decide +kernel
theorem dX8_step_76 : decode cX8_step 76 = .ok (.aload_n 0, 1) := by decide +kernel
theorem dX8_step_77 : decode cX8_step 77 = .ok (.getfield 68, 3) := by decide +kernel
theorem dX8_step_80 : decode cX8_step 80 = .ok (.iload_n 3, 1) := by decide +kernel
theorem dX8_step_81 : decode cX8_step 81 = .ok (.iaload, 1) := by decide +kernel
theorem dX8_step_82 : decode cX8_step 82 = .ok (.iaload, 1) := by decide +kernel
theorem dX8_step_83 : decode cX8_step 83 = .ok (.istore 4, 2) := by decide +kernel
theorem dX8_step_85 : decode cX8_step 85 = .ok (.iload_n 3, 1) := by decide +kernel
theorem dX8_step_86 : decode cX8_step 86 = .ok (.iload_n 1, 1) := by decide +kernel
theorem dX8_step_87 : decode cX8_step 87 = .ok (.if_icmp .ne 6, 3) := by decide +kernel
theorem dX8_step_90 : decode cX8_step 90 = .ok (.iload 4, 2) := by decide +kernel
theorem dX8_step_92 : decode cX8_step 92 = .ok (.ireturn, 1) := by decide +kernel
theorem dX8_step_93 : decode cX8_step 93 = .ok (.aload_n 0, 1) := by decide +kernel
theorem dX8_step_94 : decode cX8_step 94 = .ok (.getfield 71, 3) := by decide +kernel
theorem dX8_step_97 : decode cX8_step 97 = .ok (.aload_n 0, 1) := by decide +kernel
theorem dX8_step_98 : decode cX8_step 98 = .ok (.getfield 65, 3) := by decide +kernel
theorem dX8_step_101 : decode cX8_step 101 = .ok (.iload_n 3, 1) := by decide +kernel
theorem dX8_step_102 : decode cX8_step 102 = .ok (.iaload, 1) := by decide +kernel
theorem dX8_step_103 : decode cX8_step 103 = .ok (.iload 4, 2) := by decide +kernel
theorem dX8_step_105 : decode cX8_step 105 = .ok (.iconst 1, 1) := by decide +kernel
theorem dX8_step_106 : decode cX8_step 106 = .ok (.iadd, 1) := by decide +kernel
theorem dX8_step_107 : decode cX8_step 107 = .ok (.iastore, 1) := by decide +kernel
theorem dX8_step_108 : decode cX8_step 108 = .ok (.aload_n 0, 1) := by decide +kernel
theorem dX8_step_109 : decode cX8_step 109 = .ok (.getfield 71, 3) := by decide +kernel
theorem dX8_step_112 : decode cX8_step 112 = .ok (.aload_n 0, 1) := by decide +kernel
theorem dX8_step_113 : decode cX8_step 113 = .ok (.getfield 68, 3) := by decide +kernel
theorem dX8_step_116 : decode cX8_step 116 = .ok (.iload_n 3, 1) := by decide +kernel
theorem dX8_step_117 : decode cX8_step 117 = .ok (.iaload, 1) := by decide +kernel
theorem dX8_step_118 : decode cX8_step 118 = .ok (.iload 4, 2) := by decide +kernel
theorem dX8_step_120 : decode cX8_step 120 = .ok (.iconst 1, 1) := by decide +kernel
theorem dX8_step_121 : decode cX8_step 121 = .ok (.iadd, 1) := by decide +kernel
theorem dX8_step_122 : decode cX8_step 122 = .ok (.iastore, 1) := by decide +kernel
theorem dX8_step_123 : decode cX8_step 123 = .ok (.iload 4, 2) := by decide +kernel
theorem dX8_step_125 : decode cX8_step 125 = .ok (.iconst 1, 1) := by decide +kernel
theorem dX8_step_126 : decode cX8_step 126 = .ok (.iadd, 1) := by decide +kernel
theorem dX8_step_127 : decode cX8_step 127 = .ok (.iload_n 2, 1) := by decide +kernel
theorem dX8_step_128 : decode cX8_step 128 = .ok (.if_icmp .le 10, 3) := by decide +kernel
theorem dX8_step_131 : decode cX8_step 131 = .ok (.iload 4, 2) := by decide +kernel
theorem dX8_step_133 : decode cX8_step 133 = .ok (.iconst 1, 1) := by decide +kernel
theorem dX8_step_134 : decode cX8_step 134 = .ok (.iadd, 1) := by decide +kernel
theorem dX8_step_135 : decode cX8_step 135 = .ok (.goto 4, 3) := by decide +kernel
theorem dX8_step_138 : decode cX8_step 138 = .ok (.iload_n 2, 1) := by decide +kernel
theorem dX8_step_139 : decode cX8_step 139 = .ok (.istore_n 2, 1) := by decide +kernel
theorem dX8_step_140 : decode cX8_step 140 = .ok (.iinc 3 1, 3) := by decide +kernel
theorem dX8_step_143 : decode cX8_step 143 = .ok (.goto (-118), 3) := by decide +kernel
theorem dX8_step_146 : decode cX8_step 146 = .ok (.iload_n 2, 1) := by decide +kernel
theorem dX8_step_147 : decode cX8_step 147 = .ok (.ireturn, 1) := by decide +kernel
theorem dX8_sorter_0 : decode cX8_sorter 0 = .ok (.iload_n 1, 1) := by decide +kernel
theorem dX8_sorter_1 : decode cX8_sorter 1 = .ok (.iconst 0, 1) := by decide +kernel
theorem dX8_sorter_2 : decode cX8_sorter 2 = .ok (.iconst 5, 1) := by decide +kernel
theorem dX8_sorter_3 : decode cX8_sorter 3 = .ok (.invokestatic 116, 3) := by decide +kernel
theorem dX8_sorter_6 : decode cX8_sorter 6 = .ok (.ifCond .ne 6, 3) := by decide +kernel
theorem dX8_sorter_9 : decode cX8_sorter 9 = .ok (.bipush (-2), 2) := by decide +kernel
theorem dX8_sorter_11 : decode cX8_sorter 11 = .ok (.ireturn, 1) := by decide +kernel
theorem dX8_sorter_12 : decode cX8_sorter 12 = .ok (.iload_n 1, 1) := by decide +kernel
theorem dX8_sorter_13 : decode cX8_sorter 13 = .ok (.iconst 2, 1) := by decide +kernel
theorem dX8_sorter_14 : decode cX8_sorter 14 = .ok (.if_icmp .ge 23, 3) := by decide +kernel
theorem dX8_sorter_17 : decode cX8_sorter 17 = .ok (.iload_n 1, 1) := by decide +kernel
theorem dX8_sorter_18 : decode cX8_sorter 18 = .ok (.ifCond .ne 10, 3) := by decide +kernel
theorem dX8_sorter_21 : decode cX8_sorter 21 = .ok (.aload_n 0, 1) := by decide +kernel
theorem dX8_sorter_22 : decode cX8_sorter 22 = .ok (.getfield 234, 3) := by decide +kernel
theorem dX8_sorter_25 : decode cX8_sorter 25 = .ok (.goto 11, 3) := by decide +kernel
theorem dX8_sorter_28 : decode cX8_sorter 28 = .ok (.aload_n 0, 1) := by decide +kernel
theorem dX8_sorter_29 : decode cX8_sorter 29 = .ok (.aload_n 0, 1) := by decide +kernel
theorem dX8_sorter_30 : decode cX8_sorter 30 = .ok (.getfield 234, 3) := by decide +kernel
theorem dX8_sorter_33 : decode cX8_sorter 33 = .ok (.invokevirtual 243, 3) := by decide +kernel
theorem dX8_sorter_36 : decode cX8_sorter 36 = .ok (.ireturn, 1) := by decide +kernel
theorem dX8_sorter_37 : decode cX8_sorter 37 = .ok (.iconst 0, 1) := by decide +kernel
theorem dX8_sorter_38 : decode cX8_sorter 38 = .ok (.istore_n 2, 1) := by decide +kernel
theorem dX8_sorter_39 : decode cX8_sorter 39 = .ok (.iload_n 1, 1) := by decide +kernel
theorem dX8_sorter_40 : decode cX8_sorter 40 = .ok (.iconst 5, 1) := by decide +kernel
theorem dX8_sorter_41 : decode cX8_sorter 41 = .ok (.if_icmp .ne 37, 3) := by decide +kernel
theorem dX8_sorter_44 : decode cX8_sorter 44 = .ok (.iconst 0, 1) := by decide +kernel
theorem dX8_sorter_45 : decode cX8_sorter 45 = .ok (.istore_n 3, 1) := by decide +kernel
theorem dX8_sorter_46 : decode cX8_sorter 46 = .ok (.iload_n 3, 1) := by decide +kernel
theorem dX8_sorter_47 : decode cX8_sorter 47 = .ok (.aload_n 0, 1) := by decide +kernel
theorem dX8_sorter_48 : decode cX8_sorter 48 = .ok (.getfield 234, 3) := by decide +kernel
theorem dX8_sorter_51 : decode cX8_sorter 51 = .ok (.if_icmp .ge 25, 3) := by decide +kernel
theorem dX8_sorter_54 : decode cX8_sorter 54 = .ok (.iload_n 2, 1) := by decide +kernel
theorem dX8_sorter_55 : decode cX8_sorter 55 = .ok (.aload_n 0, 1) := by decide +kernel
theorem dX8_sorter_56 : decode cX8_sorter 56 = .ok (.iload_n 3, 1) := by decide +kernel
theorem dX8_sorter_57 : decode cX8_sorter 57 = .ok (.invokevirtual 246, 3) := by decide +kernel
theorem dX8_sorter_60 : decode cX8_sorter 60 = .ok (.ifCond .eq 7, 3) := by decide +kernel
theorem dX8_sorter_63 : decode cX8_sorter 63 = .ok (.iconst 1, 1) := by decide +kernel
theorem dX8_sorter_64 : decode cX8_sorter 64 = .ok (.goto 4, 3) := by decide +kernel
theorem dX8_sorter_67 : decode cX8_sorter 67 = .ok (.iconst 0, 1) := by decide +kernel
theorem dX8_sorter_68 : decode cX8_sorter 68 = .ok (.iadd, 1) := by decide +kernel
theorem dX8_sorter_69 : decode cX8_sorter 69 = .ok (.istore_n 2, 1) := by decide +kernel
theorem dX8_sorter_70 : decode cX8_sorter 70 = .ok (.iinc 3 1, 3) := by decide +kernel
theorem dX8_sorter_73 : decode cX8_sorter 73 = .ok (.goto (-27), 3) := by decide +kernel
theorem dX8_sorter_76 : decode cX8_sorter 76 = .ok (.iload_n 2, 1) := by decide +kernel
theorem dX8_sorter_77 : decode cX8_sorter 77 = .ok (.ireturn, 1) := by decide +kernel
theorem dX8_sorter_78 : decode cX8_sorter 78 = .ok (.bipush (-9), 2) := by decide +kernel
theorem dX8_sorter_80 : decode cX8_sorter 80 = .ok (.istore_n 3, 1) := by decide +kernel
theorem dX8_sorter_81 : decode cX8_sorter 81 = .ok (.iconst 1, 1) := by decide +kernel
theorem dX8_sorter_82 : decode cX8_sorter 82 = .ok (.aload_n 0, 1) := by decide +kernel
theorem dX8_sorter_83 : decode cX8_sorter 83 = .ok (.getfield 62, 3) := by decide +kernel
theorem dX8_sorter_86 : decode cX8_sorter 86 = .ok (.ishl, 1) := by decide +kernel
theorem dX8_sorter_87 : decode cX8_sorter 87 = .ok (.iconst 1, 1) := by decide +kernel
theorem dX8_sorter_88 : decode cX8_sorter 88 = .ok (.isub, 1) := by decide +kernel
theorem dX8_sorter_89 : decode cX8_sorter 89 = .ok (.istore 4, 2) := by decide +kernel
theorem dX8_sorter_91 : decode cX8_sorter 91 = .ok (.iload 4, 2) := by decide +kernel
theorem dX8_sorter_93 : decode cX8_sorter 93 = .ok (.ifCond .lt 35, 3) := by decide +kernel
theorem dX8_sorter_96 : decode cX8_sorter 96 = .ok (.aload_n 0, 1) := by decide +kernel
theorem dX8_sorter_97 : decode cX8_sorter 97 = .ok (.aload_n 0, 1) := by decide +kernel
theorem dX8_sorter_98 : decode cX8_sorter 98 = .ok (.iload 4, 2) := by decide +kernel
theorem dX8_sorter_100 : decode cX8_sorter 100 = .ok (.aload_n 0, 1) := by decide +kernel
theorem dX8_sorter_101 : decode cX8_sorter 101 = .ok (.getfield 234, 3) := by decide +kernel
theorem dX8_sorter_104 : decode cX8_sorter 104 = .ok (.invokevirtual 240, 3) := by decide +kernel
theorem dX8_sorter_107 : decode cX8_sorter 107 = .ok (.invokevirtual 249, 3) := by decide +kernel
theorem dX8_sorter_110 : decode cX8_sorter 110 = .ok (.ifCond .eq 9, 3) := by decide +kernel
theorem dX8_sorter_113 : decode cX8_sorter 113 = .ok (.iinc 2 1, 3) := by decide +kernel
theorem dX8_sorter_116 : decode cX8_sorter 116 = .ok (.goto 6, 3) := by decide +kernel
theorem dX8_sorter_119 : decode cX8_sorter 119 = .ok (.iload 4, 2) := by decide +kernel
theorem dX8_sorter_121 : decode cX8_sorter 121 = .ok (.istore_n 3, 1) := by decide +kernel
theorem dX8_sorter_122 : decode cX8_sorter 122 = .ok (.iinc 4 (-1), 3) := by decide +kernel
theorem dX8_sorter_125 : decode cX8_sorter 125 = .ok (.goto (-34), 3) := by decide +kernel
theorem dX8_sorter_128 : decode cX8_sorter 128 = .ok (.iload_n 1, 1) := by decide +kernel
theorem dX8_sorter_129 : decode cX8_sorter 129 = .ok (.iconst 2, 1) := by decide +kernel
theorem dX8_sorter_130 : decode cX8_sorter 130 = .ok (.if_icmp .ne 17, 3) := by decide +kernel
theorem dX8_sorter_133 : decode cX8_sorter 133 = .ok (.iload_n 3, 1) := by decide +kernel
theorem dX8_sorter_134 : decode cX8_sorter 134 = .ok (.bipush (-9), 2) := by decide +kernel
theorem dX8_sorter_136 : decode cX8_sorter 136 = .ok (.if_icmp .ne 7, 3) := by decide +kernel
theorem dX8_sorter_139 : decode cX8_sorter 139 = .ok (.iconst 1, 1) := by decide +kernel
theorem dX8_sorter_140 : decode cX8_sorter 140 = .ok (.goto 17, 3) := by decide +kernel
theorem dX8_sorter_143 : decode cX8_sorter 143 = .ok (.iconst 0, 1) := by decide +kernel
theorem dX8_sorter_144 : decode cX8_sorter 144 = .ok (.goto 13, 3) := by decide +kernel
theorem dX8_sorter_147 : decode cX8_sorter 147 = .ok (.iload_n 1, 1) := by decide +kernel
theorem dX8_sorter_148 : decode cX8_sorter 148 = .ok (.iconst 3, 1) := by decide +kernel
theorem dX8_sorter_149 : decode cX8_sorter 149 = .ok (.if_icmp .ne 7, 3) := by decide +kernel
theorem dX8_sorter_152 : decode cX8_sorter 152 = .ok (.iload_n 3, 1) := by decide +kernel
theorem dX8_sorter_153 : decode cX8_sorter 153 = .ok (.goto 4, 3) := by decide +kernel
theorem dX8_sorter_156 : decode cX8_sorter 156 = .ok (.iload_n 2, 1) := by decide +kernel
theorem dX8_sorter_157 : decode cX8_sorter 157 = .ok (.ireturn, 1) := by decide +kernel
theorem dX8_isComparer_0 : decode cX8_isComparer 0 = .ok (.iload_n 1, 1) := by decide +kernel
theorem dX8_isComparer_1 : decode cX8_isComparer 1 = .ok (.ifCond .lt 15, 3) := by decide +kernel
theorem dX8_isComparer_4 : decode cX8_isComparer 4 = .ok (.iload_n 1, 1) := by decide +kernel
theorem dX8_isComparer_5 : decode cX8_isComparer 5 = .ok (.aload_n 0, 1) := by decide +kernel
theorem dX8_isComparer_6 : decode cX8_isComparer 6 = .ok (.getfield 234, 3) := by decide +kernel
theorem dX8_isComparer_9 : decode cX8_isComparer 9 = .ok (.if_icmp .ge 7, 3) := by decide +kernel
theorem dX8_isComparer_12 : decode cX8_isComparer 12 = .ok (.iconst 1, 1) := by decide +kernel
theorem dX8_isComparer_13 : decode cX8_isComparer 13 = .ok (.goto 4, 3) := by decide +kernel
theorem dX8_isComparer_16 : decode cX8_isComparer 16 = .ok (.iconst 0, 1) := by decide +kernel
theorem dX8_isComparer_17 : decode cX8_isComparer 17 = .ok (.ireturn, 1) := by decide +kernel
theorem dX8_kindOf_0 : decode cX8_kindOf 0 = .ok (.aload_n 0, 1) := by decide +kernel
theorem dX8_kindOf_1 : decode cX8_kindOf 1 = .ok (.getfield 65, 3) := by decide +kernel
theorem dX8_kindOf_4 : decode cX8_kindOf 4 = .ok (.iload_n 1, 1) := by decide +kernel
theorem dX8_kindOf_5 : decode cX8_kindOf 5 = .ok (.iaload, 1) := by decide +kernel
theorem dX8_kindOf_6 : decode cX8_kindOf 6 = .ok (.aload_n 0, 1) := by decide +kernel
theorem dX8_kindOf_7 : decode cX8_kindOf 7 = .ok (.getfield 68, 3) := by decide +kernel
theorem dX8_kindOf_10 : decode cX8_kindOf 10 = .ok (.iload_n 1, 1) := by decide +kernel
theorem dX8_kindOf_11 : decode cX8_kindOf 11 = .ok (.iaload, 1) := by decide +kernel
theorem dX8_kindOf_12 : decode cX8_kindOf 12 = .ok (.if_icmp .le 7, 3) := by decide +kernel
theorem dX8_kindOf_15 : decode cX8_kindOf 15 = .ok (.iconst 2, 1) := by decide +kernel
theorem dX8_kindOf_16 : decode cX8_kindOf 16 = .ok (.goto 25, 3) := by decide +kernel
theorem dX8_kindOf_19 : decode cX8_kindOf 19 = .ok (.aload_n 0, 1) := by decide +kernel
theorem dX8_kindOf_20 : decode cX8_kindOf 20 = .ok (.getfield 68, 3) := by decide +kernel
theorem dX8_kindOf_23 : decode cX8_kindOf 23 = .ok (.iload_n 1, 1) := by decide +kernel
theorem dX8_kindOf_24 : decode cX8_kindOf 24 = .ok (.iaload, 1) := by decide +kernel
theorem dX8_kindOf_25 : decode cX8_kindOf 25 = .ok (.aload_n 0, 1) := by decide +kernel
theorem dX8_kindOf_26 : decode cX8_kindOf 26 = .ok (.getfield 65, 3) := by decide +kernel
theorem dX8_kindOf_29 : decode cX8_kindOf 29 = .ok (.iload_n 1, 1) := by decide +kernel
theorem dX8_kindOf_30 : decode cX8_kindOf 30 = .ok (.iaload, 1) := by decide +kernel
theorem dX8_kindOf_31 : decode cX8_kindOf 31 = .ok (.isub, 1) := by decide +kernel
theorem dX8_kindOf_32 : decode cX8_kindOf 32 = .ok (.iconst 1, 1) := by decide +kernel
theorem dX8_kindOf_33 : decode cX8_kindOf 33 = .ok (.if_icmp .le 7, 3) := by decide +kernel
theorem dX8_kindOf_36 : decode cX8_kindOf 36 = .ok (.iconst 1, 1) := by decide +kernel
theorem dX8_kindOf_37 : decode cX8_kindOf 37 = .ok (.goto 4, 3) := by decide +kernel
theorem dX8_kindOf_40 : decode cX8_kindOf 40 = .ok (.iconst 0, 1) := by decide +kernel
theorem dX8_kindOf_41 : decode cX8_kindOf 41 = .ok (.ireturn, 1) := by decide +kernel
theorem dX8_comparer_0 : decode cX8_comparer 0 = .ok (.aload_n 0, 1) := by decide +kernel
theorem dX8_comparer_1 : decode cX8_comparer 1 = .ok (.iload_n 1, 1) := by decide +kernel
theorem dX8_comparer_2 : decode cX8_comparer 2 = .ok (.invokevirtual 252, 3) := by decide +kernel
theorem dX8_comparer_5 : decode cX8_comparer 5 = .ok (.ifCond .ne 5, 3) := by decide +kernel
theorem dX8_comparer_8 : decode cX8_comparer 8 = .ok (.iconst (-1), 1) := by decide +kernel
theorem dX8_comparer_9 : decode cX8_comparer 9 = .ok (.ireturn, 1) := by decide +kernel
theorem dX8_comparer_10 : decode cX8_comparer 10 = .ok (.iload_n 2, 1) := by decide +kernel
theorem dX8_comparer_11 : decode cX8_comparer 11 = .ok (.tableswitch 73 0 4 #[33, 40, 47, 53, 67], 33) := by decide +kernel
theorem dX8_comparer_44 : decode cX8_comparer 44 = .ok (.aload_n 0, 1) := by decide +kernel
theorem dX8_comparer_45 : decode cX8_comparer 45 = .ok (.getfield 65, 3) := by decide +kernel
theorem dX8_comparer_48 : decode cX8_comparer 48 = .ok (.iload_n 1, 1) := by decide +kernel
theorem dX8_comparer_49 : decode cX8_comparer 49 = .ok (.iaload, 1) := by decide +kernel
theorem dX8_comparer_50 : decode cX8_comparer 50 = .ok (.ireturn, 1) := by decide +kernel
theorem dX8_comparer_51 : decode cX8_comparer 51 = .ok (.aload_n 0, 1) := by decide +kernel
theorem dX8_comparer_52 : decode cX8_comparer 52 = .ok (.getfield 68, 3) := by decide +kernel
theorem dX8_comparer_55 : decode cX8_comparer 55 = .ok (.iload_n 1, 1) := by decide +kernel
theorem dX8_comparer_56 : decode cX8_comparer 56 = .ok (.iaload, 1) := by decide +kernel
theorem dX8_comparer_57 : decode cX8_comparer 57 = .ok (.ireturn, 1) := by decide +kernel
theorem dX8_comparer_58 : decode cX8_comparer 58 = .ok (.aload_n 0, 1) := by decide +kernel
theorem dX8_comparer_59 : decode cX8_comparer 59 = .ok (.iload_n 1, 1) := by decide +kernel
theorem dX8_comparer_60 : decode cX8_comparer 60 = .ok (.invokevirtual 243, 3) := by decide +kernel
theorem dX8_comparer_63 : decode cX8_comparer 63 = .ok (.ireturn, 1) := by decide +kernel
theorem dX8_comparer_64 : decode cX8_comparer 64 = .ok (.aload_n 0, 1) := by decide +kernel
theorem dX8_comparer_65 : decode cX8_comparer 65 = .ok (.iload_n 1, 1) := by decide +kernel
theorem dX8_comparer_66 : decode cX8_comparer 66 = .ok (.invokevirtual 246, 3) := by decide +kernel
theorem dX8_comparer_69 : decode cX8_comparer 69 = .ok (.ifCond .eq 7, 3) := by decide +kernel
theorem dX8_comparer_72 : decode cX8_comparer 72 = .ok (.iconst 1, 1) := by decide +kernel
theorem dX8_comparer_73 : decode cX8_comparer 73 = .ok (.goto 4, 3) := by decide +kernel
theorem dX8_comparer_76 : decode cX8_comparer 76 = .ok (.iconst 0, 1) := by decide +kernel
theorem dX8_comparer_77 : decode cX8_comparer 77 = .ok (.ireturn, 1) := by decide +kernel
theorem dX8_comparer_78 : decode cX8_comparer 78 = .ok (.aload_n 0, 1) := by decide +kernel
theorem dX8_comparer_79 : decode cX8_comparer 79 = .ok (.iload_n 1, 1) := by decide +kernel
theorem dX8_comparer_80 : decode cX8_comparer 80 = .ok (.invokevirtual 255, 3) := by decide +kernel
theorem dX8_comparer_83 : decode cX8_comparer 83 = .ok (.ireturn, 1) := by decide +kernel
theorem dX8_comparer_84 : decode cX8_comparer 84 = .ok (.bipush (-2), 2) := by decide +kernel
theorem dX8_comparer_86 : decode cX8_comparer 86 = .ok (.ireturn, 1) := by decide +kernel
theorem dX8_sort_0 : decode cX8_sort 0 = .ok (.aload_n 0, 1) := by decide +kernel
theorem dX8_sort_1 : decode cX8_sort 1 = .ok (.iconst 0, 1) := by decide +kernel
theorem dX8_sort_2 : decode cX8_sort 2 = .ok (.putfield 107, 3) := by decide +kernel
theorem dX8_sort_5 : decode cX8_sort 5 = .ok (.iload_n 1, 1) := by decide +kernel
theorem dX8_sort_6 : decode cX8_sort 6 = .ok (.invokestatic 191, 3) := by decide +kernel
theorem dX8_sort_9 : decode cX8_sort 9 = .ok (.ifCond .ne 5, 3) := by decide +kernel
theorem dX8_sort_12 : decode cX8_sort 12 = .ok (.iconst (-1), 1) := by decide +kernel
theorem dX8_sort_13 : decode cX8_sort 13 = .ok (.ireturn, 1) := by decide +kernel
theorem dX8_sort_14 : decode cX8_sort 14 = .ok (.iload_n 2, 1) := by decide +kernel
theorem dX8_sort_15 : decode cX8_sort 15 = .ok (.invokestatic 194, 3) := by decide +kernel
theorem dX8_sort_18 : decode cX8_sort 18 = .ok (.ifCond .ne 6, 3) := by decide +kernel
theorem dX8_sort_21 : decode cX8_sort 21 = .ok (.bipush (-2), 2) := by decide +kernel
theorem dX8_sort_23 : decode cX8_sort 23 = .ok (.ireturn, 1) := by decide +kernel
theorem dX8_sort_24 : decode cX8_sort 24 = .ok (.aload_n 0, 1) := by decide +kernel
theorem dX8_sort_25 : decode cX8_sort 25 = .ok (.iload_n 1, 1) := by decide +kernel
theorem dX8_sort_26 : decode cX8_sort 26 = .ok (.iload_n 2, 1) := by decide +kernel
theorem dX8_sort_27 : decode cX8_sort 27 = .ok (.iload_n 3, 1) := by decide +kernel
theorem dX8_sort_28 : decode cX8_sort 28 = .ok (.aload_n 0, 1) := by decide +kernel
theorem dX8_sort_29 : decode cX8_sort 29 = .ok (.getfield 62, 3) := by decide +kernel
theorem dX8_sort_32 : decode cX8_sort 32 = .ok (.invokevirtual 197, 3) := by decide +kernel
theorem dX8_sort_35 : decode cX8_sort 35 = .ok (.istore 4, 2) := by decide +kernel
theorem dX8_sort_37 : decode cX8_sort 37 = .ok (.iload 4, 2) := by decide +kernel
theorem dX8_sort_39 : decode cX8_sort 39 = .ok (.ifCond .eq 6, 3) := by decide +kernel
theorem dX8_sort_42 : decode cX8_sort 42 = .ok (.iload 4, 2) := by decide +kernel
theorem dX8_sort_44 : decode cX8_sort 44 = .ok (.ireturn, 1) := by decide +kernel
theorem dX8_sort_45 : decode cX8_sort 45 = .ok (.bipush 60, 2) := by decide +kernel
theorem dX8_sort_47 : decode cX8_sort 47 = .ok (.iload_n 1, 1) := by decide +kernel
theorem dX8_sort_48 : decode cX8_sort 48 = .ok (.imul, 1) := by decide +kernel
theorem dX8_sort_49 : decode cX8_sort 49 = .ok (.iload_n 3, 1) := by decide +kernel
theorem dX8_sort_50 : decode cX8_sort 50 = .ok (.iadd, 1) := by decide +kernel
theorem dX8_sort_51 : decode cX8_sort 51 = .ok (.istore 5, 2) := by decide +kernel
theorem dX8_sort_53 : decode cX8_sort 53 = .ok (.iconst 0, 1) := by decide +kernel
theorem dX8_sort_54 : decode cX8_sort 54 = .ok (.istore 6, 2) := by decide +kernel
theorem dX8_sort_56 : decode cX8_sort 56 = .ok (.iload 6, 2) := by decide +kernel
theorem dX8_sort_58 : decode cX8_sort 58 = .ok (.aload_n 0, 1) := by decide +kernel
theorem dX8_sort_59 : decode cX8_sort 59 = .ok (.getfield 62, 3) := by decide +kernel
theorem dX8_sort_62 : decode cX8_sort 62 = .ok (.if_icmp .ge 26, 3) := by decide +kernel
theorem dX8_sort_65 : decode cX8_sort 65 = .ok (.aload_n 0, 1) := by decide +kernel
theorem dX8_sort_66 : decode cX8_sort 66 = .ok (.getfield 74, 3) := by decide +kernel
theorem dX8_sort_69 : decode cX8_sort 69 = .ok (.iload 6, 2) := by decide +kernel
theorem dX8_sort_71 : decode cX8_sort 71 = .ok (.aload_n 0, 1) := by decide +kernel
theorem dX8_sort_72 : decode cX8_sort 72 = .ok (.getfield 56, 3) := by decide +kernel
theorem dX8_sort_75 : decode cX8_sort 75 = .ok (.iload 5, 2) := by decide +kernel
theorem dX8_sort_77 : decode cX8_sort 77 = .ok (.iload 6, 2) := by decide +kernel
theorem dX8_sort_79 : decode cX8_sort 79 = .ok (.iadd, 1) := by decide +kernel
theorem dX8_sort_80 : decode cX8_sort 80 = .ok (.iaload, 1) := by decide +kernel
theorem dX8_sort_81 : decode cX8_sort 81 = .ok (.iastore, 1) := by decide +kernel
theorem dX8_sort_82 : decode cX8_sort 82 = .ok (.iinc 6 1, 3) := by decide +kernel
theorem dX8_sort_85 : decode cX8_sort 85 = .ok (.goto (-29), 3) := by decide +kernel
theorem dX8_sort_88 : decode cX8_sort 88 = .ok (.iconst 0, 1) := by decide +kernel
theorem dX8_sort_89 : decode cX8_sort 89 = .ok (.istore 6, 2) := by decide +kernel
theorem dX8_sort_91 : decode cX8_sort 91 = .ok (.iload 6, 2) := by decide +kernel
theorem dX8_sort_93 : decode cX8_sort 93 = .ok (.aload_n 0, 1) := by decide +kernel
theorem dX8_sort_94 : decode cX8_sort 94 = .ok (.getfield 234, 3) := by decide +kernel
theorem dX8_sort_97 : decode cX8_sort 97 = .ok (.if_icmp .ge 82, 3) := by decide +kernel
theorem dX8_sort_100 : decode cX8_sort 100 = .ok (.iload 5, 2) := by decide +kernel
theorem dX8_sort_102 : decode cX8_sort 102 = .ok (.aload_n 0, 1) := by decide +kernel
theorem dX8_sort_103 : decode cX8_sort 103 = .ok (.getfield 65, 3) := by decide +kernel
theorem dX8_sort_106 : decode cX8_sort 106 = .ok (.iload 6, 2) := by decide +kernel
theorem dX8_sort_108 : decode cX8_sort 108 = .ok (.iaload, 1) := by decide +kernel
theorem dX8_sort_109 : decode cX8_sort 109 = .ok (.iadd, 1) := by decide +kernel
theorem dX8_sort_110 : decode cX8_sort 110 = .ok (.istore 7, 2) := by decide +kernel
theorem dX8_sort_112 : decode cX8_sort 112 = .ok (.iload 5, 2) := by decide +kernel
theorem dX8_sort_114 : decode cX8_sort 114 = .ok (.aload_n 0, 1) := by decide +kernel
theorem dX8_sort_115 : decode cX8_sort 115 = .ok (.getfield 68, 3) := by decide +kernel
theorem dX8_sort_118 : decode cX8_sort 118 = .ok (.iload 6, 2) := by decide +kernel
theorem dX8_sort_120 : decode cX8_sort 120 = .ok (.iaload, 1) := by decide +kernel
theorem dX8_sort_121 : decode cX8_sort 121 = .ok (.iadd, 1) := by decide +kernel
theorem dX8_sort_122 : decode cX8_sort 122 = .ok (.istore 8, 2) := by decide +kernel
theorem dX8_sort_124 : decode cX8_sort 124 = .ok (.aload_n 0, 1) := by decide +kernel
theorem dX8_sort_125 : decode cX8_sort 125 = .ok (.getfield 56, 3) := by decide +kernel
theorem dX8_sort_128 : decode cX8_sort 128 = .ok (.iload 7, 2) := by decide +kernel
theorem dX8_sort_130 : decode cX8_sort 130 = .ok (.iaload, 1) := by decide +kernel
theorem dX8_sort_131 : decode cX8_sort 131 = .ok (.aload_n 0, 1) := by decide +kernel
theorem dX8_sort_132 : decode cX8_sort 132 = .ok (.getfield 56, 3) := by decide +kernel
theorem dX8_sort_135 : decode cX8_sort 135 = .ok (.iload 8, 2) := by decide +kernel
theorem dX8_sort_137 : decode cX8_sort 137 = .ok (.iaload, 1) := by decide +kernel
theorem dX8_sort_138 : decode cX8_sort 138 = .ok (.if_icmp .le 35, 3) := by decide +kernel
theorem dX8_sort_141 : decode cX8_sort 141 = .ok (.aload_n 0, 1) := by decide +kernel
theorem dX8_sort_142 : decode cX8_sort 142 = .ok (.getfield 56, 3) := by decide +kernel
theorem dX8_sort_145 : decode cX8_sort 145 = .ok (.iload 7, 2) := by decide +kernel
theorem dX8_sort_147 : decode cX8_sort 147 = .ok (.iaload, 1) := by decide +kernel
theorem dX8_sort_148 : decode cX8_sort 148 = .ok (.istore 9, 2) := by decide +kernel
theorem dX8_sort_150 : decode cX8_sort 150 = .ok (.aload_n 0, 1) := by decide +kernel
theorem dX8_sort_151 : decode cX8_sort 151 = .ok (.getfield 56, 3) := by decide +kernel
theorem dX8_sort_154 : decode cX8_sort 154 = .ok (.iload 7, 2) := by decide +kernel
theorem dX8_sort_156 : decode cX8_sort 156 = .ok (.aload_n 0, 1) := by decide +kernel
theorem dX8_sort_157 : decode cX8_sort 157 = .ok (.getfield 56, 3) := by decide +kernel
theorem dX8_sort_160 : decode cX8_sort 160 = .ok (.iload 8, 2) := by decide +kernel
theorem dX8_sort_162 : decode cX8_sort 162 = .ok (.iaload, 1) := by decide +kernel
theorem dX8_sort_163 : decode cX8_sort 163 = .ok (.iastore, 1) := by decide +kernel
theorem dX8_sort_164 : decode cX8_sort 164 = .ok (.aload_n 0, 1) := by decide +kernel
theorem dX8_sort_165 : decode cX8_sort 165 = .ok (.getfield 56, 3) := by decide +kernel
theorem dX8_sort_168 : decode cX8_sort 168 = .ok (.iload 8, 2) := by decide +kernel
theorem dX8_sort_170 : decode cX8_sort 170 = .ok (.iload 9, 2) := by decide +kernel
theorem dX8_sort_172 : decode cX8_sort 172 = .ok (.iastore, 1) := by decide +kernel
theorem dX8_sort_173 : decode cX8_sort 173 = .ok (.iinc 6 1, 3) := by decide +kernel
theorem dX8_sort_176 : decode cX8_sort 176 = .ok (.goto (-85), 3) := by decide +kernel
theorem dX8_sort_179 : decode cX8_sort 179 = .ok (.iconst 0, 1) := by decide +kernel
theorem dX8_sort_180 : decode cX8_sort 180 = .ok (.istore 6, 2) := by decide +kernel
theorem dX8_sort_182 : decode cX8_sort 182 = .ok (.iconst 0, 1) := by decide +kernel
theorem dX8_sort_183 : decode cX8_sort 183 = .ok (.istore 7, 2) := by decide +kernel
theorem dX8_sort_185 : decode cX8_sort 185 = .ok (.iload 7, 2) := by decide +kernel
theorem dX8_sort_187 : decode cX8_sort 187 = .ok (.aload_n 0, 1) := by decide +kernel
theorem dX8_sort_188 : decode cX8_sort 188 = .ok (.getfield 62, 3) := by decide +kernel
theorem dX8_sort_191 : decode cX8_sort 191 = .ok (.if_icmp .ge 39, 3) := by decide +kernel
theorem dX8_sort_194 : decode cX8_sort 194 = .ok (.iload 6, 2) := by decide +kernel
theorem dX8_sort_196 : decode cX8_sort 196 = .ok (.aload_n 0, 1) := by decide +kernel
theorem dX8_sort_197 : decode cX8_sort 197 = .ok (.getfield 74, 3) := by decide +kernel
theorem dX8_sort_200 : decode cX8_sort 200 = .ok (.iload 7, 2) := by decide +kernel
theorem dX8_sort_202 : decode cX8_sort 202 = .ok (.iaload, 1) := by decide +kernel
theorem dX8_sort_203 : decode cX8_sort 203 = .ok (.aload_n 0, 1) := by decide +kernel
theorem dX8_sort_204 : decode cX8_sort 204 = .ok (.getfield 56, 3) := by decide +kernel
theorem dX8_sort_207 : decode cX8_sort 207 = .ok (.iload 5, 2) := by decide +kernel
theorem dX8_sort_209 : decode cX8_sort 209 = .ok (.iload 7, 2) := by decide +kernel
theorem dX8_sort_211 : decode cX8_sort 211 = .ok (.iadd, 1) := by decide +kernel
theorem dX8_sort_212 : decode cX8_sort 212 = .ok (.iaload, 1) := by decide +kernel
theorem dX8_sort_213 : decode cX8_sort 213 = .ok (.if_icmp .eq 7, 3) := by decide +kernel
theorem dX8_sort_216 : decode cX8_sort 216 = .ok (.iconst 1, 1) := by decide +kernel
theorem dX8_sort_217 : decode cX8_sort 217 = .ok (.goto 4, 3) := by decide +kernel
theorem dX8_sort_220 : decode cX8_sort 220 = .ok (.iconst 0, 1) := by decide +kernel
theorem dX8_sort_221 : decode cX8_sort 221 = .ok (.iadd, 1) := by decide +kernel
theorem dX8_sort_222 : decode cX8_sort 222 = .ok (.istore 6, 2) := by decide +kernel
theorem dX8_sort_224 : decode cX8_sort 224 = .ok (.iinc 7 1, 3) := by decide +kernel
theorem dX8_sort_227 : decode cX8_sort 227 = .ok (.goto (-42), 3) := by decide +kernel
theorem dX8_sort_230 : decode cX8_sort 230 = .ok (.iload 6, 2) := by decide +kernel
theorem dX8_sort_232 : decode cX8_sort 232 = .ok (.ireturn, 1) := by decide +kernel
theorem dX8_bar_0 : decode cX8_bar 0 = .ok (.iload_n 1, 1) := by decide +kernel
theorem dX8_bar_1 : decode cX8_bar 1 = .ok (.iconst 1, 1) := by decide +kernel
theorem dX8_bar_2 : decode cX8_bar 2 = .ok (.iconst 5, 1) := by decide +kernel
theorem dX8_bar_3 : decode cX8_bar 3 = .ok (.invokestatic 116, 3) := by decide +kernel
theorem dX8_bar_6 : decode cX8_bar 6 = .ok (.ifCond .ne 6, 3) := by decide +kernel
theorem dX8_bar_9 : decode cX8_bar 9 = .ok (.bipush (-2), 2) := by decide +kernel
theorem dX8_bar_11 : decode cX8_bar 11 = .ok (.ireturn, 1) := by decide +kernel
theorem dX8_bar_12 : decode cX8_bar 12 = .ok (.aload_n 0, 1) := by decide +kernel
theorem dX8_bar_13 : decode cX8_bar 13 = .ok (.getfield 77, 3) := by decide +kernel
theorem dX8_bar_16 : decode cX8_bar 16 = .ok (.istore_n 2, 1) := by decide +kernel
theorem dX8_bar_17 : decode cX8_bar 17 = .ok (.aload_n 0, 1) := by decide +kernel
theorem dX8_bar_18 : decode cX8_bar 18 = .ok (.iload_n 1, 1) := by decide +kernel
theorem dX8_bar_19 : decode cX8_bar 19 = .ok (.putfield 77, 3) := by decide +kernel
theorem dX8_bar_22 : decode cX8_bar 22 = .ok (.iconst 0, 1) := by decide +kernel
theorem dX8_bar_23 : decode cX8_bar 23 = .ok (.istore_n 3, 1) := by decide +kernel
theorem dX8_bar_24 : decode cX8_bar 24 = .ok (.iload_n 3, 1) := by decide +kernel
theorem dX8_bar_25 : decode cX8_bar 25 = .ok (.bipush 25, 2) := by decide +kernel
theorem dX8_bar_27 : decode cX8_bar 27 = .ok (.if_icmp .ge 23, 3) := by decide +kernel
theorem dX8_bar_30 : decode cX8_bar 30 = .ok (.aload_n 0, 1) := by decide +kernel
theorem dX8_bar_31 : decode cX8_bar 31 = .ok (.getfield 80, 3) := by decide +kernel
theorem dX8_bar_34 : decode cX8_bar 34 = .ok (.iload_n 3, 1) := by decide +kernel
theorem dX8_bar_35 : decode cX8_bar 35 = .ok (.iconst 0, 1) := by decide +kernel
theorem dX8_bar_36 : decode cX8_bar 36 = .ok (.iastore, 1) := by decide +kernel
theorem dX8_bar_37 : decode cX8_bar 37 = .ok (.aload_n 0, 1) := by decide +kernel
theorem dX8_bar_38 : decode cX8_bar 38 = .ok (.getfield 86, 3) := by decide +kernel
theorem dX8_bar_41 : decode cX8_bar 41 = .ok (.iload_n 3, 1) := by decide +kernel
theorem dX8_bar_42 : decode cX8_bar 42 = .ok (.iconst 0, 1) := by decide +kernel
theorem dX8_bar_43 : decode cX8_bar 43 = .ok (.iastore, 1) := by decide +kernel
theorem dX8_bar_44 : decode cX8_bar 44 = .ok (.iinc 3 1, 3) := by decide +kernel
theorem dX8_bar_47 : decode cX8_bar 47 = .ok (.goto (-23), 3) := by decide +kernel
theorem dX8_bar_50 : decode cX8_bar 50 = .ok (.iconst 0, 1) := by decide +kernel
theorem dX8_bar_51 : decode cX8_bar 51 = .ok (.istore_n 3, 1) := by decide +kernel
theorem dX8_bar_52 : decode cX8_bar 52 = .ok (.iload_n 3, 1) := by decide +kernel
theorem dX8_bar_53 : decode cX8_bar 53 = .ok (.iconst 5, 1) := by decide +kernel
theorem dX8_bar_54 : decode cX8_bar 54 = .ok (.if_icmp .ge 31, 3) := by decide +kernel
theorem dX8_bar_57 : decode cX8_bar 57 = .ok (.aload_n 0, 1) := by decide +kernel
theorem dX8_bar_58 : decode cX8_bar 58 = .ok (.getfield 89, 3) := by decide +kernel
theorem dX8_bar_61 : decode cX8_bar 61 = .ok (.iload_n 3, 1) := by decide +kernel
theorem dX8_bar_62 : decode cX8_bar 62 = .ok (.iconst 0, 1) := by decide +kernel
theorem dX8_bar_63 : decode cX8_bar 63 = .ok (.iastore, 1) := by decide +kernel
theorem dX8_bar_64 : decode cX8_bar 64 = .ok (.aload_n 0, 1) := by decide +kernel
theorem dX8_bar_65 : decode cX8_bar 65 = .ok (.getfield 92, 3) := by decide +kernel
theorem dX8_bar_68 : decode cX8_bar 68 = .ok (.iload_n 3, 1) := by decide +kernel
theorem dX8_bar_69 : decode cX8_bar 69 = .ok (.iconst 0, 1) := by decide +kernel
theorem dX8_bar_70 : decode cX8_bar 70 = .ok (.iastore, 1) := by decide +kernel
theorem dX8_bar_71 : decode cX8_bar 71 = .ok (.aload_n 0, 1) := by decide +kernel
theorem dX8_bar_72 : decode cX8_bar 72 = .ok (.getfield 98, 3) := by decide +kernel
theorem dX8_bar_75 : decode cX8_bar 75 = .ok (.iload_n 3, 1) := by decide +kernel
theorem dX8_bar_76 : decode cX8_bar 76 = .ok (.bipush (-9), 2) := by decide +kernel
theorem dX8_bar_78 : decode cX8_bar 78 = .ok (.iastore, 1) := by decide +kernel
theorem dX8_bar_79 : decode cX8_bar 79 = .ok (.iinc 3 1, 3) := by decide +kernel
theorem dX8_bar_82 : decode cX8_bar 82 = .ok (.goto (-30), 3) := by decide +kernel
theorem dX8_bar_85 : decode cX8_bar 85 = .ok (.iload_n 2, 1) := by decide +kernel
theorem dX8_bar_86 : decode cX8_bar 86 = .ok (.ireturn, 1) := by decide +kernel
theorem dX8_isPort_0 : decode cX8_isPort 0 = .ok (.iload_n 1, 1) := by decide +kernel
theorem dX8_isPort_1 : decode cX8_isPort 1 = .ok (.ifCond .lt 15, 3) := by decide +kernel
theorem dX8_isPort_4 : decode cX8_isPort 4 = .ok (.iload_n 1, 1) := by decide +kernel
theorem dX8_isPort_5 : decode cX8_isPort 5 = .ok (.aload_n 0, 1) := by decide +kernel
theorem dX8_isPort_6 : decode cX8_isPort 6 = .ok (.getfield 77, 3) := by decide +kernel
theorem dX8_isPort_9 : decode cX8_isPort 9 = .ok (.if_icmp .ge 7, 3) := by decide +kernel
theorem dX8_isPort_12 : decode cX8_isPort 12 = .ok (.iconst 1, 1) := by decide +kernel
theorem dX8_isPort_13 : decode cX8_isPort 13 = .ok (.goto 4, 3) := by decide +kernel
theorem dX8_isPort_16 : decode cX8_isPort 16 = .ok (.iconst 0, 1) := by decide +kernel
theorem dX8_isPort_17 : decode cX8_isPort 17 = .ok (.ireturn, 1) := by decide +kernel
theorem dX8_traffic_0 : decode cX8_traffic 0 = .ok (.aload_n 0, 1) := by decide +kernel
theorem dX8_traffic_1 : decode cX8_traffic 1 = .ok (.iload_n 1, 1) := by decide +kernel
theorem dX8_traffic_2 : decode cX8_traffic 2 = .ok (.invokevirtual 258, 3) := by decide +kernel
theorem dX8_traffic_5 : decode cX8_traffic 5 = .ok (.ifCond .eq 11, 3) := by decide +kernel
theorem dX8_traffic_8 : decode cX8_traffic 8 = .ok (.aload_n 0, 1) := by decide +kernel
theorem dX8_traffic_9 : decode cX8_traffic 9 = .ok (.iload_n 2, 1) := by decide +kernel
theorem dX8_traffic_10 : decode cX8_traffic 10 = .ok (.invokevirtual 258, 3) := by decide +kernel
theorem dX8_traffic_13 : decode cX8_traffic 13 = .ok (.ifCond .ne 5, 3) := by decide +kernel
theorem dX8_traffic_16 : decode cX8_traffic 16 = .ok (.iconst (-1), 1) := by decide +kernel
theorem dX8_traffic_17 : decode cX8_traffic 17 = .ok (.ireturn, 1) := by decide +kernel
theorem dX8_traffic_18 : decode cX8_traffic 18 = .ok (.iload_n 3, 1) := by decide +kernel
theorem dX8_traffic_19 : decode cX8_traffic 19 = .ok (.iconst 0, 1) := by decide +kernel
theorem dX8_traffic_20 : decode cX8_traffic 20 = .ok (.bipush 50, 2) := by decide +kernel
theorem dX8_traffic_22 : decode cX8_traffic 22 = .ok (.invokestatic 116, 3) := by decide +kernel
theorem dX8_traffic_25 : decode cX8_traffic 25 = .ok (.ifCond .ne 6, 3) := by decide +kernel
theorem dX8_traffic_28 : decode cX8_traffic 28 = .ok (.bipush (-2), 2) := by decide +kernel
theorem dX8_traffic_30 : decode cX8_traffic 30 = .ok (.ireturn, 1) := by decide +kernel
theorem dX8_traffic_31 : decode cX8_traffic 31 = .ok (.aload_n 0, 1) := by decide +kernel
theorem dX8_traffic_32 : decode cX8_traffic 32 = .ok (.getfield 80, 3) := by decide +kernel
theorem dX8_traffic_35 : decode cX8_traffic 35 = .ok (.iconst 5, 1) := by decide +kernel
theorem dX8_traffic_36 : decode cX8_traffic 36 = .ok (.iload_n 1, 1) := by decide +kernel
theorem dX8_traffic_37 : decode cX8_traffic 37 = .ok (.imul, 1) := by decide +kernel
theorem dX8_traffic_38 : decode cX8_traffic 38 = .ok (.iload_n 2, 1) := by decide +kernel
theorem dX8_traffic_39 : decode cX8_traffic 39 = .ok (.iadd, 1) := by decide +kernel
theorem dX8_traffic_40 : decode cX8_traffic 40 = .ok (.iaload, 1) := by decide +kernel
theorem dX8_traffic_41 : decode cX8_traffic 41 = .ok (.istore 4, 2) := by decide +kernel
theorem dX8_traffic_43 : decode cX8_traffic 43 = .ok (.aload_n 0, 1) := by decide +kernel
theorem dX8_traffic_44 : decode cX8_traffic 44 = .ok (.getfield 80, 3) := by decide +kernel
theorem dX8_traffic_47 : decode cX8_traffic 47 = .ok (.iconst 5, 1) := by decide +kernel
theorem dX8_traffic_48 : decode cX8_traffic 48 = .ok (.iload_n 1, 1) := by decide +kernel
theorem dX8_traffic_49 : decode cX8_traffic 49 = .ok (.imul, 1) := by decide +kernel
theorem dX8_traffic_50 : decode cX8_traffic 50 = .ok (.iload_n 2, 1) := by decide +kernel
theorem dX8_traffic_51 : decode cX8_traffic 51 = .ok (.iadd, 1) := by decide +kernel
theorem dX8_traffic_52 : decode cX8_traffic 52 = .ok (.iload_n 3, 1) := by decide +kernel
theorem dX8_traffic_53 : decode cX8_traffic 53 = .ok (.iastore, 1) := by decide +kernel
theorem dX8_traffic_54 : decode cX8_traffic 54 = .ok (.iload 4, 2) := by decide +kernel
theorem dX8_traffic_56 : decode cX8_traffic 56 = .ok (.ireturn, 1) := by decide +kernel
theorem dX8_sumOf_0 : decode cX8_sumOf 0 = .ok (.iconst 0, 1) := by decide +kernel
theorem dX8_sumOf_1 : decode cX8_sumOf 1 = .ok (.istore_n 3, 1) := by decide +kernel
theorem dX8_sumOf_2 : decode cX8_sumOf 2 = .ok (.iconst 0, 1) := by decide +kernel
theorem dX8_sumOf_3 : decode cX8_sumOf 3 = .ok (.istore 4, 2) := by decide +kernel
theorem dX8_sumOf_5 : decode cX8_sumOf 5 = .ok (.iload 4, 2) := by decide +kernel
theorem dX8_sumOf_7 : decode cX8_sumOf 7 = .ok (.aload_n 0, 1) := by decide +kernel
theorem dX8_sumOf_8 : decode cX8_sumOf 8 = .ok (.getfield 77, 3) := by decide +kernel
theorem dX8_sumOf_11 : decode cX8_sumOf 11 = .ok (.if_icmp .ge 41, 3) := by decide +kernel
theorem dX8_sumOf_14 : decode cX8_sumOf 14 = .ok (.iload_n 3, 1) := by decide +kernel
theorem dX8_sumOf_15 : decode cX8_sumOf 15 = .ok (.iload_n 1, 1) := by decide +kernel
theorem dX8_sumOf_16 : decode cX8_sumOf 16 = .ok (.ifCond .eq 17, 3) := by decide +kernel
theorem dX8_sumOf_19 : decode cX8_sumOf 19 = .ok (.aload_n 0, 1) := by decide +kernel
theorem dX8_sumOf_20 : decode cX8_sumOf 20 = .ok (.getfield 83, 3) := by decide +kernel
theorem dX8_sumOf_23 : decode cX8_sumOf 23 = .ok (.iconst 5, 1) := by decide +kernel
theorem dX8_sumOf_24 : decode cX8_sumOf 24 = .ok (.iload_n 2, 1) := by decide +kernel
theorem dX8_sumOf_25 : decode cX8_sumOf 25 = .ok (.imul, 1) := by decide +kernel
theorem dX8_sumOf_26 : decode cX8_sumOf 26 = .ok (.iload 4, 2) := by decide +kernel
theorem dX8_sumOf_28 : decode cX8_sumOf 28 = .ok (.iadd, 1) := by decide +kernel
theorem dX8_sumOf_29 : decode cX8_sumOf 29 = .ok (.iaload, 1) := by decide +kernel
theorem dX8_sumOf_30 : decode cX8_sumOf 30 = .ok (.goto 14, 3) := by decide +kernel
theorem dX8_sumOf_33 : decode cX8_sumOf 33 = .ok (.aload_n 0, 1) := by decide +kernel
theorem dX8_sumOf_34 : decode cX8_sumOf 34 = .ok (.getfield 83, 3) := by decide +kernel
theorem dX8_sumOf_37 : decode cX8_sumOf 37 = .ok (.iconst 5, 1) := by decide +kernel
theorem dX8_sumOf_38 : decode cX8_sumOf 38 = .ok (.iload 4, 2) := by decide +kernel
theorem dX8_sumOf_40 : decode cX8_sumOf 40 = .ok (.imul, 1) := by decide +kernel
theorem dX8_sumOf_41 : decode cX8_sumOf 41 = .ok (.iload_n 2, 1) := by decide +kernel
theorem dX8_sumOf_42 : decode cX8_sumOf 42 = .ok (.iadd, 1) := by decide +kernel
theorem dX8_sumOf_43 : decode cX8_sumOf 43 = .ok (.iaload, 1) := by decide +kernel
theorem dX8_sumOf_44 : decode cX8_sumOf 44 = .ok (.iadd, 1) := by decide +kernel
theorem dX8_sumOf_45 : decode cX8_sumOf 45 = .ok (.istore_n 3, 1) := by decide +kernel
end
section
theorem dX8_sumOf_46 : decode cX8_sumOf 46 = .ok (.iinc 4 1, 3) := by decide +kernel
theorem dX8_sumOf_49 : decode cX8_sumOf 49 = .ok (.goto (-44), 3) := by decide +kernel
theorem dX8_sumOf_52 : decode cX8_sumOf 52 = .ok (.iload_n 3, 1) := by decide +kernel
theorem dX8_sumOf_53 : decode cX8_sumOf 53 = .ok (.ireturn, 1) := by decide +kernel
theorem dX8_spanLeft_0 : decode cX8_spanLeft 0 = .ok (.iconst 0, 1) := by decide +kernel
theorem dX8_spanLeft_1 : decode cX8_spanLeft 1 = .ok (.istore_n 1, 1) := by decide +kernel
theorem dX8_spanLeft_2 : decode cX8_spanLeft 2 = .ok (.iconst 0, 1) := by decide +kernel
theorem dX8_spanLeft_3 : decode cX8_spanLeft 3 = .ok (.istore_n 2, 1) := by decide +kernel
theorem dX8_spanLeft_4 : decode cX8_spanLeft 4 = .ok (.iload_n 2, 1) := by decide +kernel
theorem dX8_spanLeft_5 : decode cX8_spanLeft 5 = .ok (.aload_n 0, 1) := by decide +kernel
theorem dX8_spanLeft_6 : decode cX8_spanLeft 6 = .ok (.getfield 77, 3) := by decide +kernel
theorem dX8_spanLeft_9 : decode cX8_spanLeft 9 = .ok (.if_icmp .ge 51, 3) := by decide +kernel
theorem dX8_spanLeft_12 : decode cX8_spanLeft 12 = .ok (.aload_n 0, 1) := by decide +kernel
theorem dX8_spanLeft_13 : decode cX8_spanLeft 13 = .ok (.iconst 1, 1) := by decide +kernel
theorem dX8_spanLeft_14 : decode cX8_spanLeft 14 = .ok (.iload_n 2, 1) := by decide +kernel
theorem dX8_spanLeft_15 : decode cX8_spanLeft 15 = .ok (.invokevirtual 261, 3) := by decide +kernel
theorem dX8_spanLeft_18 : decode cX8_spanLeft 18 = .ok (.iload_n 1, 1) := by decide +kernel
theorem dX8_spanLeft_19 : decode cX8_spanLeft 19 = .ok (.if_icmp .le 12, 3) := by decide +kernel
theorem dX8_spanLeft_22 : decode cX8_spanLeft 22 = .ok (.aload_n 0, 1) := by decide +kernel
theorem dX8_spanLeft_23 : decode cX8_spanLeft 23 = .ok (.iconst 1, 1) := by decide +kernel
theorem dX8_spanLeft_24 : decode cX8_spanLeft 24 = .ok (.iload_n 2, 1) := by decide +kernel
theorem dX8_spanLeft_25 : decode cX8_spanLeft 25 = .ok (.invokevirtual 261, 3) := by decide +kernel
theorem dX8_spanLeft_28 : decode cX8_spanLeft 28 = .ok (.goto 4, 3) := by decide +kernel
theorem dX8_spanLeft_31 : decode cX8_spanLeft 31 = .ok (.iload_n 1, 1) := by decide +kernel
theorem dX8_spanLeft_32 : decode cX8_spanLeft 32 = .ok (.istore_n 1, 1) := by decide +kernel
theorem dX8_spanLeft_33 : decode cX8_spanLeft 33 = .ok (.aload_n 0, 1) := by decide +kernel
theorem dX8_spanLeft_34 : decode cX8_spanLeft 34 = .ok (.iconst 0, 1) := by decide +kernel
theorem dX8_spanLeft_35 : decode cX8_spanLeft 35 = .ok (.iload_n 2, 1) := by decide +kernel
theorem dX8_spanLeft_36 : decode cX8_spanLeft 36 = .ok (.invokevirtual 261, 3) := by decide +kernel
theorem dX8_spanLeft_39 : decode cX8_spanLeft 39 = .ok (.iload_n 1, 1) := by decide +kernel
theorem dX8_spanLeft_40 : decode cX8_spanLeft 40 = .ok (.if_icmp .le 12, 3) := by decide +kernel
theorem dX8_spanLeft_43 : decode cX8_spanLeft 43 = .ok (.aload_n 0, 1) := by decide +kernel
theorem dX8_spanLeft_44 : decode cX8_spanLeft 44 = .ok (.iconst 0, 1) := by decide +kernel
theorem dX8_spanLeft_45 : decode cX8_spanLeft 45 = .ok (.iload_n 2, 1) := by decide +kernel
theorem dX8_spanLeft_46 : decode cX8_spanLeft 46 = .ok (.invokevirtual 261, 3) := by decide +kernel
theorem dX8_spanLeft_49 : decode cX8_spanLeft 49 = .ok (.goto 4, 3) := by decide +kernel
theorem dX8_spanLeft_52 : decode cX8_spanLeft 52 = .ok (.iload_n 1, 1) := by decide +kernel
theorem dX8_spanLeft_53 : decode cX8_spanLeft 53 = .ok (.istore_n 1, 1) := by decide +kernel
theorem dX8_spanLeft_54 : decode cX8_spanLeft 54 = .ok (.iinc 2 1, 3) := by decide +kernel
theorem dX8_spanLeft_57 : decode cX8_spanLeft 57 = .ok (.goto (-53), 3) := by decide +kernel
theorem dX8_spanLeft_60 : decode cX8_spanLeft 60 = .ok (.iload_n 1, 1) := by decide +kernel
theorem dX8_spanLeft_61 : decode cX8_spanLeft 61 = .ok (.ireturn, 1) := by decide +kernel
theorem dX8_layLeft_0 : decode cX8_layLeft 0 = .ok (.iconst 0, 1) := by decide +kernel
theorem dX8_layLeft_1 : decode cX8_layLeft 1 = .ok (.istore_n 1, 1) := by decide +kernel
theorem dX8_layLeft_2 : decode cX8_layLeft 2 = .ok (.iload_n 1, 1) := by decide +kernel
theorem dX8_layLeft_3 : decode cX8_layLeft 3 = .ok (.bipush 25, 2) := by decide +kernel
theorem dX8_layLeft_5 : decode cX8_layLeft 5 = .ok (.if_icmp .ge 21, 3) := by decide +kernel
theorem dX8_layLeft_8 : decode cX8_layLeft 8 = .ok (.aload_n 0, 1) := by decide +kernel
theorem dX8_layLeft_9 : decode cX8_layLeft 9 = .ok (.getfield 83, 3) := by decide +kernel
theorem dX8_layLeft_12 : decode cX8_layLeft 12 = .ok (.iload_n 1, 1) := by decide +kernel
theorem dX8_layLeft_13 : decode cX8_layLeft 13 = .ok (.aload_n 0, 1) := by decide +kernel
theorem dX8_layLeft_14 : decode cX8_layLeft 14 = .ok (.getfield 80, 3) := by decide +kernel
theorem dX8_layLeft_17 : decode cX8_layLeft 17 = .ok (.iload_n 1, 1) := by decide +kernel
theorem dX8_layLeft_18 : decode cX8_layLeft 18 = .ok (.iaload, 1) := by decide +kernel
theorem dX8_layLeft_19 : decode cX8_layLeft 19 = .ok (.iastore, 1) := by decide +kernel
theorem dX8_layLeft_20 : decode cX8_layLeft 20 = .ok (.iinc 1 1, 3) := by decide +kernel
theorem dX8_layLeft_23 : decode cX8_layLeft 23 = .ok (.goto (-21), 3) := by decide +kernel
theorem dX8_layLeft_26 : decode cX8_layLeft 26 = .ok (.return_, 1) := by decide +kernel
theorem dX8_span_0 : decode cX8_span 0 = .ok (.aload_n 0, 1) := by decide +kernel
theorem dX8_span_1 : decode cX8_span 1 = .ok (.invokevirtual 265, 3) := by decide +kernel
theorem dX8_span_4 : decode cX8_span 4 = .ok (.aload_n 0, 1) := by decide +kernel
theorem dX8_span_5 : decode cX8_span 5 = .ok (.invokevirtual 268, 3) := by decide +kernel
theorem dX8_span_8 : decode cX8_span 8 = .ok (.ireturn, 1) := by decide +kernel
theorem dX8_isFree_0 : decode cX8_isFree 0 = .ok (.iconst 0, 1) := by decide +kernel
theorem dX8_isFree_1 : decode cX8_isFree 1 = .ok (.istore_n 2, 1) := by decide +kernel
theorem dX8_isFree_2 : decode cX8_isFree 2 = .ok (.iload_n 2, 1) := by decide +kernel
theorem dX8_isFree_3 : decode cX8_isFree 3 = .ok (.iload_n 1, 1) := by decide +kernel
theorem dX8_isFree_4 : decode cX8_isFree 4 = .ok (.if_icmp .ge 26, 3) := by decide +kernel
theorem dX8_isFree_7 : decode cX8_isFree 7 = .ok (.aload_n 0, 1) := by decide +kernel
theorem dX8_isFree_8 : decode cX8_isFree 8 = .ok (.getfield 95, 3) := by decide +kernel
theorem dX8_isFree_11 : decode cX8_isFree 11 = .ok (.iload_n 2, 1) := by decide +kernel
theorem dX8_isFree_12 : decode cX8_isFree 12 = .ok (.iaload, 1) := by decide +kernel
theorem dX8_isFree_13 : decode cX8_isFree 13 = .ok (.aload_n 0, 1) := by decide +kernel
theorem dX8_isFree_14 : decode cX8_isFree 14 = .ok (.getfield 95, 3) := by decide +kernel
theorem dX8_isFree_17 : decode cX8_isFree 17 = .ok (.iload_n 1, 1) := by decide +kernel
theorem dX8_isFree_18 : decode cX8_isFree 18 = .ok (.iaload, 1) := by decide +kernel
theorem dX8_isFree_19 : decode cX8_isFree 19 = .ok (.if_icmp .ne 5, 3) := by decide +kernel
theorem dX8_isFree_22 : decode cX8_isFree 22 = .ok (.iconst 0, 1) := by decide +kernel
theorem dX8_isFree_23 : decode cX8_isFree 23 = .ok (.ireturn, 1) := by decide +kernel
theorem dX8_isFree_24 : decode cX8_isFree 24 = .ok (.iinc 2 1, 3) := by decide +kernel
theorem dX8_isFree_27 : decode cX8_isFree 27 = .ok (.goto (-25), 3) := by decide +kernel
theorem dX8_isFree_30 : decode cX8_isFree 30 = .ok (.iconst 1, 1) := by decide +kernel
theorem dX8_isFree_31 : decode cX8_isFree 31 = .ok (.ireturn, 1) := by decide +kernel
theorem dX8_isTight_0 : decode cX8_isTight 0 = .ok (.iconst 0, 1) := by decide +kernel
theorem dX8_isTight_1 : decode cX8_isTight 1 = .ok (.istore_n 2, 1) := by decide +kernel
theorem dX8_isTight_2 : decode cX8_isTight 2 = .ok (.iconst 0, 1) := by decide +kernel
theorem dX8_isTight_3 : decode cX8_isTight 3 = .ok (.istore_n 3, 1) := by decide +kernel
theorem dX8_isTight_4 : decode cX8_isTight 4 = .ok (.iload_n 3, 1) := by decide +kernel
theorem dX8_isTight_5 : decode cX8_isTight 5 = .ok (.aload_n 0, 1) := by decide +kernel
theorem dX8_isTight_6 : decode cX8_isTight 6 = .ok (.getfield 77, 3) := by decide +kernel
theorem dX8_isTight_9 : decode cX8_isTight 9 = .ok (.if_icmp .ge 48, 3) := by decide +kernel
theorem dX8_isTight_12 : decode cX8_isTight 12 = .ok (.aload_n 0, 1) := by decide +kernel
theorem dX8_isTight_13 : decode cX8_isTight 13 = .ok (.getfield 95, 3) := by decide +kernel
theorem dX8_isTight_16 : decode cX8_isTight 16 = .ok (.iload_n 3, 1) := by decide +kernel
theorem dX8_isTight_17 : decode cX8_isTight 17 = .ok (.iaload, 1) := by decide +kernel
theorem dX8_isTight_18 : decode cX8_isTight 18 = .ok (.aload_n 0, 1) := by decide +kernel
theorem dX8_isTight_19 : decode cX8_isTight 19 = .ok (.getfield 77, 3) := by decide +kernel
theorem dX8_isTight_22 : decode cX8_isTight 22 = .ok (.if_icmp .ge 17, 3) := by decide +kernel
theorem dX8_isTight_25 : decode cX8_isTight 25 = .ok (.iload_n 2, 1) := by decide +kernel
theorem dX8_isTight_26 : decode cX8_isTight 26 = .ok (.iconst 1, 1) := by decide +kernel
theorem dX8_isTight_27 : decode cX8_isTight 27 = .ok (.aload_n 0, 1) := by decide +kernel
theorem dX8_isTight_28 : decode cX8_isTight 28 = .ok (.getfield 95, 3) := by decide +kernel
theorem dX8_isTight_31 : decode cX8_isTight 31 = .ok (.iload_n 3, 1) := by decide +kernel
theorem dX8_isTight_32 : decode cX8_isTight 32 = .ok (.iaload, 1) := by decide +kernel
theorem dX8_isTight_33 : decode cX8_isTight 33 = .ok (.ishl, 1) := by decide +kernel
theorem dX8_isTight_34 : decode cX8_isTight 34 = .ok (.ior, 1) := by decide +kernel
theorem dX8_isTight_35 : decode cX8_isTight 35 = .ok (.istore_n 2, 1) := by decide +kernel
theorem dX8_isTight_36 : decode cX8_isTight 36 = .ok (.goto 15, 3) := by decide +kernel
theorem dX8_isTight_39 : decode cX8_isTight 39 = .ok (.aload_n 0, 1) := by decide +kernel
theorem dX8_isTight_40 : decode cX8_isTight 40 = .ok (.iconst 1, 1) := by decide +kernel
theorem dX8_isTight_41 : decode cX8_isTight 41 = .ok (.iload_n 3, 1) := by decide +kernel
theorem dX8_isTight_42 : decode cX8_isTight 42 = .ok (.invokevirtual 261, 3) := by decide +kernel
theorem dX8_isTight_45 : decode cX8_isTight 45 = .ok (.iload_n 1, 1) := by decide +kernel
theorem dX8_isTight_46 : decode cX8_isTight 46 = .ok (.if_icmp .ne 5, 3) := by decide +kernel
theorem dX8_isTight_49 : decode cX8_isTight 49 = .ok (.iconst 0, 1) := by decide +kernel
theorem dX8_isTight_50 : decode cX8_isTight 50 = .ok (.ireturn, 1) := by decide +kernel
theorem dX8_isTight_51 : decode cX8_isTight 51 = .ok (.iinc 3 1, 3) := by decide +kernel
theorem dX8_isTight_54 : decode cX8_isTight 54 = .ok (.goto (-50), 3) := by decide +kernel
theorem dX8_isTight_57 : decode cX8_isTight 57 = .ok (.iconst 0, 1) := by decide +kernel
theorem dX8_isTight_58 : decode cX8_isTight 58 = .ok (.istore_n 3, 1) := by decide +kernel
theorem dX8_isTight_59 : decode cX8_isTight 59 = .ok (.iload_n 3, 1) := by decide +kernel
theorem dX8_isTight_60 : decode cX8_isTight 60 = .ok (.aload_n 0, 1) := by decide +kernel
theorem dX8_isTight_61 : decode cX8_isTight 61 = .ok (.getfield 77, 3) := by decide +kernel
theorem dX8_isTight_64 : decode cX8_isTight 64 = .ok (.if_icmp .ge 29, 3) := by decide +kernel
theorem dX8_isTight_67 : decode cX8_isTight 67 = .ok (.aload_n 0, 1) := by decide +kernel
theorem dX8_isTight_68 : decode cX8_isTight 68 = .ok (.iconst 0, 1) := by decide +kernel
theorem dX8_isTight_69 : decode cX8_isTight 69 = .ok (.iload_n 3, 1) := by decide +kernel
theorem dX8_isTight_70 : decode cX8_isTight 70 = .ok (.invokevirtual 261, 3) := by decide +kernel
theorem dX8_isTight_73 : decode cX8_isTight 73 = .ok (.iload_n 1, 1) := by decide +kernel
theorem dX8_isTight_74 : decode cX8_isTight 74 = .ok (.if_icmp .ne 13, 3) := by decide +kernel
theorem dX8_isTight_77 : decode cX8_isTight 77 = .ok (.iload_n 2, 1) := by decide +kernel
theorem dX8_isTight_78 : decode cX8_isTight 78 = .ok (.iload_n 3, 1) := by decide +kernel
theorem dX8_isTight_79 : decode cX8_isTight 79 = .ok (.ishr, 1) := by decide +kernel
theorem dX8_isTight_80 : decode cX8_isTight 80 = .ok (.iconst 1, 1) := by decide +kernel
theorem dX8_isTight_81 : decode cX8_isTight 81 = .ok (.iand, 1) := by decide +kernel
theorem dX8_isTight_82 : decode cX8_isTight 82 = .ok (.ifCond .ne 5, 3) := by decide +kernel
theorem dX8_isTight_85 : decode cX8_isTight 85 = .ok (.iconst 0, 1) := by decide +kernel
theorem dX8_isTight_86 : decode cX8_isTight 86 = .ok (.ireturn, 1) := by decide +kernel
theorem dX8_isTight_87 : decode cX8_isTight 87 = .ok (.iinc 3 1, 3) := by decide +kernel
theorem dX8_isTight_90 : decode cX8_isTight 90 = .ok (.goto (-31), 3) := by decide +kernel
theorem dX8_isTight_93 : decode cX8_isTight 93 = .ok (.iconst 1, 1) := by decide +kernel
theorem dX8_isTight_94 : decode cX8_isTight 94 = .ok (.ireturn, 1) := by decide +kernel
theorem dX8_goOn_0 : decode cX8_goOn 0 = .ok (.aload_n 0, 1) := by decide +kernel
theorem dX8_goOn_1 : decode cX8_goOn 1 = .ok (.getfield 271, 3) := by decide +kernel
theorem dX8_goOn_4 : decode cX8_goOn 4 = .ok (.ifCond .lt 144, 3) := by decide +kernel
theorem dX8_goOn_7 : decode cX8_goOn 7 = .ok (.aload_n 0, 1) := by decide +kernel
theorem dX8_goOn_8 : decode cX8_goOn 8 = .ok (.getfield 95, 3) := by decide +kernel
theorem dX8_goOn_11 : decode cX8_goOn 11 = .ok (.aload_n 0, 1) := by decide +kernel
theorem dX8_goOn_12 : decode cX8_goOn 12 = .ok (.getfield 271, 3) := by decide +kernel
theorem dX8_goOn_15 : decode cX8_goOn 15 = .ok (.dup2, 1) := by decide +kernel
theorem dX8_goOn_16 : decode cX8_goOn 16 = .ok (.iaload, 1) := by decide +kernel
theorem dX8_goOn_17 : decode cX8_goOn 17 = .ok (.iconst 1, 1) := by decide +kernel
theorem dX8_goOn_18 : decode cX8_goOn 18 = .ok (.iadd, 1) := by decide +kernel
theorem dX8_goOn_19 : decode cX8_goOn 19 = .ok (.iastore, 1) := by decide +kernel
theorem dX8_goOn_20 : decode cX8_goOn 20 = .ok (.aload_n 0, 1) := by decide +kernel
theorem dX8_goOn_21 : decode cX8_goOn 21 = .ok (.getfield 95, 3) := by decide +kernel
theorem dX8_goOn_24 : decode cX8_goOn 24 = .ok (.aload_n 0, 1) := by decide +kernel
theorem dX8_goOn_25 : decode cX8_goOn 25 = .ok (.getfield 271, 3) := by decide +kernel
theorem dX8_goOn_28 : decode cX8_goOn 28 = .ok (.iaload, 1) := by decide +kernel
theorem dX8_goOn_29 : decode cX8_goOn 29 = .ok (.aload_n 0, 1) := by decide +kernel
theorem dX8_goOn_30 : decode cX8_goOn 30 = .ok (.getfield 77, 3) := by decide +kernel
theorem dX8_goOn_33 : decode cX8_goOn 33 = .ok (.if_icmp .le 16, 3) := by decide +kernel
theorem dX8_goOn_36 : decode cX8_goOn 36 = .ok (.aload_n 0, 1) := by decide +kernel
theorem dX8_goOn_37 : decode cX8_goOn 37 = .ok (.dup, 1) := by decide +kernel
theorem dX8_goOn_38 : decode cX8_goOn 38 = .ok (.getfield 271, 3) := by decide +kernel
theorem dX8_goOn_41 : decode cX8_goOn 41 = .ok (.iconst 1, 1) := by decide +kernel
theorem dX8_goOn_42 : decode cX8_goOn 42 = .ok (.isub, 1) := by decide +kernel
theorem dX8_goOn_43 : decode cX8_goOn 43 = .ok (.putfield 271, 3) := by decide +kernel
theorem dX8_goOn_46 : decode cX8_goOn 46 = .ok (.goto (-46), 3) := by decide +kernel
theorem dX8_goOn_49 : decode cX8_goOn 49 = .ok (.aload_n 0, 1) := by decide +kernel
theorem dX8_goOn_50 : decode cX8_goOn 50 = .ok (.getfield 95, 3) := by decide +kernel
theorem dX8_goOn_53 : decode cX8_goOn 53 = .ok (.aload_n 0, 1) := by decide +kernel
theorem dX8_goOn_54 : decode cX8_goOn 54 = .ok (.getfield 271, 3) := by decide +kernel
theorem dX8_goOn_57 : decode cX8_goOn 57 = .ok (.iaload, 1) := by decide +kernel
theorem dX8_goOn_58 : decode cX8_goOn 58 = .ok (.aload_n 0, 1) := by decide +kernel
theorem dX8_goOn_59 : decode cX8_goOn 59 = .ok (.getfield 77, 3) := by decide +kernel
theorem dX8_goOn_62 : decode cX8_goOn 62 = .ok (.if_icmp .eq 35, 3) := by decide +kernel
theorem dX8_goOn_65 : decode cX8_goOn 65 = .ok (.aload_n 1, 1) := by decide +kernel
theorem dX8_goOn_66 : decode cX8_goOn 66 = .ok (.iconst 5, 1) := by decide +kernel
theorem dX8_goOn_67 : decode cX8_goOn 67 = .ok (.aload_n 0, 1) := by decide +kernel
theorem dX8_goOn_68 : decode cX8_goOn 68 = .ok (.getfield 271, 3) := by decide +kernel
theorem dX8_goOn_71 : decode cX8_goOn 71 = .ok (.imul, 1) := by decide +kernel
theorem dX8_goOn_72 : decode cX8_goOn 72 = .ok (.aload_n 0, 1) := by decide +kernel
theorem dX8_goOn_73 : decode cX8_goOn 73 = .ok (.getfield 95, 3) := by decide +kernel
theorem dX8_goOn_76 : decode cX8_goOn 76 = .ok (.aload_n 0, 1) := by decide +kernel
theorem dX8_goOn_77 : decode cX8_goOn 77 = .ok (.getfield 271, 3) := by decide +kernel
theorem dX8_goOn_80 : decode cX8_goOn 80 = .ok (.iaload, 1) := by decide +kernel
theorem dX8_goOn_81 : decode cX8_goOn 81 = .ok (.iadd, 1) := by decide +kernel
theorem dX8_goOn_82 : decode cX8_goOn 82 = .ok (.iaload, 1) := by decide +kernel
theorem dX8_goOn_83 : decode cX8_goOn 83 = .ok (.ifCond .le 18, 3) := by decide +kernel
theorem dX8_goOn_86 : decode cX8_goOn 86 = .ok (.aload_n 0, 1) := by decide +kernel
theorem dX8_goOn_87 : decode cX8_goOn 87 = .ok (.aload_n 0, 1) := by decide +kernel
theorem dX8_goOn_88 : decode cX8_goOn 88 = .ok (.getfield 271, 3) := by decide +kernel
theorem dX8_goOn_91 : decode cX8_goOn 91 = .ok (.invokevirtual 274, 3) := by decide +kernel
theorem dX8_goOn_94 : decode cX8_goOn 94 = .ok (.ifCond .eq 7, 3) := by decide +kernel
theorem dX8_goOn_97 : decode cX8_goOn 97 = .ok (.iconst 1, 1) := by decide +kernel
theorem dX8_goOn_98 : decode cX8_goOn 98 = .ok (.goto 4, 3) := by decide +kernel
theorem dX8_goOn_101 : decode cX8_goOn 101 = .ok (.iconst 0, 1) := by decide +kernel
theorem dX8_goOn_102 : decode cX8_goOn 102 = .ok (.istore_n 2, 1) := by decide +kernel
theorem dX8_goOn_103 : decode cX8_goOn 103 = .ok (.iload_n 2, 1) := by decide +kernel
theorem dX8_goOn_104 : decode cX8_goOn 104 = .ok (.ifCond .ne 6, 3) := by decide +kernel
theorem dX8_goOn_107 : decode cX8_goOn 107 = .ok (.goto (-107), 3) := by decide +kernel
theorem dX8_goOn_110 : decode cX8_goOn 110 = .ok (.aload_n 0, 1) := by decide +kernel
theorem dX8_goOn_111 : decode cX8_goOn 111 = .ok (.getfield 271, 3) := by decide +kernel
theorem dX8_goOn_114 : decode cX8_goOn 114 = .ok (.aload_n 0, 1) := by decide +kernel
theorem dX8_goOn_115 : decode cX8_goOn 115 = .ok (.getfield 77, 3) := by decide +kernel
theorem dX8_goOn_118 : decode cX8_goOn 118 = .ok (.iconst 1, 1) := by decide +kernel
theorem dX8_goOn_119 : decode cX8_goOn 119 = .ok (.isub, 1) := by decide +kernel
theorem dX8_goOn_120 : decode cX8_goOn 120 = .ok (.if_icmp .ne 5, 3) := by decide +kernel
theorem dX8_goOn_123 : decode cX8_goOn 123 = .ok (.iconst 1, 1) := by decide +kernel
theorem dX8_goOn_124 : decode cX8_goOn 124 = .ok (.ireturn, 1) := by decide +kernel
theorem dX8_goOn_125 : decode cX8_goOn 125 = .ok (.aload_n 0, 1) := by decide +kernel
theorem dX8_goOn_126 : decode cX8_goOn 126 = .ok (.dup, 1) := by decide +kernel
theorem dX8_goOn_127 : decode cX8_goOn 127 = .ok (.getfield 271, 3) := by decide +kernel
theorem dX8_goOn_130 : decode cX8_goOn 130 = .ok (.iconst 1, 1) := by decide +kernel
theorem dX8_goOn_131 : decode cX8_goOn 131 = .ok (.iadd, 1) := by decide +kernel
theorem dX8_goOn_132 : decode cX8_goOn 132 = .ok (.putfield 271, 3) := by decide +kernel
theorem dX8_goOn_135 : decode cX8_goOn 135 = .ok (.aload_n 0, 1) := by decide +kernel
theorem dX8_goOn_136 : decode cX8_goOn 136 = .ok (.getfield 95, 3) := by decide +kernel
theorem dX8_goOn_139 : decode cX8_goOn 139 = .ok (.aload_n 0, 1) := by decide +kernel
theorem dX8_goOn_140 : decode cX8_goOn 140 = .ok (.getfield 271, 3) := by decide +kernel
theorem dX8_goOn_143 : decode cX8_goOn 143 = .ok (.iconst (-1), 1) := by decide +kernel
theorem dX8_goOn_144 : decode cX8_goOn 144 = .ok (.iastore, 1) := by decide +kernel
theorem dX8_goOn_145 : decode cX8_goOn 145 = .ok (.goto (-145), 3) := by decide +kernel
theorem dX8_goOn_148 : decode cX8_goOn 148 = .ok (.iconst 0, 1) := by decide +kernel
theorem dX8_goOn_149 : decode cX8_goOn 149 = .ok (.ireturn, 1) := by decide +kernel
theorem dX8_begin_0 : decode cX8_begin 0 = .ok (.aload_n 0, 1) := by decide +kernel
theorem dX8_begin_1 : decode cX8_begin 1 = .ok (.iconst 0, 1) := by decide +kernel
theorem dX8_begin_2 : decode cX8_begin 2 = .ok (.putfield 271, 3) := by decide +kernel
theorem dX8_begin_5 : decode cX8_begin 5 = .ok (.aload_n 0, 1) := by decide +kernel
theorem dX8_begin_6 : decode cX8_begin 6 = .ok (.getfield 95, 3) := by decide +kernel
theorem dX8_begin_9 : decode cX8_begin 9 = .ok (.iconst 0, 1) := by decide +kernel
theorem dX8_begin_10 : decode cX8_begin 10 = .ok (.iconst (-1), 1) := by decide +kernel
theorem dX8_begin_11 : decode cX8_begin 11 = .ok (.iastore, 1) := by decide +kernel
theorem dX8_begin_12 : decode cX8_begin 12 = .ok (.return_, 1) := by decide +kernel
theorem dX8_takeRound_0 : decode cX8_takeRound 0 = .ok (.aload_n 0, 1) := by decide +kernel
theorem dX8_takeRound_1 : decode cX8_takeRound 1 = .ok (.invokevirtual 268, 3) := by decide +kernel
theorem dX8_takeRound_4 : decode cX8_takeRound 4 = .ok (.istore_n 1, 1) := by decide +kernel
theorem dX8_takeRound_5 : decode cX8_takeRound 5 = .ok (.aload_n 0, 1) := by decide +kernel
theorem dX8_takeRound_6 : decode cX8_takeRound 6 = .ok (.invokevirtual 277, 3) := by decide +kernel
theorem dX8_takeRound_9 : decode cX8_takeRound 9 = .ok (.aload_n 0, 1) := by decide +kernel
theorem dX8_takeRound_10 : decode cX8_takeRound 10 = .ok (.aload_n 0, 1) := by decide +kernel
theorem dX8_takeRound_11 : decode cX8_takeRound 11 = .ok (.getfield 83, 3) := by decide +kernel
theorem dX8_takeRound_14 : decode cX8_takeRound 14 = .ok (.invokevirtual 280, 3) := by decide +kernel
theorem dX8_takeRound_17 : decode cX8_takeRound 17 = .ok (.istore_n 2, 1) := by decide +kernel
theorem dX8_takeRound_18 : decode cX8_takeRound 18 = .ok (.iload_n 2, 1) := by decide +kernel
theorem dX8_takeRound_19 : decode cX8_takeRound 19 = .ok (.ifCond .eq 23, 3) := by decide +kernel
theorem dX8_takeRound_22 : decode cX8_takeRound 22 = .ok (.aload_n 0, 1) := by decide +kernel
theorem dX8_takeRound_23 : decode cX8_takeRound 23 = .ok (.iload_n 1, 1) := by decide +kernel
theorem dX8_takeRound_24 : decode cX8_takeRound 24 = .ok (.invokevirtual 284, 3) := by decide +kernel
theorem dX8_takeRound_27 : decode cX8_takeRound 27 = .ok (.ifCond .ne 15, 3) := by decide +kernel
theorem dX8_takeRound_30 : decode cX8_takeRound 30 = .ok (.aload_n 0, 1) := by decide +kernel
theorem dX8_takeRound_31 : decode cX8_takeRound 31 = .ok (.aload_n 0, 1) := by decide +kernel
theorem dX8_takeRound_32 : decode cX8_takeRound 32 = .ok (.getfield 83, 3) := by decide +kernel
theorem dX8_takeRound_35 : decode cX8_takeRound 35 = .ok (.invokevirtual 280, 3) := by decide +kernel
theorem dX8_takeRound_38 : decode cX8_takeRound 38 = .ok (.istore_n 2, 1) := by decide +kernel
theorem dX8_takeRound_39 : decode cX8_takeRound 39 = .ok (.goto (-21), 3) := by decide +kernel
theorem dX8_takeRound_42 : decode cX8_takeRound 42 = .ok (.iconst 0, 1) := by decide +kernel
theorem dX8_takeRound_43 : decode cX8_takeRound 43 = .ok (.istore_n 3, 1) := by decide +kernel
theorem dX8_takeRound_44 : decode cX8_takeRound 44 = .ok (.iload_n 3, 1) := by decide +kernel
theorem dX8_takeRound_45 : decode cX8_takeRound 45 = .ok (.aload_n 0, 1) := by decide +kernel
theorem dX8_takeRound_46 : decode cX8_takeRound 46 = .ok (.getfield 77, 3) := by decide +kernel
theorem dX8_takeRound_49 : decode cX8_takeRound 49 = .ok (.if_icmp .ge 41, 3) := by decide +kernel
theorem dX8_takeRound_52 : decode cX8_takeRound 52 = .ok (.aload_n 0, 1) := by decide +kernel
theorem dX8_takeRound_53 : decode cX8_takeRound 53 = .ok (.getfield 95, 3) := by decide +kernel
theorem dX8_takeRound_56 : decode cX8_takeRound 56 = .ok (.iload_n 3, 1) := by decide +kernel
theorem dX8_takeRound_57 : decode cX8_takeRound 57 = .ok (.iaload, 1) := by decide +kernel
theorem dX8_takeRound_58 : decode cX8_takeRound 58 = .ok (.aload_n 0, 1) := by decide +kernel
theorem dX8_takeRound_59 : decode cX8_takeRound 59 = .ok (.getfield 77, 3) := by decide +kernel
theorem dX8_takeRound_62 : decode cX8_takeRound 62 = .ok (.if_icmp .ge 22, 3) := by decide +kernel
theorem dX8_takeRound_65 : decode cX8_takeRound 65 = .ok (.aload_n 0, 1) := by decide +kernel
theorem dX8_takeRound_66 : decode cX8_takeRound 66 = .ok (.getfield 83, 3) := by decide +kernel
theorem dX8_takeRound_69 : decode cX8_takeRound 69 = .ok (.iconst 5, 1) := by decide +kernel
theorem dX8_takeRound_70 : decode cX8_takeRound 70 = .ok (.iload_n 3, 1) := by decide +kernel
theorem dX8_takeRound_71 : decode cX8_takeRound 71 = .ok (.imul, 1) := by decide +kernel
theorem dX8_takeRound_72 : decode cX8_takeRound 72 = .ok (.aload_n 0, 1) := by decide +kernel
theorem dX8_takeRound_73 : decode cX8_takeRound 73 = .ok (.getfield 95, 3) := by decide +kernel
theorem dX8_takeRound_76 : decode cX8_takeRound 76 = .ok (.iload_n 3, 1) := by decide +kernel
theorem dX8_takeRound_77 : decode cX8_takeRound 77 = .ok (.iaload, 1) := by decide +kernel
theorem dX8_takeRound_78 : decode cX8_takeRound 78 = .ok (.iadd, 1) := by decide +kernel
theorem dX8_takeRound_79 : decode cX8_takeRound 79 = .ok (.dup2, 1) := by decide +kernel
theorem dX8_takeRound_80 : decode cX8_takeRound 80 = .ok (.iaload, 1) := by decide +kernel
theorem dX8_takeRound_81 : decode cX8_takeRound 81 = .ok (.iconst 1, 1) := by decide +kernel
theorem dX8_takeRound_82 : decode cX8_takeRound 82 = .ok (.isub, 1) := by decide +kernel
theorem dX8_takeRound_83 : decode cX8_takeRound 83 = .ok (.iastore, 1) := by decide +kernel
theorem dX8_takeRound_84 : decode cX8_takeRound 84 = .ok (.iinc 3 1, 3) := by decide +kernel
theorem dX8_takeRound_87 : decode cX8_takeRound 87 = .ok (.goto (-43), 3) := by decide +kernel
theorem dX8_takeRound_90 : decode cX8_takeRound 90 = .ok (.return_, 1) := by decide +kernel
theorem dX8_parted_0 : decode cX8_parted 0 = .ok (.aload_n 0, 1) := by decide +kernel
theorem dX8_parted_1 : decode cX8_parted 1 = .ok (.invokevirtual 287, 3) := by decide +kernel
theorem dX8_parted_4 : decode cX8_parted 4 = .ok (.istore_n 3, 1) := by decide +kernel
theorem dX8_parted_5 : decode cX8_parted 5 = .ok (.iload_n 1, 1) := by decide +kernel
theorem dX8_parted_6 : decode cX8_parted 6 = .ok (.iconst 0, 1) := by decide +kernel
theorem dX8_parted_7 : decode cX8_parted 7 = .ok (.iload_n 3, 1) := by decide +kernel
theorem dX8_parted_8 : decode cX8_parted 8 = .ok (.iconst 1, 1) := by decide +kernel
theorem dX8_parted_9 : decode cX8_parted 9 = .ok (.isub, 1) := by decide +kernel
theorem dX8_parted_10 : decode cX8_parted 10 = .ok (.invokestatic 116, 3) := by decide +kernel
theorem dX8_parted_13 : decode cX8_parted 13 = .ok (.ifCond .eq 11, 3) := by decide +kernel
theorem dX8_parted_16 : decode cX8_parted 16 = .ok (.aload_n 0, 1) := by decide +kernel
theorem dX8_parted_17 : decode cX8_parted 17 = .ok (.iload_n 2, 1) := by decide +kernel
theorem dX8_parted_18 : decode cX8_parted 18 = .ok (.invokevirtual 258, 3) := by decide +kernel
theorem dX8_parted_21 : decode cX8_parted 21 = .ok (.ifCond .ne 5, 3) := by decide +kernel
theorem dX8_parted_24 : decode cX8_parted 24 = .ok (.iconst (-1), 1) := by decide +kernel
theorem dX8_parted_25 : decode cX8_parted 25 = .ok (.ireturn, 1) := by decide +kernel
theorem dX8_parted_26 : decode cX8_parted 26 = .ok (.iconst 0, 1) := by decide +kernel
theorem dX8_parted_27 : decode cX8_parted 27 = .ok (.istore 4, 2) := by decide +kernel
theorem dX8_parted_29 : decode cX8_parted 29 = .ok (.iload 4, 2) := by decide +kernel
theorem dX8_parted_31 : decode cX8_parted 31 = .ok (.iload_n 1, 1) := by decide +kernel
theorem dX8_parted_32 : decode cX8_parted 32 = .ok (.if_icmp .gt 13, 3) := by decide +kernel
theorem dX8_parted_35 : decode cX8_parted 35 = .ok (.aload_n 0, 1) := by decide +kernel
theorem dX8_parted_36 : decode cX8_parted 36 = .ok (.invokevirtual 290, 3) := by decide +kernel
theorem dX8_parted_39 : decode cX8_parted 39 = .ok (.iinc 4 1, 3) := by decide +kernel
theorem dX8_parted_42 : decode cX8_parted 42 = .ok (.goto (-13), 3) := by decide +kernel
theorem dX8_parted_45 : decode cX8_parted 45 = .ok (.aload_n 0, 1) := by decide +kernel
theorem dX8_parted_46 : decode cX8_parted 46 = .ok (.getfield 95, 3) := by decide +kernel
theorem dX8_parted_49 : decode cX8_parted 49 = .ok (.iload_n 2, 1) := by decide +kernel
theorem dX8_parted_50 : decode cX8_parted 50 = .ok (.iaload, 1) := by decide +kernel
theorem dX8_parted_51 : decode cX8_parted 51 = .ok (.aload_n 0, 1) := by decide +kernel
theorem dX8_parted_52 : decode cX8_parted 52 = .ok (.getfield 77, 3) := by decide +kernel
theorem dX8_parted_55 : decode cX8_parted 55 = .ok (.if_icmp .ne 8, 3) := by decide +kernel
theorem dX8_parted_58 : decode cX8_parted 58 = .ok (.bipush (-9), 2) := by decide +kernel
theorem dX8_parted_60 : decode cX8_parted 60 = .ok (.goto 9, 3) := by decide +kernel
theorem dX8_parted_63 : decode cX8_parted 63 = .ok (.aload_n 0, 1) := by decide +kernel
theorem dX8_parted_64 : decode cX8_parted 64 = .ok (.getfield 95, 3) := by decide +kernel
theorem dX8_parted_67 : decode cX8_parted 67 = .ok (.iload_n 2, 1) := by decide +kernel
theorem dX8_parted_68 : decode cX8_parted 68 = .ok (.iaload, 1) := by decide +kernel
theorem dX8_parted_69 : decode cX8_parted 69 = .ok (.ireturn, 1) := by decide +kernel
theorem dX8_changes_0 : decode cX8_changes 0 = .ok (.aload_n 0, 1) := by decide +kernel
theorem dX8_changes_1 : decode cX8_changes 1 = .ok (.invokevirtual 287, 3) := by decide +kernel
theorem dX8_changes_4 : decode cX8_changes 4 = .ok (.istore_n 1, 1) := by decide +kernel
theorem dX8_changes_5 : decode cX8_changes 5 = .ok (.iconst 0, 1) := by decide +kernel
theorem dX8_changes_6 : decode cX8_changes 6 = .ok (.istore_n 2, 1) := by decide +kernel
theorem dX8_changes_7 : decode cX8_changes 7 = .ok (.iconst 0, 1) := by decide +kernel
theorem dX8_changes_8 : decode cX8_changes 8 = .ok (.istore_n 3, 1) := by decide +kernel
theorem dX8_changes_9 : decode cX8_changes 9 = .ok (.iload_n 3, 1) := by decide +kernel
theorem dX8_changes_10 : decode cX8_changes 10 = .ok (.iload_n 1, 1) := by decide +kernel
theorem dX8_changes_11 : decode cX8_changes 11 = .ok (.if_icmp .ge 96, 3) := by decide +kernel
theorem dX8_changes_14 : decode cX8_changes 14 = .ok (.aload_n 0, 1) := by decide +kernel
theorem dX8_changes_15 : decode cX8_changes 15 = .ok (.invokevirtual 290, 3) := by decide +kernel
theorem dX8_changes_18 : decode cX8_changes 18 = .ok (.iload_n 3, 1) := by decide +kernel
theorem dX8_changes_19 : decode cX8_changes 19 = .ok (.ifCond .ne 7, 3) := by decide +kernel
theorem dX8_changes_22 : decode cX8_changes 22 = .ok (.iconst 1, 1) := by decide +kernel
theorem dX8_changes_23 : decode cX8_changes 23 = .ok (.goto 4, 3) := by decide +kernel
theorem dX8_changes_26 : decode cX8_changes 26 = .ok (.iconst 0, 1) := by decide +kernel
theorem dX8_changes_27 : decode cX8_changes 27 = .ok (.istore 4, 2) := by decide +kernel
theorem dX8_changes_29 : decode cX8_changes 29 = .ok (.iconst 0, 1) := by decide +kernel
theorem dX8_changes_30 : decode cX8_changes 30 = .ok (.istore 5, 2) := by decide +kernel
theorem dX8_changes_32 : decode cX8_changes 32 = .ok (.iload 5, 2) := by decide +kernel
theorem dX8_changes_34 : decode cX8_changes 34 = .ok (.aload_n 0, 1) := by decide +kernel
theorem dX8_changes_35 : decode cX8_changes 35 = .ok (.getfield 77, 3) := by decide +kernel
theorem dX8_changes_38 : decode cX8_changes 38 = .ok (.if_icmp .ge 50, 3) := by decide +kernel
theorem dX8_changes_41 : decode cX8_changes 41 = .ok (.iload 4, 2) := by decide +kernel
theorem dX8_changes_43 : decode cX8_changes 43 = .ok (.aload_n 0, 1) := by decide +kernel
theorem dX8_changes_44 : decode cX8_changes 44 = .ok (.getfield 95, 3) := by decide +kernel
theorem dX8_changes_47 : decode cX8_changes 47 = .ok (.iload 5, 2) := by decide +kernel
theorem dX8_changes_49 : decode cX8_changes 49 = .ok (.iaload, 1) := by decide +kernel
theorem dX8_changes_50 : decode cX8_changes 50 = .ok (.aload_n 0, 1) := by decide +kernel
theorem dX8_changes_51 : decode cX8_changes 51 = .ok (.getfield 101, 3) := by decide +kernel
theorem dX8_changes_54 : decode cX8_changes 54 = .ok (.iload 5, 2) := by decide +kernel
theorem dX8_changes_56 : decode cX8_changes 56 = .ok (.iaload, 1) := by decide +kernel
theorem dX8_changes_57 : decode cX8_changes 57 = .ok (.if_icmp .eq 7, 3) := by decide +kernel
theorem dX8_changes_60 : decode cX8_changes 60 = .ok (.iconst 1, 1) := by decide +kernel
theorem dX8_changes_61 : decode cX8_changes 61 = .ok (.goto 4, 3) := by decide +kernel
theorem dX8_changes_64 : decode cX8_changes 64 = .ok (.iconst 0, 1) := by decide +kernel
theorem dX8_changes_65 : decode cX8_changes 65 = .ok (.ior, 1) := by decide +kernel
theorem dX8_changes_66 : decode cX8_changes 66 = .ok (.istore 4, 2) := by decide +kernel
theorem dX8_changes_68 : decode cX8_changes 68 = .ok (.aload_n 0, 1) := by decide +kernel
theorem dX8_changes_69 : decode cX8_changes 69 = .ok (.getfield 101, 3) := by decide +kernel
theorem dX8_changes_72 : decode cX8_changes 72 = .ok (.iload 5, 2) := by decide +kernel
theorem dX8_changes_74 : decode cX8_changes 74 = .ok (.aload_n 0, 1) := by decide +kernel
theorem dX8_changes_75 : decode cX8_changes 75 = .ok (.getfield 95, 3) := by decide +kernel
theorem dX8_changes_78 : decode cX8_changes 78 = .ok (.iload 5, 2) := by decide +kernel
theorem dX8_changes_80 : decode cX8_changes 80 = .ok (.iaload, 1) := by decide +kernel
theorem dX8_changes_81 : decode cX8_changes 81 = .ok (.iastore, 1) := by decide +kernel
theorem dX8_changes_82 : decode cX8_changes 82 = .ok (.iinc 5 1, 3) := by decide +kernel
theorem dX8_changes_85 : decode cX8_changes 85 = .ok (.goto (-53), 3) := by decide +kernel
theorem dX8_changes_88 : decode cX8_changes 88 = .ok (.iload_n 2, 1) := by decide +kernel
theorem dX8_changes_89 : decode cX8_changes 89 = .ok (.iload 4, 2) := by decide +kernel
theorem dX8_changes_91 : decode cX8_changes 91 = .ok (.ifCond .eq 7, 3) := by decide +kernel
theorem dX8_changes_94 : decode cX8_changes 94 = .ok (.iconst 1, 1) := by decide +kernel
theorem dX8_changes_95 : decode cX8_changes 95 = .ok (.goto 4, 3) := by decide +kernel
theorem dX8_changes_98 : decode cX8_changes 98 = .ok (.iconst 0, 1) := by decide +kernel
theorem dX8_changes_99 : decode cX8_changes 99 = .ok (.iadd, 1) := by decide +kernel
theorem dX8_changes_100 : decode cX8_changes 100 = .ok (.istore_n 2, 1) := by decide +kernel
theorem dX8_changes_101 : decode cX8_changes 101 = .ok (.iinc 3 1, 3) := by decide +kernel
theorem dX8_changes_104 : decode cX8_changes 104 = .ok (.goto (-95), 3) := by decide +kernel
theorem dX8_changes_107 : decode cX8_changes 107 = .ok (.iload_n 2, 1) := by decide +kernel
theorem dX8_changes_108 : decode cX8_changes 108 = .ok (.ireturn, 1) := by decide +kernel
theorem dX8_matchGreatest_0 : decode cX8_matchGreatest 0 = .ok (.iconst (-1), 1) := by decide +kernel
theorem dX8_matchGreatest_1 : decode cX8_matchGreatest 1 = .ok (.istore_n 1, 1) := by decide +kernel
theorem dX8_matchGreatest_2 : decode cX8_matchGreatest 2 = .ok (.aload_n 0, 1) := by decide +kernel
theorem dX8_matchGreatest_3 : decode cX8_matchGreatest 3 = .ok (.invokevirtual 277, 3) := by decide +kernel
theorem dX8_matchGreatest_6 : decode cX8_matchGreatest 6 = .ok (.aload_n 0, 1) := by decide +kernel
theorem dX8_matchGreatest_7 : decode cX8_matchGreatest 7 = .ok (.aload_n 0, 1) := by decide +kernel
theorem dX8_matchGreatest_8 : decode cX8_matchGreatest 8 = .ok (.getfield 86, 3) := by decide +kernel
theorem dX8_matchGreatest_11 : decode cX8_matchGreatest 11 = .ok (.invokevirtual 280, 3) := by decide +kernel
theorem dX8_matchGreatest_14 : decode cX8_matchGreatest 14 = .ok (.ifCond .eq 112, 3) := by decide +kernel
theorem dX8_matchGreatest_17 : decode cX8_matchGreatest 17 = .ok (.iconst 0, 1) := by decide +kernel
theorem dX8_matchGreatest_18 : decode cX8_matchGreatest 18 = .ok (.istore_n 2, 1) := by decide +kernel
theorem dX8_matchGreatest_19 : decode cX8_matchGreatest 19 = .ok (.iconst 0, 1) := by decide +kernel
theorem dX8_matchGreatest_20 : decode cX8_matchGreatest 20 = .ok (.istore_n 3, 1) := by decide +kernel
theorem dX8_matchGreatest_21 : decode cX8_matchGreatest 21 = .ok (.iload_n 3, 1) := by decide +kernel
theorem dX8_matchGreatest_22 : decode cX8_matchGreatest 22 = .ok (.aload_n 0, 1) := by decide +kernel
theorem dX8_matchGreatest_23 : decode cX8_matchGreatest 23 = .ok (.getfield 77, 3) := by decide +kernel
theorem dX8_matchGreatest_26 : decode cX8_matchGreatest 26 = .ok (.if_icmp .ge 44, 3) := by decide +kernel
theorem dX8_matchGreatest_29 : decode cX8_matchGreatest 29 = .ok (.iload_n 2, 1) := by decide +kernel
theorem dX8_matchGreatest_30 : decode cX8_matchGreatest 30 = .ok (.aload_n 0, 1) := by decide +kernel
theorem dX8_matchGreatest_31 : decode cX8_matchGreatest 31 = .ok (.getfield 95, 3) := by decide +kernel
theorem dX8_matchGreatest_34 : decode cX8_matchGreatest 34 = .ok (.iload_n 3, 1) := by decide +kernel
theorem dX8_matchGreatest_35 : decode cX8_matchGreatest 35 = .ok (.iaload, 1) := by decide +kernel
theorem dX8_matchGreatest_36 : decode cX8_matchGreatest 36 = .ok (.aload_n 0, 1) := by decide +kernel
theorem dX8_matchGreatest_37 : decode cX8_matchGreatest 37 = .ok (.getfield 77, 3) := by decide +kernel
theorem dX8_matchGreatest_40 : decode cX8_matchGreatest 40 = .ok (.if_icmp .ge 21, 3) := by decide +kernel
theorem dX8_matchGreatest_43 : decode cX8_matchGreatest 43 = .ok (.aload_n 0, 1) := by decide +kernel
theorem dX8_matchGreatest_44 : decode cX8_matchGreatest 44 = .ok (.getfield 86, 3) := by decide +kernel
theorem dX8_matchGreatest_47 : decode cX8_matchGreatest 47 = .ok (.iconst 5, 1) := by decide +kernel
theorem dX8_matchGreatest_48 : decode cX8_matchGreatest 48 = .ok (.iload_n 3, 1) := by decide +kernel
theorem dX8_matchGreatest_49 : decode cX8_matchGreatest 49 = .ok (.imul, 1) := by decide +kernel
theorem dX8_matchGreatest_50 : decode cX8_matchGreatest 50 = .ok (.aload_n 0, 1) := by decide +kernel
theorem dX8_matchGreatest_51 : decode cX8_matchGreatest 51 = .ok (.getfield 95, 3) := by decide +kernel
theorem dX8_matchGreatest_54 : decode cX8_matchGreatest 54 = .ok (.iload_n 3, 1) := by decide +kernel
theorem dX8_matchGreatest_55 : decode cX8_matchGreatest 55 = .ok (.iaload, 1) := by decide +kernel
theorem dX8_matchGreatest_56 : decode cX8_matchGreatest 56 = .ok (.iadd, 1) := by decide +kernel
theorem dX8_matchGreatest_57 : decode cX8_matchGreatest 57 = .ok (.iaload, 1) := by decide +kernel
theorem dX8_matchGreatest_58 : decode cX8_matchGreatest 58 = .ok (.goto 4, 3) := by decide +kernel
theorem dX8_matchGreatest_61 : decode cX8_matchGreatest 61 = .ok (.iconst 0, 1) := by decide +kernel
theorem dX8_matchGreatest_62 : decode cX8_matchGreatest 62 = .ok (.iadd, 1) := by decide +kernel
theorem dX8_matchGreatest_63 : decode cX8_matchGreatest 63 = .ok (.istore_n 2, 1) := by decide +kernel
theorem dX8_matchGreatest_64 : decode cX8_matchGreatest 64 = .ok (.iinc 3 1, 3) := by decide +kernel
theorem dX8_matchGreatest_67 : decode cX8_matchGreatest 67 = .ok (.goto (-46), 3) := by decide +kernel
theorem dX8_matchGreatest_70 : decode cX8_matchGreatest 70 = .ok (.iload_n 2, 1) := by decide +kernel
theorem dX8_matchGreatest_71 : decode cX8_matchGreatest 71 = .ok (.iload_n 1, 1) := by decide +kernel
theorem dX8_matchGreatest_72 : decode cX8_matchGreatest 72 = .ok (.if_icmp .le 51, 3) := by decide +kernel
theorem dX8_matchGreatest_75 : decode cX8_matchGreatest 75 = .ok (.iload_n 2, 1) := by decide +kernel
theorem dX8_matchGreatest_76 : decode cX8_matchGreatest 76 = .ok (.istore_n 1, 1) := by decide +kernel
theorem dX8_matchGreatest_77 : decode cX8_matchGreatest 77 = .ok (.iconst 0, 1) := by decide +kernel
theorem dX8_matchGreatest_78 : decode cX8_matchGreatest 78 = .ok (.istore_n 3, 1) := by decide +kernel
theorem dX8_matchGreatest_79 : decode cX8_matchGreatest 79 = .ok (.iload_n 3, 1) := by decide +kernel
theorem dX8_matchGreatest_80 : decode cX8_matchGreatest 80 = .ok (.aload_n 0, 1) := by decide +kernel
theorem dX8_matchGreatest_81 : decode cX8_matchGreatest 81 = .ok (.getfield 77, 3) := by decide +kernel
theorem dX8_matchGreatest_84 : decode cX8_matchGreatest 84 = .ok (.if_icmp .ge 39, 3) := by decide +kernel
theorem dX8_matchGreatest_87 : decode cX8_matchGreatest 87 = .ok (.aload_n 0, 1) := by decide +kernel
theorem dX8_matchGreatest_88 : decode cX8_matchGreatest 88 = .ok (.getfield 98, 3) := by decide +kernel
theorem dX8_matchGreatest_91 : decode cX8_matchGreatest 91 = .ok (.iload_n 3, 1) := by decide +kernel
theorem dX8_matchGreatest_92 : decode cX8_matchGreatest 92 = .ok (.aload_n 0, 1) := by decide +kernel
theorem dX8_matchGreatest_93 : decode cX8_matchGreatest 93 = .ok (.getfield 95, 3) := by decide +kernel
theorem dX8_matchGreatest_96 : decode cX8_matchGreatest 96 = .ok (.iload_n 3, 1) := by decide +kernel
theorem dX8_matchGreatest_97 : decode cX8_matchGreatest 97 = .ok (.iaload, 1) := by decide +kernel
theorem dX8_matchGreatest_98 : decode cX8_matchGreatest 98 = .ok (.aload_n 0, 1) := by decide +kernel
theorem dX8_matchGreatest_99 : decode cX8_matchGreatest 99 = .ok (.getfield 77, 3) := by decide +kernel
theorem dX8_matchGreatest_102 : decode cX8_matchGreatest 102 = .ok (.if_icmp .ge 12, 3) := by decide +kernel
theorem dX8_matchGreatest_105 : decode cX8_matchGreatest 105 = .ok (.aload_n 0, 1) := by decide +kernel
theorem dX8_matchGreatest_106 : decode cX8_matchGreatest 106 = .ok (.getfield 95, 3) := by decide +kernel
theorem dX8_matchGreatest_109 : decode cX8_matchGreatest 109 = .ok (.iload_n 3, 1) := by decide +kernel
theorem dX8_matchGreatest_110 : decode cX8_matchGreatest 110 = .ok (.iaload, 1) := by decide +kernel
theorem dX8_matchGreatest_111 : decode cX8_matchGreatest 111 = .ok (.goto 5, 3) := by decide +kernel
theorem dX8_matchGreatest_114 : decode cX8_matchGreatest 114 = .ok (.bipush (-9), 2) := by decide +kernel
theorem dX8_matchGreatest_116 : decode cX8_matchGreatest 116 = .ok (.iastore, 1) := by decide +kernel
theorem dX8_matchGreatest_117 : decode cX8_matchGreatest 117 = .ok (.iinc 3 1, 3) := by decide +kernel
theorem dX8_matchGreatest_120 : decode cX8_matchGreatest 120 = .ok (.goto (-41), 3) := by decide +kernel
theorem dX8_matchGreatest_123 : decode cX8_matchGreatest 123 = .ok (.goto (-117), 3) := by decide +kernel
theorem dX8_matchGreatest_126 : decode cX8_matchGreatest 126 = .ok (.return_, 1) := by decide +kernel
theorem dX8_isMatched_0 : decode cX8_isMatched 0 = .ok (.iconst 0, 1) := by decide +kernel
theorem dX8_isMatched_1 : decode cX8_isMatched 1 = .ok (.istore_n 2, 1) := by decide +kernel
theorem dX8_isMatched_2 : decode cX8_isMatched 2 = .ok (.iload_n 2, 1) := by decide +kernel
theorem dX8_isMatched_3 : decode cX8_isMatched 3 = .ok (.aload_n 0, 1) := by decide +kernel
theorem dX8_isMatched_4 : decode cX8_isMatched 4 = .ok (.getfield 77, 3) := by decide +kernel
theorem dX8_isMatched_7 : decode cX8_isMatched 7 = .ok (.if_icmp .ge 21, 3) := by decide +kernel
theorem dX8_isMatched_10 : decode cX8_isMatched 10 = .ok (.aload_n 0, 1) := by decide +kernel
theorem dX8_isMatched_11 : decode cX8_isMatched 11 = .ok (.getfield 98, 3) := by decide +kernel
theorem dX8_isMatched_14 : decode cX8_isMatched 14 = .ok (.iload_n 2, 1) := by decide +kernel
theorem dX8_isMatched_15 : decode cX8_isMatched 15 = .ok (.iaload, 1) := by decide +kernel
theorem dX8_isMatched_16 : decode cX8_isMatched 16 = .ok (.iload_n 1, 1) := by decide +kernel
theorem dX8_isMatched_17 : decode cX8_isMatched 17 = .ok (.if_icmp .ne 5, 3) := by decide +kernel
theorem dX8_isMatched_20 : decode cX8_isMatched 20 = .ok (.iconst 1, 1) := by decide +kernel
theorem dX8_isMatched_21 : decode cX8_isMatched 21 = .ok (.ireturn, 1) := by decide +kernel
theorem dX8_isMatched_22 : decode cX8_isMatched 22 = .ok (.iinc 2 1, 3) := by decide +kernel
theorem dX8_isMatched_25 : decode cX8_isMatched 25 = .ok (.goto (-23), 3) := by decide +kernel
theorem dX8_isMatched_28 : decode cX8_isMatched 28 = .ok (.iconst 0, 1) := by decide +kernel
theorem dX8_isMatched_29 : decode cX8_isMatched 29 = .ok (.ireturn, 1) := by decide +kernel
theorem dX8_takenBy_0 : decode cX8_takenBy 0 = .ok (.iconst 0, 1) := by decide +kernel
theorem dX8_takenBy_1 : decode cX8_takenBy 1 = .ok (.istore_n 2, 1) := by decide +kernel
theorem dX8_takenBy_2 : decode cX8_takenBy 2 = .ok (.iload_n 2, 1) := by decide +kernel
theorem dX8_takenBy_3 : decode cX8_takenBy 3 = .ok (.aload_n 0, 1) := by decide +kernel
theorem dX8_takenBy_4 : decode cX8_takenBy 4 = .ok (.getfield 77, 3) := by decide +kernel
theorem dX8_takenBy_7 : decode cX8_takenBy 7 = .ok (.if_icmp .ge 49, 3) := by decide +kernel
theorem dX8_takenBy_10 : decode cX8_takenBy 10 = .ok (.aload_n 0, 1) := by decide +kernel
theorem dX8_takenBy_11 : decode cX8_takenBy 11 = .ok (.getfield 92, 3) := by decide +kernel
theorem dX8_takenBy_14 : decode cX8_takenBy 14 = .ok (.iload_n 1, 1) := by decide +kernel
theorem dX8_takenBy_15 : decode cX8_takenBy 15 = .ok (.iaload, 1) := by decide +kernel
theorem dX8_takenBy_16 : decode cX8_takenBy 16 = .ok (.iload_n 2, 1) := by decide +kernel
theorem dX8_takenBy_17 : decode cX8_takenBy 17 = .ok (.iadd, 1) := by decide +kernel
theorem dX8_takenBy_18 : decode cX8_takenBy 18 = .ok (.aload_n 0, 1) := by decide +kernel
theorem dX8_takenBy_19 : decode cX8_takenBy 19 = .ok (.getfield 77, 3) := by decide +kernel
theorem dX8_takenBy_22 : decode cX8_takenBy 22 = .ok (.irem, 1) := by decide +kernel
theorem dX8_takenBy_23 : decode cX8_takenBy 23 = .ok (.istore_n 3, 1) := by decide +kernel
theorem dX8_takenBy_24 : decode cX8_takenBy 24 = .ok (.aload_n 0, 1) := by decide +kernel
theorem dX8_takenBy_25 : decode cX8_takenBy 25 = .ok (.getfield 98, 3) := by decide +kernel
theorem dX8_takenBy_28 : decode cX8_takenBy 28 = .ok (.iload_n 3, 1) := by decide +kernel
theorem dX8_takenBy_29 : decode cX8_takenBy 29 = .ok (.iaload, 1) := by decide +kernel
theorem dX8_takenBy_30 : decode cX8_takenBy 30 = .ok (.bipush (-9), 2) := by decide +kernel
theorem dX8_takenBy_32 : decode cX8_takenBy 32 = .ok (.if_icmp .ne 18, 3) := by decide +kernel
theorem dX8_takenBy_35 : decode cX8_takenBy 35 = .ok (.aload_n 0, 1) := by decide +kernel
theorem dX8_takenBy_36 : decode cX8_takenBy 36 = .ok (.getfield 86, 3) := by decide +kernel
theorem dX8_takenBy_39 : decode cX8_takenBy 39 = .ok (.iconst 5, 1) := by decide +kernel
theorem dX8_takenBy_40 : decode cX8_takenBy 40 = .ok (.iload_n 3, 1) := by decide +kernel
theorem dX8_takenBy_41 : decode cX8_takenBy 41 = .ok (.imul, 1) := by decide +kernel
theorem dX8_takenBy_42 : decode cX8_takenBy 42 = .ok (.iload_n 1, 1) := by decide +kernel
theorem dX8_takenBy_43 : decode cX8_takenBy 43 = .ok (.iadd, 1) := by decide +kernel
theorem dX8_takenBy_44 : decode cX8_takenBy 44 = .ok (.iaload, 1) := by decide +kernel
theorem dX8_takenBy_45 : decode cX8_takenBy 45 = .ok (.ifCond .le 5, 3) := by decide +kernel
theorem dX8_takenBy_48 : decode cX8_takenBy 48 = .ok (.iload_n 3, 1) := by decide +kernel
theorem dX8_takenBy_49 : decode cX8_takenBy 49 = .ok (.ireturn, 1) := by decide +kernel
theorem dX8_takenBy_50 : decode cX8_takenBy 50 = .ok (.iinc 2 1, 3) := by decide +kernel
theorem dX8_takenBy_53 : decode cX8_takenBy 53 = .ok (.goto (-51), 3) := by decide +kernel
theorem dX8_takenBy_56 : decode cX8_takenBy 56 = .ok (.bipush (-9), 2) := by decide +kernel
theorem dX8_takenBy_58 : decode cX8_takenBy 58 = .ok (.ireturn, 1) := by decide +kernel
theorem dX8_matchByTurns_0 : decode cX8_matchByTurns 0 = .ok (.iconst 0, 1) := by decide +kernel
theorem dX8_matchByTurns_1 : decode cX8_matchByTurns 1 = .ok (.istore_n 1, 1) := by decide +kernel
theorem dX8_matchByTurns_2 : decode cX8_matchByTurns 2 = .ok (.iload_n 1, 1) := by decide +kernel
theorem dX8_matchByTurns_3 : decode cX8_matchByTurns 3 = .ok (.iconst 3, 1) := by decide +kernel
theorem dX8_matchByTurns_4 : decode cX8_matchByTurns 4 = .ok (.if_icmp .ge 179, 3) := by decide +kernel
theorem dX8_matchByTurns_7 : decode cX8_matchByTurns 7 = .ok (.iconst 0, 1) := by decide +kernel
theorem dX8_matchByTurns_8 : decode cX8_matchByTurns 8 = .ok (.istore_n 2, 1) := by decide +kernel
theorem dX8_matchByTurns_9 : decode cX8_matchByTurns 9 = .ok (.iload_n 2, 1) := by decide +kernel
theorem dX8_matchByTurns_10 : decode cX8_matchByTurns 10 = .ok (.aload_n 0, 1) := by decide +kernel
theorem dX8_matchByTurns_11 : decode cX8_matchByTurns 11 = .ok (.getfield 77, 3) := by decide +kernel
theorem dX8_matchByTurns_14 : decode cX8_matchByTurns 14 = .ok (.if_icmp .ge 33, 3) := by decide +kernel
theorem dX8_matchByTurns_17 : decode cX8_matchByTurns 17 = .ok (.aload_n 0, 1) := by decide +kernel
theorem dX8_matchByTurns_18 : decode cX8_matchByTurns 18 = .ok (.getfield 104, 3) := by decide +kernel
theorem dX8_matchByTurns_21 : decode cX8_matchByTurns 21 = .ok (.iload_n 2, 1) := by decide +kernel
theorem dX8_matchByTurns_22 : decode cX8_matchByTurns 22 = .ok (.aload_n 0, 1) := by decide +kernel
theorem dX8_matchByTurns_23 : decode cX8_matchByTurns 23 = .ok (.iload_n 2, 1) := by decide +kernel
theorem dX8_matchByTurns_24 : decode cX8_matchByTurns 24 = .ok (.invokevirtual 293, 3) := by decide +kernel
theorem dX8_matchByTurns_27 : decode cX8_matchByTurns 27 = .ok (.ifCond .eq 8, 3) := by decide +kernel
theorem dX8_matchByTurns_30 : decode cX8_matchByTurns 30 = .ok (.bipush (-9), 2) := by decide +kernel
theorem dX8_matchByTurns_32 : decode cX8_matchByTurns 32 = .ok (.goto 8, 3) := by decide +kernel
theorem dX8_matchByTurns_35 : decode cX8_matchByTurns 35 = .ok (.aload_n 0, 1) := by decide +kernel
theorem dX8_matchByTurns_36 : decode cX8_matchByTurns 36 = .ok (.iload_n 2, 1) := by decide +kernel
theorem dX8_matchByTurns_37 : decode cX8_matchByTurns 37 = .ok (.invokevirtual 296, 3) := by decide +kernel
theorem dX8_matchByTurns_40 : decode cX8_matchByTurns 40 = .ok (.iastore, 1) := by decide +kernel
theorem dX8_matchByTurns_41 : decode cX8_matchByTurns 41 = .ok (.iinc 2 1, 3) := by decide +kernel
theorem dX8_matchByTurns_44 : decode cX8_matchByTurns 44 = .ok (.goto (-35), 3) := by decide +kernel
theorem dX8_matchByTurns_47 : decode cX8_matchByTurns 47 = .ok (.iconst 0, 1) := by decide +kernel
theorem dX8_matchByTurns_48 : decode cX8_matchByTurns 48 = .ok (.istore_n 2, 1) := by decide +kernel
theorem dX8_matchByTurns_49 : decode cX8_matchByTurns 49 = .ok (.iload_n 2, 1) := by decide +kernel
theorem dX8_matchByTurns_50 : decode cX8_matchByTurns 50 = .ok (.aload_n 0, 1) := by decide +kernel
theorem dX8_matchByTurns_51 : decode cX8_matchByTurns 51 = .ok (.getfield 77, 3) := by decide +kernel
theorem dX8_matchByTurns_54 : decode cX8_matchByTurns 54 = .ok (.if_icmp .ge 123, 3) := by decide +kernel
theorem dX8_matchByTurns_57 : decode cX8_matchByTurns 57 = .ok (.iconst 0, 1) := by decide +kernel
theorem dX8_matchByTurns_58 : decode cX8_matchByTurns 58 = .ok (.istore_n 3, 1) := by decide +kernel
theorem dX8_matchByTurns_59 : decode cX8_matchByTurns 59 = .ok (.iload_n 3, 1) := by decide +kernel
theorem dX8_matchByTurns_60 : decode cX8_matchByTurns 60 = .ok (.aload_n 0, 1) := by decide +kernel
theorem dX8_matchByTurns_61 : decode cX8_matchByTurns 61 = .ok (.getfield 77, 3) := by decide +kernel
theorem dX8_matchByTurns_64 : decode cX8_matchByTurns 64 = .ok (.if_icmp .ge 54, 3) := by decide +kernel
theorem dX8_matchByTurns_67 : decode cX8_matchByTurns 67 = .ok (.aload_n 0, 1) := by decide +kernel
theorem dX8_matchByTurns_68 : decode cX8_matchByTurns 68 = .ok (.getfield 98, 3) := by decide +kernel
theorem dX8_matchByTurns_71 : decode cX8_matchByTurns 71 = .ok (.iload_n 2, 1) := by decide +kernel
theorem dX8_matchByTurns_72 : decode cX8_matchByTurns 72 = .ok (.iaload, 1) := by decide +kernel
theorem dX8_matchByTurns_73 : decode cX8_matchByTurns 73 = .ok (.bipush (-9), 2) := by decide +kernel
theorem dX8_matchByTurns_75 : decode cX8_matchByTurns 75 = .ok (.if_icmp .ne 43, 3) := by decide +kernel
theorem dX8_matchByTurns_78 : decode cX8_matchByTurns 78 = .ok (.aload_n 0, 1) := by decide +kernel
theorem dX8_matchByTurns_79 : decode cX8_matchByTurns 79 = .ok (.getfield 89, 3) := by decide +kernel
theorem dX8_matchByTurns_82 : decode cX8_matchByTurns 82 = .ok (.iload_n 2, 1) := by decide +kernel
theorem dX8_matchByTurns_83 : decode cX8_matchByTurns 83 = .ok (.iaload, 1) := by decide +kernel
theorem dX8_matchByTurns_84 : decode cX8_matchByTurns 84 = .ok (.iload_n 3, 1) := by decide +kernel
theorem dX8_matchByTurns_85 : decode cX8_matchByTurns 85 = .ok (.iadd, 1) := by decide +kernel
theorem dX8_matchByTurns_86 : decode cX8_matchByTurns 86 = .ok (.aload_n 0, 1) := by decide +kernel
theorem dX8_matchByTurns_87 : decode cX8_matchByTurns 87 = .ok (.getfield 77, 3) := by decide +kernel
theorem dX8_matchByTurns_90 : decode cX8_matchByTurns 90 = .ok (.irem, 1) := by decide +kernel
theorem dX8_matchByTurns_91 : decode cX8_matchByTurns 91 = .ok (.istore 4, 2) := by decide +kernel
theorem dX8_matchByTurns_93 : decode cX8_matchByTurns 93 = .ok (.aload_n 0, 1) := by decide +kernel
theorem dX8_matchByTurns_94 : decode cX8_matchByTurns 94 = .ok (.getfield 104, 3) := by decide +kernel
theorem dX8_matchByTurns_97 : decode cX8_matchByTurns 97 = .ok (.iload 4, 2) := by decide +kernel
theorem dX8_matchByTurns_99 : decode cX8_matchByTurns 99 = .ok (.iaload, 1) := by decide +kernel
theorem dX8_matchByTurns_100 : decode cX8_matchByTurns 100 = .ok (.iload_n 2, 1) := by decide +kernel
theorem dX8_matchByTurns_101 : decode cX8_matchByTurns 101 = .ok (.if_icmp .ne 11, 3) := by decide +kernel
theorem dX8_matchByTurns_104 : decode cX8_matchByTurns 104 = .ok (.aload_n 0, 1) := by decide +kernel
theorem dX8_matchByTurns_105 : decode cX8_matchByTurns 105 = .ok (.getfield 98, 3) := by decide +kernel
theorem dX8_matchByTurns_108 : decode cX8_matchByTurns 108 = .ok (.iload_n 2, 1) := by decide +kernel
theorem dX8_matchByTurns_109 : decode cX8_matchByTurns 109 = .ok (.iload 4, 2) := by decide +kernel
theorem dX8_matchByTurns_111 : decode cX8_matchByTurns 111 = .ok (.iastore, 1) := by decide +kernel
theorem dX8_matchByTurns_112 : decode cX8_matchByTurns 112 = .ok (.iinc 3 1, 3) := by decide +kernel
theorem dX8_matchByTurns_115 : decode cX8_matchByTurns 115 = .ok (.goto (-56), 3) := by decide +kernel
theorem dX8_matchByTurns_118 : decode cX8_matchByTurns 118 = .ok (.iload_n 1, 1) := by decide +kernel
theorem dX8_matchByTurns_119 : decode cX8_matchByTurns 119 = .ok (.ifCond .ne 52, 3) := by decide +kernel
theorem dX8_matchByTurns_122 : decode cX8_matchByTurns 122 = .ok (.aload_n 0, 1) := by decide +kernel
theorem dX8_matchByTurns_123 : decode cX8_matchByTurns 123 = .ok (.getfield 98, 3) := by decide +kernel
theorem dX8_matchByTurns_126 : decode cX8_matchByTurns 126 = .ok (.iload_n 2, 1) := by decide +kernel
theorem dX8_matchByTurns_127 : decode cX8_matchByTurns 127 = .ok (.iaload, 1) := by decide +kernel
theorem dX8_matchByTurns_128 : decode cX8_matchByTurns 128 = .ok (.bipush (-9), 2) := by decide +kernel
theorem dX8_matchByTurns_130 : decode cX8_matchByTurns 130 = .ok (.if_icmp .eq 41, 3) := by decide +kernel
theorem dX8_matchByTurns_133 : decode cX8_matchByTurns 133 = .ok (.aload_n 0, 1) := by decide +kernel
theorem dX8_matchByTurns_134 : decode cX8_matchByTurns 134 = .ok (.getfield 89, 3) := by decide +kernel
theorem dX8_matchByTurns_137 : decode cX8_matchByTurns 137 = .ok (.iload_n 2, 1) := by decide +kernel
theorem dX8_matchByTurns_138 : decode cX8_matchByTurns 138 = .ok (.aload_n 0, 1) := by decide +kernel
theorem dX8_matchByTurns_139 : decode cX8_matchByTurns 139 = .ok (.getfield 98, 3) := by decide +kernel
theorem dX8_matchByTurns_142 : decode cX8_matchByTurns 142 = .ok (.iload_n 2, 1) := by decide +kernel
theorem dX8_matchByTurns_143 : decode cX8_matchByTurns 143 = .ok (.iaload, 1) := by decide +kernel
theorem dX8_matchByTurns_144 : decode cX8_matchByTurns 144 = .ok (.iconst 1, 1) := by decide +kernel
theorem dX8_matchByTurns_145 : decode cX8_matchByTurns 145 = .ok (.iadd, 1) := by decide +kernel
theorem dX8_matchByTurns_146 : decode cX8_matchByTurns 146 = .ok (.aload_n 0, 1) := by decide +kernel
theorem dX8_matchByTurns_147 : decode cX8_matchByTurns 147 = .ok (.getfield 77, 3) := by decide +kernel
theorem dX8_matchByTurns_150 : decode cX8_matchByTurns 150 = .ok (.irem, 1) := by decide +kernel
theorem dX8_matchByTurns_151 : decode cX8_matchByTurns 151 = .ok (.iastore, 1) := by decide +kernel
theorem dX8_matchByTurns_152 : decode cX8_matchByTurns 152 = .ok (.aload_n 0, 1) := by decide +kernel
theorem dX8_matchByTurns_153 : decode cX8_matchByTurns 153 = .ok (.getfield 92, 3) := by decide +kernel
theorem dX8_matchByTurns_156 : decode cX8_matchByTurns 156 = .ok (.aload_n 0, 1) := by decide +kernel
theorem dX8_matchByTurns_157 : decode cX8_matchByTurns 157 = .ok (.getfield 98, 3) := by decide +kernel
theorem dX8_matchByTurns_160 : decode cX8_matchByTurns 160 = .ok (.iload_n 2, 1) := by decide +kernel
theorem dX8_matchByTurns_161 : decode cX8_matchByTurns 161 = .ok (.iaload, 1) := by decide +kernel
theorem dX8_matchByTurns_162 : decode cX8_matchByTurns 162 = .ok (.iload_n 2, 1) := by decide +kernel
theorem dX8_matchByTurns_163 : decode cX8_matchByTurns 163 = .ok (.iconst 1, 1) := by decide +kernel
theorem dX8_matchByTurns_164 : decode cX8_matchByTurns 164 = .ok (.iadd, 1) := by decide +kernel
theorem dX8_matchByTurns_165 : decode cX8_matchByTurns 165 = .ok (.aload_n 0, 1) := by decide +kernel
theorem dX8_matchByTurns_166 : decode cX8_matchByTurns 166 = .ok (.getfield 77, 3) := by decide +kernel
theorem dX8_matchByTurns_169 : decode cX8_matchByTurns 169 = .ok (.irem, 1) := by decide +kernel
theorem dX8_matchByTurns_170 : decode cX8_matchByTurns 170 = .ok (.iastore, 1) := by decide +kernel
theorem dX8_matchByTurns_171 : decode cX8_matchByTurns 171 = .ok (.iinc 2 1, 3) := by decide +kernel
theorem dX8_matchByTurns_174 : decode cX8_matchByTurns 174 = .ok (.goto (-125), 3) := by decide +kernel
theorem dX8_matchByTurns_177 : decode cX8_matchByTurns 177 = .ok (.iinc 1 1, 3) := by decide +kernel
theorem dX8_matchByTurns_180 : decode cX8_matchByTurns 180 = .ok (.goto (-178), 3) := by decide +kernel
theorem dX8_matchByTurns_183 : decode cX8_matchByTurns 183 = .ok (.return_, 1) := by decide +kernel
theorem dX8_matchCrosswise_0 : decode cX8_matchCrosswise 0 = .ok (.iconst 0, 1) := by decide +kernel
theorem dX8_matchCrosswise_1 : decode cX8_matchCrosswise 1 = .ok (.istore_n 1, 1) := by decide +kernel
theorem dX8_matchCrosswise_2 : decode cX8_matchCrosswise 2 = .ok (.iload_n 1, 1) := by decide +kernel
theorem dX8_matchCrosswise_3 : decode cX8_matchCrosswise 3 = .ok (.aload_n 0, 1) := by decide +kernel
theorem dX8_matchCrosswise_4 : decode cX8_matchCrosswise 4 = .ok (.getfield 77, 3) := by decide +kernel
theorem dX8_matchCrosswise_7 : decode cX8_matchCrosswise 7 = .ok (.if_icmp .ge 73, 3) := by decide +kernel
theorem dX8_matchCrosswise_10 : decode cX8_matchCrosswise 10 = .ok (.iconst 0, 1) := by decide +kernel
theorem dX8_matchCrosswise_11 : decode cX8_matchCrosswise 11 = .ok (.istore_n 2, 1) := by decide +kernel
theorem dX8_matchCrosswise_12 : decode cX8_matchCrosswise 12 = .ok (.iload_n 2, 1) := by decide +kernel
theorem dX8_matchCrosswise_13 : decode cX8_matchCrosswise 13 = .ok (.aload_n 0, 1) := by decide +kernel
theorem dX8_matchCrosswise_14 : decode cX8_matchCrosswise 14 = .ok (.getfield 77, 3) := by decide +kernel
theorem dX8_matchCrosswise_17 : decode cX8_matchCrosswise 17 = .ok (.if_icmp .ge 57, 3) := by decide +kernel
theorem dX8_matchCrosswise_20 : decode cX8_matchCrosswise 20 = .ok (.iload_n 2, 1) := by decide +kernel
theorem dX8_matchCrosswise_21 : decode cX8_matchCrosswise 21 = .ok (.iload_n 1, 1) := by decide +kernel
theorem dX8_matchCrosswise_22 : decode cX8_matchCrosswise 22 = .ok (.iadd, 1) := by decide +kernel
theorem dX8_matchCrosswise_23 : decode cX8_matchCrosswise 23 = .ok (.aload_n 0, 1) := by decide +kernel
theorem dX8_matchCrosswise_24 : decode cX8_matchCrosswise 24 = .ok (.getfield 77, 3) := by decide +kernel
theorem dX8_matchCrosswise_27 : decode cX8_matchCrosswise 27 = .ok (.irem, 1) := by decide +kernel
theorem dX8_matchCrosswise_28 : decode cX8_matchCrosswise 28 = .ok (.istore_n 3, 1) := by decide +kernel
theorem dX8_matchCrosswise_29 : decode cX8_matchCrosswise 29 = .ok (.aload_n 0, 1) := by decide +kernel
theorem dX8_matchCrosswise_30 : decode cX8_matchCrosswise 30 = .ok (.getfield 98, 3) := by decide +kernel
theorem dX8_matchCrosswise_33 : decode cX8_matchCrosswise 33 = .ok (.iload_n 2, 1) := by decide +kernel
theorem dX8_matchCrosswise_34 : decode cX8_matchCrosswise 34 = .ok (.iaload, 1) := by decide +kernel
theorem dX8_matchCrosswise_35 : decode cX8_matchCrosswise 35 = .ok (.bipush (-9), 2) := by decide +kernel
theorem dX8_matchCrosswise_37 : decode cX8_matchCrosswise 37 = .ok (.if_icmp .ne 31, 3) := by decide +kernel
theorem dX8_matchCrosswise_40 : decode cX8_matchCrosswise 40 = .ok (.aload_n 0, 1) := by decide +kernel
theorem dX8_matchCrosswise_41 : decode cX8_matchCrosswise 41 = .ok (.iload_n 3, 1) := by decide +kernel
theorem dX8_matchCrosswise_42 : decode cX8_matchCrosswise 42 = .ok (.invokevirtual 293, 3) := by decide +kernel
theorem dX8_matchCrosswise_45 : decode cX8_matchCrosswise 45 = .ok (.ifCond .ne 23, 3) := by decide +kernel
theorem dX8_matchCrosswise_48 : decode cX8_matchCrosswise 48 = .ok (.aload_n 0, 1) := by decide +kernel
theorem dX8_matchCrosswise_49 : decode cX8_matchCrosswise 49 = .ok (.getfield 86, 3) := by decide +kernel
theorem dX8_matchCrosswise_52 : decode cX8_matchCrosswise 52 = .ok (.iconst 5, 1) := by decide +kernel
theorem dX8_matchCrosswise_53 : decode cX8_matchCrosswise 53 = .ok (.iload_n 2, 1) := by decide +kernel
theorem dX8_matchCrosswise_54 : decode cX8_matchCrosswise 54 = .ok (.imul, 1) := by decide +kernel
theorem dX8_matchCrosswise_55 : decode cX8_matchCrosswise 55 = .ok (.iload_n 3, 1) := by decide +kernel
theorem dX8_matchCrosswise_56 : decode cX8_matchCrosswise 56 = .ok (.iadd, 1) := by decide +kernel
theorem dX8_matchCrosswise_57 : decode cX8_matchCrosswise 57 = .ok (.iaload, 1) := by decide +kernel
theorem dX8_matchCrosswise_58 : decode cX8_matchCrosswise 58 = .ok (.ifCond .le 10, 3) := by decide +kernel
theorem dX8_matchCrosswise_61 : decode cX8_matchCrosswise 61 = .ok (.aload_n 0, 1) := by decide +kernel
theorem dX8_matchCrosswise_62 : decode cX8_matchCrosswise 62 = .ok (.getfield 98, 3) := by decide +kernel
theorem dX8_matchCrosswise_65 : decode cX8_matchCrosswise 65 = .ok (.iload_n 2, 1) := by decide +kernel
theorem dX8_matchCrosswise_66 : decode cX8_matchCrosswise 66 = .ok (.iload_n 3, 1) := by decide +kernel
theorem dX8_matchCrosswise_67 : decode cX8_matchCrosswise 67 = .ok (.iastore, 1) := by decide +kernel
theorem dX8_matchCrosswise_68 : decode cX8_matchCrosswise 68 = .ok (.iinc 2 1, 3) := by decide +kernel
theorem dX8_matchCrosswise_71 : decode cX8_matchCrosswise 71 = .ok (.goto (-59), 3) := by decide +kernel
theorem dX8_matchCrosswise_74 : decode cX8_matchCrosswise 74 = .ok (.iinc 1 1, 3) := by decide +kernel
theorem dX8_matchCrosswise_77 : decode cX8_matchCrosswise 77 = .ok (.goto (-75), 3) := by decide +kernel
theorem dX8_matchCrosswise_80 : decode cX8_matchCrosswise 80 = .ok (.return_, 1) := by decide +kernel
theorem dX8_slot_0 : decode cX8_slot 0 = .ok (.aload_n 0, 1) := by decide +kernel
theorem dX8_slot_1 : decode cX8_slot 1 = .ok (.iconst 0, 1) := by decide +kernel
theorem dX8_slot_2 : decode cX8_slot 2 = .ok (.putfield 107, 3) := by decide +kernel
theorem dX8_slot_5 : decode cX8_slot 5 = .ok (.iload_n 2, 1) := by decide +kernel
theorem dX8_slot_6 : decode cX8_slot 6 = .ok (.invokestatic 191, 3) := by decide +kernel
theorem dX8_slot_9 : decode cX8_slot 9 = .ok (.ifCond .ne 5, 3) := by decide +kernel
theorem dX8_slot_12 : decode cX8_slot 12 = .ok (.iconst (-1), 1) := by decide +kernel
theorem dX8_slot_13 : decode cX8_slot 13 = .ok (.ireturn, 1) := by decide +kernel
theorem dX8_slot_14 : decode cX8_slot 14 = .ok (.iload_n 3, 1) := by decide +kernel
theorem dX8_slot_15 : decode cX8_slot 15 = .ok (.invokestatic 194, 3) := by decide +kernel
theorem dX8_slot_18 : decode cX8_slot 18 = .ok (.ifCond .eq 12, 3) := by decide +kernel
theorem dX8_slot_21 : decode cX8_slot 21 = .ok (.iload_n 1, 1) := by decide +kernel
theorem dX8_slot_22 : decode cX8_slot 22 = .ok (.iconst 0, 1) := by decide +kernel
theorem dX8_slot_23 : decode cX8_slot 23 = .ok (.iconst 2, 1) := by decide +kernel
theorem dX8_slot_24 : decode cX8_slot 24 = .ok (.invokestatic 116, 3) := by decide +kernel
theorem dX8_slot_27 : decode cX8_slot 27 = .ok (.ifCond .ne 6, 3) := by decide +kernel
theorem dX8_slot_30 : decode cX8_slot 30 = .ok (.bipush (-2), 2) := by decide +kernel
theorem dX8_slot_32 : decode cX8_slot 32 = .ok (.ireturn, 1) := by decide +kernel
theorem dX8_slot_33 : decode cX8_slot 33 = .ok (.aload_n 0, 1) := by decide +kernel
theorem dX8_slot_34 : decode cX8_slot 34 = .ok (.iload_n 2, 1) := by decide +kernel
theorem dX8_slot_35 : decode cX8_slot 35 = .ok (.iload_n 3, 1) := by decide +kernel
theorem dX8_slot_36 : decode cX8_slot 36 = .ok (.iload 4, 2) := by decide +kernel
theorem dX8_slot_38 : decode cX8_slot 38 = .ok (.aload_n 0, 1) := by decide +kernel
theorem dX8_slot_39 : decode cX8_slot 39 = .ok (.getfield 77, 3) := by decide +kernel
theorem dX8_slot_42 : decode cX8_slot 42 = .ok (.invokevirtual 197, 3) := by decide +kernel
theorem dX8_slot_45 : decode cX8_slot 45 = .ok (.istore 5, 2) := by decide +kernel
theorem dX8_slot_47 : decode cX8_slot 47 = .ok (.iload 5, 2) := by decide +kernel
theorem dX8_slot_49 : decode cX8_slot 49 = .ok (.ifCond .eq 6, 3) := by decide +kernel
theorem dX8_slot_52 : decode cX8_slot 52 = .ok (.iload 5, 2) := by decide +kernel
theorem dX8_slot_54 : decode cX8_slot 54 = .ok (.ireturn, 1) := by decide +kernel
theorem dX8_slot_55 : decode cX8_slot 55 = .ok (.bipush 60, 2) := by decide +kernel
theorem dX8_slot_57 : decode cX8_slot 57 = .ok (.iload_n 2, 1) := by decide +kernel
theorem dX8_slot_58 : decode cX8_slot 58 = .ok (.imul, 1) := by decide +kernel
theorem dX8_slot_59 : decode cX8_slot 59 = .ok (.iload 4, 2) := by decide +kernel
theorem dX8_slot_61 : decode cX8_slot 61 = .ok (.iadd, 1) := by decide +kernel
theorem dX8_slot_62 : decode cX8_slot 62 = .ok (.istore 6, 2) := by decide +kernel
theorem dX8_slot_64 : decode cX8_slot 64 = .ok (.iconst 0, 1) := by decide +kernel
theorem dX8_slot_65 : decode cX8_slot 65 = .ok (.istore 7, 2) := by decide +kernel
theorem dX8_slot_67 : decode cX8_slot 67 = .ok (.iload 7, 2) := by decide +kernel
theorem dX8_slot_69 : decode cX8_slot 69 = .ok (.aload_n 0, 1) := by decide +kernel
theorem dX8_slot_70 : decode cX8_slot 70 = .ok (.getfield 77, 3) := by decide +kernel
theorem dX8_slot_73 : decode cX8_slot 73 = .ok (.if_icmp .ge 35, 3) := by decide +kernel
theorem dX8_slot_76 : decode cX8_slot 76 = .ok (.aload_n 0, 1) := by decide +kernel
theorem dX8_slot_77 : decode cX8_slot 77 = .ok (.getfield 56, 3) := by decide +kernel
theorem dX8_slot_80 : decode cX8_slot 80 = .ok (.iload 6, 2) := by decide +kernel
theorem dX8_slot_82 : decode cX8_slot 82 = .ok (.iload 7, 2) := by decide +kernel
theorem dX8_slot_84 : decode cX8_slot 84 = .ok (.iadd, 1) := by decide +kernel
theorem dX8_slot_85 : decode cX8_slot 85 = .ok (.iaload, 1) := by decide +kernel
theorem dX8_slot_86 : decode cX8_slot 86 = .ok (.iconst (-1), 1) := by decide +kernel
theorem dX8_slot_87 : decode cX8_slot 87 = .ok (.aload_n 0, 1) := by decide +kernel
theorem dX8_slot_88 : decode cX8_slot 88 = .ok (.getfield 77, 3) := by decide +kernel
theorem dX8_slot_91 : decode cX8_slot 91 = .ok (.iconst 1, 1) := by decide +kernel
theorem dX8_slot_92 : decode cX8_slot 92 = .ok (.isub, 1) := by decide +kernel
theorem dX8_slot_93 : decode cX8_slot 93 = .ok (.invokestatic 116, 3) := by decide +kernel
theorem dX8_slot_96 : decode cX8_slot 96 = .ok (.ifCond .ne 6, 3) := by decide +kernel
theorem dX8_slot_99 : decode cX8_slot 99 = .ok (.bipush (-2), 2) := by decide +kernel
theorem dX8_slot_101 : decode cX8_slot 101 = .ok (.ireturn, 1) := by decide +kernel
theorem dX8_slot_102 : decode cX8_slot 102 = .ok (.iinc 7 1, 3) := by decide +kernel
theorem dX8_slot_105 : decode cX8_slot 105 = .ok (.goto (-38), 3) := by decide +kernel
theorem dX8_slot_108 : decode cX8_slot 108 = .ok (.iconst 0, 1) := by decide +kernel
theorem dX8_slot_109 : decode cX8_slot 109 = .ok (.istore 7, 2) := by decide +kernel
theorem dX8_slot_111 : decode cX8_slot 111 = .ok (.iload 7, 2) := by decide +kernel
theorem dX8_slot_113 : decode cX8_slot 113 = .ok (.aload_n 0, 1) := by decide +kernel
theorem dX8_slot_114 : decode cX8_slot 114 = .ok (.getfield 77, 3) := by decide +kernel
theorem dX8_slot_117 : decode cX8_slot 117 = .ok (.if_icmp .ge 51, 3) := by decide +kernel
theorem dX8_slot_120 : decode cX8_slot 120 = .ok (.aload_n 0, 1) := by decide +kernel
theorem dX8_slot_121 : decode cX8_slot 121 = .ok (.getfield 56, 3) := by decide +kernel
theorem dX8_slot_124 : decode cX8_slot 124 = .ok (.iload 6, 2) := by decide +kernel
theorem dX8_slot_126 : decode cX8_slot 126 = .ok (.iload 7, 2) := by decide +kernel
theorem dX8_slot_128 : decode cX8_slot 128 = .ok (.iadd, 1) := by decide +kernel
theorem dX8_slot_129 : decode cX8_slot 129 = .ok (.iaload, 1) := by decide +kernel
theorem dX8_slot_130 : decode cX8_slot 130 = .ok (.ifCond .lt 32, 3) := by decide +kernel
theorem dX8_slot_133 : decode cX8_slot 133 = .ok (.aload_n 0, 1) := by decide +kernel
theorem dX8_slot_134 : decode cX8_slot 134 = .ok (.getfield 86, 3) := by decide +kernel
theorem dX8_slot_137 : decode cX8_slot 137 = .ok (.iconst 5, 1) := by decide +kernel
theorem dX8_slot_138 : decode cX8_slot 138 = .ok (.iload 7, 2) := by decide +kernel
theorem dX8_slot_140 : decode cX8_slot 140 = .ok (.imul, 1) := by decide +kernel
theorem dX8_slot_141 : decode cX8_slot 141 = .ok (.aload_n 0, 1) := by decide +kernel
theorem dX8_slot_142 : decode cX8_slot 142 = .ok (.getfield 56, 3) := by decide +kernel
theorem dX8_slot_145 : decode cX8_slot 145 = .ok (.iload 6, 2) := by decide +kernel
theorem dX8_slot_147 : decode cX8_slot 147 = .ok (.iload 7, 2) := by decide +kernel
theorem dX8_slot_149 : decode cX8_slot 149 = .ok (.iadd, 1) := by decide +kernel
theorem dX8_slot_150 : decode cX8_slot 150 = .ok (.iaload, 1) := by decide +kernel
theorem dX8_slot_151 : decode cX8_slot 151 = .ok (.iadd, 1) := by decide +kernel
theorem dX8_slot_152 : decode cX8_slot 152 = .ok (.iaload, 1) := by decide +kernel
theorem dX8_slot_153 : decode cX8_slot 153 = .ok (.sipush 1000, 3) := by decide +kernel
theorem dX8_slot_156 : decode cX8_slot 156 = .ok (.if_icmp .ne 6, 3) := by decide +kernel
theorem dX8_slot_159 : decode cX8_slot 159 = .ok (.bipush (-4), 2) := by decide +kernel
theorem dX8_slot_161 : decode cX8_slot 161 = .ok (.ireturn, 1) := by decide +kernel
theorem dX8_slot_162 : decode cX8_slot 162 = .ok (.iinc 7 1, 3) := by decide +kernel
theorem dX8_slot_165 : decode cX8_slot 165 = .ok (.goto (-54), 3) := by decide +kernel
theorem dX8_slot_168 : decode cX8_slot 168 = .ok (.iconst 0, 1) := by decide +kernel
theorem dX8_slot_169 : decode cX8_slot 169 = .ok (.istore 7, 2) := by decide +kernel
theorem dX8_slot_171 : decode cX8_slot 171 = .ok (.iload 7, 2) := by decide +kernel
theorem dX8_slot_173 : decode cX8_slot 173 = .ok (.aload_n 0, 1) := by decide +kernel
theorem dX8_slot_174 : decode cX8_slot 174 = .ok (.getfield 77, 3) := by decide +kernel
theorem dX8_slot_177 : decode cX8_slot 177 = .ok (.if_icmp .ge 55, 3) := by decide +kernel
theorem dX8_slot_180 : decode cX8_slot 180 = .ok (.aload_n 0, 1) := by decide +kernel
theorem dX8_slot_181 : decode cX8_slot 181 = .ok (.getfield 56, 3) := by decide +kernel
theorem dX8_slot_184 : decode cX8_slot 184 = .ok (.iload 6, 2) := by decide +kernel
theorem dX8_slot_186 : decode cX8_slot 186 = .ok (.iload 7, 2) := by decide +kernel
theorem dX8_slot_188 : decode cX8_slot 188 = .ok (.iadd, 1) := by decide +kernel
theorem dX8_slot_189 : decode cX8_slot 189 = .ok (.iaload, 1) := by decide +kernel
theorem dX8_slot_190 : decode cX8_slot 190 = .ok (.ifCond .lt 27, 3) := by decide +kernel
theorem dX8_slot_193 : decode cX8_slot 193 = .ok (.aload_n 0, 1) := by decide +kernel
theorem dX8_slot_194 : decode cX8_slot 194 = .ok (.getfield 86, 3) := by decide +kernel
theorem dX8_slot_197 : decode cX8_slot 197 = .ok (.iconst 5, 1) := by decide +kernel
theorem dX8_slot_198 : decode cX8_slot 198 = .ok (.iload 7, 2) := by decide +kernel
theorem dX8_slot_200 : decode cX8_slot 200 = .ok (.imul, 1) := by decide +kernel
theorem dX8_slot_201 : decode cX8_slot 201 = .ok (.aload_n 0, 1) := by decide +kernel
theorem dX8_slot_202 : decode cX8_slot 202 = .ok (.getfield 56, 3) := by decide +kernel
theorem dX8_slot_205 : decode cX8_slot 205 = .ok (.iload 6, 2) := by decide +kernel
theorem dX8_slot_207 : decode cX8_slot 207 = .ok (.iload 7, 2) := by decide +kernel
theorem dX8_slot_209 : decode cX8_slot 209 = .ok (.iadd, 1) := by decide +kernel
theorem dX8_slot_210 : decode cX8_slot 210 = .ok (.iaload, 1) := by decide +kernel
theorem dX8_slot_211 : decode cX8_slot 211 = .ok (.iadd, 1) := by decide +kernel
theorem dX8_slot_212 : decode cX8_slot 212 = .ok (.dup2, 1) := by decide +kernel
theorem dX8_slot_213 : decode cX8_slot 213 = .ok (.iaload, 1) := by decide +kernel
theorem dX8_slot_214 : decode cX8_slot 214 = .ok (.iconst 1, 1) := by decide +kernel
theorem dX8_slot_215 : decode cX8_slot 215 = .ok (.iadd, 1) := by decide +kernel
theorem dX8_slot_216 : decode cX8_slot 216 = .ok (.iastore, 1) := by decide +kernel
theorem dX8_slot_217 : decode cX8_slot 217 = .ok (.aload_n 0, 1) := by decide +kernel
theorem dX8_slot_218 : decode cX8_slot 218 = .ok (.getfield 98, 3) := by decide +kernel
theorem dX8_slot_221 : decode cX8_slot 221 = .ok (.iload 7, 2) := by decide +kernel
theorem dX8_slot_223 : decode cX8_slot 223 = .ok (.bipush (-9), 2) := by decide +kernel
theorem dX8_slot_225 : decode cX8_slot 225 = .ok (.iastore, 1) := by decide +kernel
theorem dX8_slot_226 : decode cX8_slot 226 = .ok (.iinc 7 1, 3) := by decide +kernel
theorem dX8_slot_229 : decode cX8_slot 229 = .ok (.goto (-58), 3) := by decide +kernel
theorem dX8_slot_232 : decode cX8_slot 232 = .ok (.iload_n 1, 1) := by decide +kernel
theorem dX8_slot_233 : decode cX8_slot 233 = .ok (.ifCond .ne 10, 3) := by decide +kernel
theorem dX8_slot_236 : decode cX8_slot 236 = .ok (.aload_n 0, 1) := by decide +kernel
theorem dX8_slot_237 : decode cX8_slot 237 = .ok (.invokevirtual 299, 3) := by decide +kernel
theorem dX8_slot_240 : decode cX8_slot 240 = .ok (.goto 19, 3) := by decide +kernel
theorem dX8_slot_243 : decode cX8_slot 243 = .ok (.iload_n 1, 1) := by decide +kernel
theorem dX8_slot_244 : decode cX8_slot 244 = .ok (.iconst 1, 1) := by decide +kernel
theorem dX8_slot_245 : decode cX8_slot 245 = .ok (.if_icmp .ne 10, 3) := by decide +kernel
theorem dX8_slot_248 : decode cX8_slot 248 = .ok (.aload_n 0, 1) := by decide +kernel
theorem dX8_slot_249 : decode cX8_slot 249 = .ok (.invokevirtual 302, 3) := by decide +kernel
theorem dX8_slot_252 : decode cX8_slot 252 = .ok (.goto 7, 3) := by decide +kernel
theorem dX8_slot_255 : decode cX8_slot 255 = .ok (.aload_n 0, 1) := by decide +kernel
theorem dX8_slot_256 : decode cX8_slot 256 = .ok (.invokevirtual 305, 3) := by decide +kernel
theorem dX8_slot_259 : decode cX8_slot 259 = .ok (.iconst 0, 1) := by decide +kernel
theorem dX8_slot_260 : decode cX8_slot 260 = .ok (.istore 7, 2) := by decide +kernel
theorem dX8_slot_262 : decode cX8_slot 262 = .ok (.iconst 0, 1) := by decide +kernel
theorem dX8_slot_263 : decode cX8_slot 263 = .ok (.istore 8, 2) := by decide +kernel
theorem dX8_slot_265 : decode cX8_slot 265 = .ok (.iload 8, 2) := by decide +kernel
theorem dX8_slot_267 : decode cX8_slot 267 = .ok (.aload_n 0, 1) := by decide +kernel
theorem dX8_slot_268 : decode cX8_slot 268 = .ok (.getfield 77, 3) := by decide +kernel
theorem dX8_slot_271 : decode cX8_slot 271 = .ok (.if_icmp .ge 45, 3) := by decide +kernel
theorem dX8_slot_274 : decode cX8_slot 274 = .ok (.aload_n 0, 1) := by decide +kernel
theorem dX8_slot_275 : decode cX8_slot 275 = .ok (.getfield 98, 3) := by decide +kernel
theorem dX8_slot_278 : decode cX8_slot 278 = .ok (.iload 8, 2) := by decide +kernel
theorem dX8_slot_280 : decode cX8_slot 280 = .ok (.iaload, 1) := by decide +kernel
theorem dX8_slot_281 : decode cX8_slot 281 = .ok (.bipush (-9), 2) := by decide +kernel
theorem dX8_slot_283 : decode cX8_slot 283 = .ok (.if_icmp .eq 27, 3) := by decide +kernel
theorem dX8_slot_286 : decode cX8_slot 286 = .ok (.aload_n 0, 1) := by decide +kernel
theorem dX8_slot_287 : decode cX8_slot 287 = .ok (.getfield 86, 3) := by decide +kernel
theorem dX8_slot_290 : decode cX8_slot 290 = .ok (.iconst 5, 1) := by decide +kernel
theorem dX8_slot_291 : decode cX8_slot 291 = .ok (.iload 8, 2) := by decide +kernel
theorem dX8_slot_293 : decode cX8_slot 293 = .ok (.imul, 1) := by decide +kernel
theorem dX8_slot_294 : decode cX8_slot 294 = .ok (.aload_n 0, 1) := by decide +kernel
theorem dX8_slot_295 : decode cX8_slot 295 = .ok (.getfield 98, 3) := by decide +kernel
theorem dX8_slot_298 : decode cX8_slot 298 = .ok (.iload 8, 2) := by decide +kernel
theorem dX8_slot_300 : decode cX8_slot 300 = .ok (.iaload, 1) := by decide +kernel
theorem dX8_slot_301 : decode cX8_slot 301 = .ok (.iadd, 1) := by decide +kernel
theorem dX8_slot_302 : decode cX8_slot 302 = .ok (.dup2, 1) := by decide +kernel
theorem dX8_slot_303 : decode cX8_slot 303 = .ok (.iaload, 1) := by decide +kernel
theorem dX8_slot_304 : decode cX8_slot 304 = .ok (.iconst 1, 1) := by decide +kernel
theorem dX8_slot_305 : decode cX8_slot 305 = .ok (.isub, 1) := by decide +kernel
theorem dX8_slot_306 : decode cX8_slot 306 = .ok (.iastore, 1) := by decide +kernel
theorem dX8_slot_307 : decode cX8_slot 307 = .ok (.iinc 7 1, 3) := by decide +kernel
theorem dX8_slot_310 : decode cX8_slot 310 = .ok (.iinc 8 1, 3) := by decide +kernel
theorem dX8_slot_313 : decode cX8_slot 313 = .ok (.goto (-48), 3) := by decide +kernel
theorem dX8_slot_316 : decode cX8_slot 316 = .ok (.iload 7, 2) := by decide +kernel
theorem dX8_slot_318 : decode cX8_slot 318 = .ok (.ireturn, 1) := by decide +kernel
theorem dX8_queue_0 : decode cX8_queue 0 = .ok (.iload_n 3, 1) := by decide +kernel
theorem dX8_queue_1 : decode cX8_queue 1 = .ok (.iconst 0, 1) := by decide +kernel
theorem dX8_queue_2 : decode cX8_queue 2 = .ok (.iconst 3, 1) := by decide +kernel
theorem dX8_queue_3 : decode cX8_queue 3 = .ok (.invokestatic 116, 3) := by decide +kernel
theorem dX8_queue_6 : decode cX8_queue 6 = .ok (.ifCond .ne 6, 3) := by decide +kernel
theorem dX8_queue_9 : decode cX8_queue 9 = .ok (.bipush (-2), 2) := by decide +kernel
theorem dX8_queue_11 : decode cX8_queue 11 = .ok (.ireturn, 1) := by decide +kernel
theorem dX8_queue_12 : decode cX8_queue 12 = .ok (.aload_n 0, 1) := by decide +kernel
theorem dX8_queue_13 : decode cX8_queue 13 = .ok (.iload_n 1, 1) := by decide +kernel
theorem dX8_queue_14 : decode cX8_queue 14 = .ok (.invokevirtual 258, 3) := by decide +kernel
theorem dX8_queue_17 : decode cX8_queue 17 = .ok (.ifCond .eq 15, 3) := by decide +kernel
theorem dX8_queue_20 : decode cX8_queue 20 = .ok (.iload_n 3, 1) := by decide +kernel
theorem dX8_queue_21 : decode cX8_queue 21 = .ok (.ifCond .ne 13, 3) := by decide +kernel
theorem dX8_queue_24 : decode cX8_queue 24 = .ok (.aload_n 0, 1) := by decide +kernel
theorem dX8_queue_25 : decode cX8_queue 25 = .ok (.iload_n 2, 1) := by decide +kernel
theorem dX8_queue_26 : decode cX8_queue 26 = .ok (.invokevirtual 258, 3) := by decide +kernel
theorem dX8_queue_29 : decode cX8_queue 29 = .ok (.ifCond .ne 5, 3) := by decide +kernel
theorem dX8_queue_32 : decode cX8_queue 32 = .ok (.iconst (-1), 1) := by decide +kernel
theorem dX8_queue_33 : decode cX8_queue 33 = .ok (.ireturn, 1) := by decide +kernel
theorem dX8_queue_34 : decode cX8_queue 34 = .ok (.iload_n 3, 1) := by decide +kernel
theorem dX8_queue_35 : decode cX8_queue 35 = .ok (.tableswitch 50 0 2 #[25, 36, 43], 25) := by decide +kernel
theorem dX8_queue_60 : decode cX8_queue 60 = .ok (.aload_n 0, 1) := by decide +kernel
theorem dX8_queue_61 : decode cX8_queue 61 = .ok (.getfield 86, 3) := by decide +kernel
theorem dX8_queue_64 : decode cX8_queue 64 = .ok (.iconst 5, 1) := by decide +kernel
theorem dX8_queue_65 : decode cX8_queue 65 = .ok (.iload_n 1, 1) := by decide +kernel
theorem dX8_queue_66 : decode cX8_queue 66 = .ok (.imul, 1) := by decide +kernel
theorem dX8_queue_67 : decode cX8_queue 67 = .ok (.iload_n 2, 1) := by decide +kernel
theorem dX8_queue_68 : decode cX8_queue 68 = .ok (.iadd, 1) := by decide +kernel
theorem dX8_queue_69 : decode cX8_queue 69 = .ok (.iaload, 1) := by decide +kernel
theorem dX8_queue_70 : decode cX8_queue 70 = .ok (.ireturn, 1) := by decide +kernel
theorem dX8_queue_71 : decode cX8_queue 71 = .ok (.aload_n 0, 1) := by decide +kernel
theorem dX8_queue_72 : decode cX8_queue 72 = .ok (.getfield 98, 3) := by decide +kernel
theorem dX8_queue_75 : decode cX8_queue 75 = .ok (.iload_n 1, 1) := by decide +kernel
theorem dX8_queue_76 : decode cX8_queue 76 = .ok (.iaload, 1) := by decide +kernel
theorem dX8_queue_77 : decode cX8_queue 77 = .ok (.ireturn, 1) := by decide +kernel
theorem dX8_queue_78 : decode cX8_queue 78 = .ok (.aload_n 0, 1) := by decide +kernel
theorem dX8_queue_79 : decode cX8_queue 79 = .ok (.getfield 89, 3) := by decide +kernel
theorem dX8_queue_82 : decode cX8_queue 82 = .ok (.iload_n 1, 1) := by decide +kernel
theorem dX8_queue_83 : decode cX8_queue 83 = .ok (.iaload, 1) := by decide +kernel
theorem dX8_queue_84 : decode cX8_queue 84 = .ok (.ireturn, 1) := by decide +kernel
theorem dX8_queue_85 : decode cX8_queue 85 = .ok (.aload_n 0, 1) := by decide +kernel
theorem dX8_queue_86 : decode cX8_queue 86 = .ok (.getfield 92, 3) := by decide +kernel
theorem dX8_queue_89 : decode cX8_queue 89 = .ok (.iload_n 1, 1) := by decide +kernel
theorem dX8_queue_90 : decode cX8_queue 90 = .ok (.iaload, 1) := by decide +kernel
theorem dX8_queue_91 : decode cX8_queue 91 = .ok (.ireturn, 1) := by decide +kernel
theorem dX8_waiting_0 : decode cX8_waiting 0 = .ok (.iconst 0, 1) := by decide +kernel
theorem dX8_waiting_1 : decode cX8_waiting 1 = .ok (.istore_n 1, 1) := by decide +kernel
theorem dX8_waiting_2 : decode cX8_waiting 2 = .ok (.iconst 0, 1) := by decide +kernel
theorem dX8_waiting_3 : decode cX8_waiting 3 = .ok (.istore_n 2, 1) := by decide +kernel
theorem dX8_waiting_4 : decode cX8_waiting 4 = .ok (.iload_n 2, 1) := by decide +kernel
theorem dX8_waiting_5 : decode cX8_waiting 5 = .ok (.bipush 25, 2) := by decide +kernel
theorem dX8_waiting_7 : decode cX8_waiting 7 = .ok (.if_icmp .ge 18, 3) := by decide +kernel
theorem dX8_waiting_10 : decode cX8_waiting 10 = .ok (.iload_n 1, 1) := by decide +kernel
theorem dX8_waiting_11 : decode cX8_waiting 11 = .ok (.aload_n 0, 1) := by decide +kernel
theorem dX8_waiting_12 : decode cX8_waiting 12 = .ok (.getfield 86, 3) := by decide +kernel
theorem dX8_waiting_15 : decode cX8_waiting 15 = .ok (.iload_n 2, 1) := by decide +kernel
theorem dX8_waiting_16 : decode cX8_waiting 16 = .ok (.iaload, 1) := by decide +kernel
theorem dX8_waiting_17 : decode cX8_waiting 17 = .ok (.iadd, 1) := by decide +kernel
theorem dX8_waiting_18 : decode cX8_waiting 18 = .ok (.istore_n 1, 1) := by decide +kernel
theorem dX8_waiting_19 : decode cX8_waiting 19 = .ok (.iinc 2 1, 3) := by decide +kernel
theorem dX8_waiting_22 : decode cX8_waiting 22 = .ok (.goto (-18), 3) := by decide +kernel
theorem dX8_waiting_25 : decode cX8_waiting 25 = .ok (.iload_n 1, 1) := by decide +kernel
theorem dX8_waiting_26 : decode cX8_waiting 26 = .ok (.ireturn, 1) := by decide +kernel
theorem dX8_lost_0 : decode cX8_lost 0 = .ok (.iload_n 2, 1) := by decide +kernel
theorem dX8_lost_1 : decode cX8_lost 1 = .ok (.iconst 1, 1) := by decide +kernel
theorem dX8_lost_2 : decode cX8_lost 2 = .ok (.bipush 20, 2) := by decide +kernel
theorem dX8_lost_4 : decode cX8_lost 4 = .ok (.invokestatic 116, 3) := by decide +kernel
theorem dX8_lost_7 : decode cX8_lost 7 = .ok (.ifCond .eq 21, 3) := by decide +kernel
theorem dX8_lost_10 : decode cX8_lost 10 = .ok (.iload_n 1, 1) := by decide +kernel
theorem dX8_lost_11 : decode cX8_lost 11 = .ok (.iconst 0, 1) := by decide +kernel
theorem dX8_lost_12 : decode cX8_lost 12 = .ok (.iload_n 2, 1) := by decide +kernel
theorem dX8_lost_13 : decode cX8_lost 13 = .ok (.invokestatic 116, 3) := by decide +kernel
theorem dX8_lost_16 : decode cX8_lost 16 = .ok (.ifCond .eq 12, 3) := by decide +kernel
theorem dX8_lost_19 : decode cX8_lost 19 = .ok (.iload_n 3, 1) := by decide +kernel
theorem dX8_lost_20 : decode cX8_lost 20 = .ok (.iconst 0, 1) := by decide +kernel
theorem dX8_lost_21 : decode cX8_lost 21 = .ok (.iconst 1, 1) := by decide +kernel
theorem dX8_lost_22 : decode cX8_lost 22 = .ok (.invokestatic 116, 3) := by decide +kernel
theorem dX8_lost_25 : decode cX8_lost 25 = .ok (.ifCond .ne 7, 3) := by decide +kernel
theorem dX8_lost_28 : decode cX8_lost 28 = .ok (.ldc2_w 110, 3) := by decide +kernel
theorem dX8_lost_31 : decode cX8_lost 31 = .ok (.lreturn, 1) := by decide +kernel
theorem dX8_lost_32 : decode cX8_lost 32 = .ok (.lconst 1, 1) := by decide +kernel
theorem dX8_lost_33 : decode cX8_lost 33 = .ok (.lstore 4, 2) := by decide +kernel
theorem dX8_lost_35 : decode cX8_lost 35 = .ok (.lconst 1, 1) := by decide +kernel
theorem dX8_lost_36 : decode cX8_lost 36 = .ok (.lstore 6, 2) := by decide +kernel
theorem dX8_lost_38 : decode cX8_lost 38 = .ok (.iconst 0, 1) := by decide +kernel
theorem dX8_lost_39 : decode cX8_lost 39 = .ok (.istore 8, 2) := by decide +kernel
theorem dX8_lost_41 : decode cX8_lost 41 = .ok (.iload 8, 2) := by decide +kernel
theorem dX8_lost_43 : decode cX8_lost 43 = .ok (.aload_n 0, 1) := by decide +kernel
theorem dX8_lost_44 : decode cX8_lost 44 = .ok (.getfield 16, 3) := by decide +kernel
theorem dX8_lost_47 : decode cX8_lost 47 = .ok (.if_icmp .ge 38, 3) := by decide +kernel
theorem dX8_lost_50 : decode cX8_lost 50 = .ok (.lload 4, 2) := by decide +kernel
theorem dX8_lost_52 : decode cX8_lost 52 = .ok (.iload_n 2, 1) := by decide +kernel
theorem dX8_lost_53 : decode cX8_lost 53 = .ok (.i2l, 1) := by decide +kernel
theorem dX8_lost_54 : decode cX8_lost 54 = .ok (.iload_n 2, 1) := by decide +kernel
theorem dX8_lost_55 : decode cX8_lost 55 = .ok (.i2l, 1) := by decide +kernel
theorem dX8_lost_56 : decode cX8_lost 56 = .ok (.lmul, 1) := by decide +kernel
theorem dX8_lost_57 : decode cX8_lost 57 = .ok (.iload_n 2, 1) := by decide +kernel
theorem dX8_lost_58 : decode cX8_lost 58 = .ok (.iload_n 1, 1) := by decide +kernel
theorem dX8_lost_59 : decode cX8_lost 59 = .ok (.isub, 1) := by decide +kernel
theorem dX8_lost_60 : decode cX8_lost 60 = .ok (.iload_n 2, 1) := by decide +kernel
theorem dX8_lost_61 : decode cX8_lost 61 = .ok (.iload_n 1, 1) := by decide +kernel
theorem dX8_lost_62 : decode cX8_lost 62 = .ok (.isub, 1) := by decide +kernel
theorem dX8_lost_63 : decode cX8_lost 63 = .ok (.imul, 1) := by decide +kernel
theorem dX8_lost_64 : decode cX8_lost 64 = .ok (.i2l, 1) := by decide +kernel
theorem dX8_lost_65 : decode cX8_lost 65 = .ok (.lsub, 1) := by decide +kernel
theorem dX8_lost_66 : decode cX8_lost 66 = .ok (.lmul, 1) := by decide +kernel
theorem dX8_lost_67 : decode cX8_lost 67 = .ok (.lstore 4, 2) := by decide +kernel
theorem dX8_lost_69 : decode cX8_lost 69 = .ok (.lload 6, 2) := by decide +kernel
theorem dX8_lost_71 : decode cX8_lost 71 = .ok (.iload_n 2, 1) := by decide +kernel
theorem dX8_lost_72 : decode cX8_lost 72 = .ok (.i2l, 1) := by decide +kernel
theorem dX8_lost_73 : decode cX8_lost 73 = .ok (.iload_n 2, 1) := by decide +kernel
theorem dX8_lost_74 : decode cX8_lost 74 = .ok (.i2l, 1) := by decide +kernel
theorem dX8_lost_75 : decode cX8_lost 75 = .ok (.lmul, 1) := by decide +kernel
theorem dX8_lost_76 : decode cX8_lost 76 = .ok (.lmul, 1) := by decide +kernel
theorem dX8_lost_77 : decode cX8_lost 77 = .ok (.lstore 6, 2) := by decide +kernel
theorem dX8_lost_79 : decode cX8_lost 79 = .ok (.iinc 8 1, 3) := by decide +kernel
theorem dX8_lost_82 : decode cX8_lost 82 = .ok (.goto (-41), 3) := by decide +kernel
theorem dX8_lost_85 : decode cX8_lost 85 = .ok (.lload 4, 2) := by decide +kernel
theorem dX8_lost_87 : decode cX8_lost 87 = .ok (.lstore 8, 2) := by decide +kernel
theorem dX8_lost_89 : decode cX8_lost 89 = .ok (.lload 6, 2) := by decide +kernel
theorem dX8_lost_91 : decode cX8_lost 91 = .ok (.lstore 10, 2) := by decide +kernel
theorem dX8_lost_93 : decode cX8_lost 93 = .ok (.lload 10, 2) := by decide +kernel
theorem dX8_lost_95 : decode cX8_lost 95 = .ok (.lconst 0, 1) := by decide +kernel
theorem dX8_lost_96 : decode cX8_lost 96 = .ok (.lcmp, 1) := by decide +kernel
theorem dX8_lost_97 : decode cX8_lost 97 = .ok (.ifCond .eq 21, 3) := by decide +kernel
theorem dX8_lost_100 : decode cX8_lost 100 = .ok (.lload 8, 2) := by decide +kernel
theorem dX8_lost_102 : decode cX8_lost 102 = .ok (.lload 10, 2) := by decide +kernel
theorem dX8_lost_104 : decode cX8_lost 104 = .ok (.lrem, 1) := by decide +kernel
theorem dX8_lost_105 : decode cX8_lost 105 = .ok (.lstore 12, 2) := by decide +kernel
theorem dX8_lost_107 : decode cX8_lost 107 = .ok (.lload 10, 2) := by decide +kernel
theorem dX8_lost_109 : decode cX8_lost 109 = .ok (.lstore 8, 2) := by decide +kernel
theorem dX8_lost_111 : decode cX8_lost 111 = .ok (.lload 12, 2) := by decide +kernel
theorem dX8_lost_113 : decode cX8_lost 113 = .ok (.lstore 10, 2) := by decide +kernel
theorem dX8_lost_115 : decode cX8_lost 115 = .ok (.goto (-22), 3) := by decide +kernel
theorem dX8_lost_118 : decode cX8_lost 118 = .ok (.iload_n 3, 1) := by decide +kernel
theorem dX8_lost_119 : decode cX8_lost 119 = .ok (.ifCond .ne 11, 3) := by decide +kernel
theorem dX8_lost_122 : decode cX8_lost 122 = .ok (.lload 4, 2) := by decide +kernel
theorem dX8_lost_124 : decode cX8_lost 124 = .ok (.lload 8, 2) := by decide +kernel
theorem dX8_lost_126 : decode cX8_lost 126 = .ok (.ldiv, 1) := by decide +kernel
theorem dX8_lost_127 : decode cX8_lost 127 = .ok (.goto 8, 3) := by decide +kernel
theorem dX8_lost_130 : decode cX8_lost 130 = .ok (.lload 6, 2) := by decide +kernel
theorem dX8_lost_132 : decode cX8_lost 132 = .ok (.lload 8, 2) := by decide +kernel
theorem dX8_lost_134 : decode cX8_lost 134 = .ok (.ldiv, 1) := by decide +kernel
theorem dX8_lost_135 : decode cX8_lost 135 = .ok (.lreturn, 1) := by decide +kernel
theorem dX8_sheet_0 : decode cX8_sheet 0 = .ok (.aload_n 0, 1) := by decide +kernel
theorem dX8_sheet_1 : decode cX8_sheet 1 = .ok (.iconst 0, 1) := by decide +kernel
theorem dX8_sheet_2 : decode cX8_sheet 2 = .ok (.putfield 107, 3) := by decide +kernel
theorem dX8_sheet_5 : decode cX8_sheet 5 = .ok (.iload_n 1, 1) := by decide +kernel
theorem dX8_sheet_6 : decode cX8_sheet 6 = .ok (.invokestatic 191, 3) := by decide +kernel
theorem dX8_sheet_9 : decode cX8_sheet 9 = .ok (.ifCond .ne 5, 3) := by decide +kernel
theorem dX8_sheet_12 : decode cX8_sheet 12 = .ok (.iconst (-1), 1) := by decide +kernel
theorem dX8_sheet_13 : decode cX8_sheet 13 = .ok (.ireturn, 1) := by decide +kernel
theorem dX8_sheet_14 : decode cX8_sheet 14 = .ok (.iload_n 2, 1) := by decide +kernel
theorem dX8_sheet_15 : decode cX8_sheet 15 = .ok (.invokestatic 194, 3) := by decide +kernel
theorem dX8_sheet_18 : decode cX8_sheet 18 = .ok (.ifCond .eq 9, 3) := by decide +kernel
theorem dX8_sheet_21 : decode cX8_sheet 21 = .ok (.iload_n 3, 1) := by decide +kernel
theorem dX8_sheet_22 : decode cX8_sheet 22 = .ok (.bipush 60, 2) := by decide +kernel
theorem dX8_sheet_24 : decode cX8_sheet 24 = .ok (.if_icmp .le 6, 3) := by decide +kernel
theorem dX8_sheet_27 : decode cX8_sheet 27 = .ok (.bipush (-2), 2) := by decide +kernel
theorem dX8_sheet_29 : decode cX8_sheet 29 = .ok (.ireturn, 1) := by decide +kernel
theorem dX8_sheet_30 : decode cX8_sheet 30 = .ok (.iload_n 3, 1) := by decide +kernel
theorem dX8_sheet_31 : decode cX8_sheet 31 = .ok (.ifCond .ge 9, 3) := by decide +kernel
theorem dX8_sheet_34 : decode cX8_sheet 34 = .ok (.aload_n 0, 1) := by decide +kernel
theorem dX8_sheet_35 : decode cX8_sheet 35 = .ok (.iconst 4, 1) := by decide +kernel
theorem dX8_sheet_36 : decode cX8_sheet 36 = .ok (.invokevirtual 187, 3) := by decide +kernel
theorem dX8_sheet_39 : decode cX8_sheet 39 = .ok (.ireturn, 1) := by decide +kernel
theorem dX8_sheet_40 : decode cX8_sheet 40 = .ok (.aload_n 0, 1) := by decide +kernel
theorem dX8_sheet_41 : decode cX8_sheet 41 = .ok (.getfield 50, 3) := by decide +kernel
theorem dX8_sheet_44 : decode cX8_sheet 44 = .ok (.iload_n 1, 1) := by decide +kernel
theorem dX8_sheet_45 : decode cX8_sheet 45 = .ok (.iload_n 2, 1) := by decide +kernel
theorem dX8_sheet_46 : decode cX8_sheet 46 = .ok (.iastore, 1) := by decide +kernel
theorem dX8_sheet_47 : decode cX8_sheet 47 = .ok (.aload_n 0, 1) := by decide +kernel
theorem dX8_sheet_48 : decode cX8_sheet 48 = .ok (.getfield 53, 3) := by decide +kernel
theorem dX8_sheet_51 : decode cX8_sheet 51 = .ok (.iload_n 1, 1) := by decide +kernel
theorem dX8_sheet_52 : decode cX8_sheet 52 = .ok (.iload_n 3, 1) := by decide +kernel
theorem dX8_sheet_53 : decode cX8_sheet 53 = .ok (.iastore, 1) := by decide +kernel
theorem dX8_sheet_54 : decode cX8_sheet 54 = .ok (.iconst 0, 1) := by decide +kernel
theorem dX8_sheet_55 : decode cX8_sheet 55 = .ok (.istore 4, 2) := by decide +kernel
theorem dX8_sheet_57 : decode cX8_sheet 57 = .ok (.iload 4, 2) := by decide +kernel
theorem dX8_sheet_59 : decode cX8_sheet 59 = .ok (.bipush 60, 2) := by decide +kernel
theorem dX8_sheet_61 : decode cX8_sheet 61 = .ok (.if_icmp .ge 22, 3) := by decide +kernel
theorem dX8_sheet_64 : decode cX8_sheet 64 = .ok (.aload_n 0, 1) := by decide +kernel
theorem dX8_sheet_65 : decode cX8_sheet 65 = .ok (.getfield 56, 3) := by decide +kernel
theorem dX8_sheet_68 : decode cX8_sheet 68 = .ok (.bipush 60, 2) := by decide +kernel
theorem dX8_sheet_70 : decode cX8_sheet 70 = .ok (.iload_n 1, 1) := by decide +kernel
theorem dX8_sheet_71 : decode cX8_sheet 71 = .ok (.imul, 1) := by decide +kernel
theorem dX8_sheet_72 : decode cX8_sheet 72 = .ok (.iload 4, 2) := by decide +kernel
theorem dX8_sheet_74 : decode cX8_sheet 74 = .ok (.iadd, 1) := by decide +kernel
theorem dX8_sheet_75 : decode cX8_sheet 75 = .ok (.iconst 0, 1) := by decide +kernel
theorem dX8_sheet_76 : decode cX8_sheet 76 = .ok (.iastore, 1) := by decide +kernel
theorem dX8_sheet_77 : decode cX8_sheet 77 = .ok (.iinc 4 1, 3) := by decide +kernel
theorem dX8_sheet_80 : decode cX8_sheet 80 = .ok (.goto (-23), 3) := by decide +kernel
theorem dX8_sheet_83 : decode cX8_sheet 83 = .ok (.iconst 1, 1) := by decide +kernel
theorem dX8_sheet_84 : decode cX8_sheet 84 = .ok (.ireturn, 1) := by decide +kernel
theorem dX8_lose_0 : decode cX8_lose 0 = .ok (.iload_n 1, 1) := by decide +kernel
theorem dX8_lose_1 : decode cX8_lose 1 = .ok (.invokestatic 191, 3) := by decide +kernel
theorem dX8_lose_4 : decode cX8_lose 4 = .ok (.ifCond .ne 5, 3) := by decide +kernel
theorem dX8_lose_7 : decode cX8_lose 7 = .ok (.iconst (-1), 1) := by decide +kernel
theorem dX8_lose_8 : decode cX8_lose 8 = .ok (.ireturn, 1) := by decide +kernel
theorem dX8_lose_9 : decode cX8_lose 9 = .ok (.aload_n 0, 1) := by decide +kernel
theorem dX8_lose_10 : decode cX8_lose 10 = .ok (.getfield 50, 3) := by decide +kernel
theorem dX8_lose_13 : decode cX8_lose 13 = .ok (.iload_n 1, 1) := by decide +kernel
theorem dX8_lose_14 : decode cX8_lose 14 = .ok (.iaload, 1) := by decide +kernel
theorem dX8_lose_15 : decode cX8_lose 15 = .ok (.bipush (-9), 2) := by decide +kernel
theorem dX8_lose_17 : decode cX8_lose 17 = .ok (.if_icmp .ne 7, 3) := by decide +kernel
theorem dX8_lose_20 : decode cX8_lose 20 = .ok (.iconst 0, 1) := by decide +kernel
theorem dX8_lose_21 : decode cX8_lose 21 = .ok (.goto 4, 3) := by decide +kernel
theorem dX8_lose_24 : decode cX8_lose 24 = .ok (.iconst 1, 1) := by decide +kernel
theorem dX8_lose_25 : decode cX8_lose 25 = .ok (.istore_n 2, 1) := by decide +kernel
theorem dX8_lose_26 : decode cX8_lose 26 = .ok (.aload_n 0, 1) := by decide +kernel
theorem dX8_lose_27 : decode cX8_lose 27 = .ok (.getfield 50, 3) := by decide +kernel
theorem dX8_lose_30 : decode cX8_lose 30 = .ok (.iload_n 1, 1) := by decide +kernel
theorem dX8_lose_31 : decode cX8_lose 31 = .ok (.bipush (-9), 2) := by decide +kernel
theorem dX8_lose_33 : decode cX8_lose 33 = .ok (.iastore, 1) := by decide +kernel
theorem dX8_lose_34 : decode cX8_lose 34 = .ok (.iload_n 2, 1) := by decide +kernel
theorem dX8_lose_35 : decode cX8_lose 35 = .ok (.ireturn, 1) := by decide +kernel
theorem dX8_put_0 : decode cX8_put 0 = .ok (.aload_n 0, 1) := by decide +kernel
theorem dX8_put_1 : decode cX8_put 1 = .ok (.iconst 0, 1) := by decide +kernel
theorem dX8_put_2 : decode cX8_put 2 = .ok (.putfield 107, 3) := by decide +kernel
theorem dX8_put_5 : decode cX8_put 5 = .ok (.iload_n 1, 1) := by decide +kernel
theorem dX8_put_6 : decode cX8_put 6 = .ok (.invokestatic 191, 3) := by decide +kernel
theorem dX8_put_9 : decode cX8_put 9 = .ok (.ifCond .ne 5, 3) := by decide +kernel
theorem dX8_put_12 : decode cX8_put 12 = .ok (.iconst (-1), 1) := by decide +kernel
theorem dX8_put_13 : decode cX8_put 13 = .ok (.ireturn, 1) := by decide +kernel
theorem dX8_put_14 : decode cX8_put 14 = .ok (.aload_n 0, 1) := by decide +kernel
theorem dX8_put_15 : decode cX8_put 15 = .ok (.getfield 50, 3) := by decide +kernel
theorem dX8_put_18 : decode cX8_put 18 = .ok (.iload_n 1, 1) := by decide +kernel
theorem dX8_put_19 : decode cX8_put 19 = .ok (.iaload, 1) := by decide +kernel
theorem dX8_put_20 : decode cX8_put 20 = .ok (.bipush (-9), 2) := by decide +kernel
theorem dX8_put_22 : decode cX8_put 22 = .ok (.if_icmp .ne 9, 3) := by decide +kernel
theorem dX8_put_25 : decode cX8_put 25 = .ok (.aload_n 0, 1) := by decide +kernel
theorem dX8_put_26 : decode cX8_put 26 = .ok (.iconst 1, 1) := by decide +kernel
theorem dX8_put_27 : decode cX8_put 27 = .ok (.invokevirtual 187, 3) := by decide +kernel
theorem dX8_put_30 : decode cX8_put 30 = .ok (.ireturn, 1) := by decide +kernel
theorem dX8_put_31 : decode cX8_put 31 = .ok (.iload_n 2, 1) := by decide +kernel
theorem dX8_put_32 : decode cX8_put 32 = .ok (.iconst 0, 1) := by decide +kernel
theorem dX8_put_33 : decode cX8_put 33 = .ok (.aload_n 0, 1) := by decide +kernel
theorem dX8_put_34 : decode cX8_put 34 = .ok (.getfield 53, 3) := by decide +kernel
theorem dX8_put_37 : decode cX8_put 37 = .ok (.iload_n 1, 1) := by decide +kernel
theorem dX8_put_38 : decode cX8_put 38 = .ok (.iaload, 1) := by decide +kernel
theorem dX8_put_39 : decode cX8_put 39 = .ok (.iconst 1, 1) := by decide +kernel
theorem dX8_put_40 : decode cX8_put 40 = .ok (.isub, 1) := by decide +kernel
theorem dX8_put_41 : decode cX8_put 41 = .ok (.invokestatic 116, 3) := by decide +kernel
theorem dX8_put_44 : decode cX8_put 44 = .ok (.ifCond .ne 9, 3) := by decide +kernel
theorem dX8_put_47 : decode cX8_put 47 = .ok (.aload_n 0, 1) := by decide +kernel
theorem dX8_put_48 : decode cX8_put 48 = .ok (.iconst 3, 1) := by decide +kernel
theorem dX8_put_49 : decode cX8_put 49 = .ok (.invokevirtual 187, 3) := by decide +kernel
theorem dX8_put_52 : decode cX8_put 52 = .ok (.ireturn, 1) := by decide +kernel
theorem dX8_put_53 : decode cX8_put 53 = .ok (.aload_n 0, 1) := by decide +kernel
theorem dX8_put_54 : decode cX8_put 54 = .ok (.getfield 56, 3) := by decide +kernel
theorem dX8_put_57 : decode cX8_put 57 = .ok (.bipush 60, 2) := by decide +kernel
theorem dX8_put_59 : decode cX8_put 59 = .ok (.iload_n 1, 1) := by decide +kernel
theorem dX8_put_60 : decode cX8_put 60 = .ok (.imul, 1) := by decide +kernel
theorem dX8_put_61 : decode cX8_put 61 = .ok (.iload_n 2, 1) := by decide +kernel
theorem dX8_put_62 : decode cX8_put 62 = .ok (.iadd, 1) := by decide +kernel
theorem dX8_put_63 : decode cX8_put 63 = .ok (.aload_n 0, 1) := by decide +kernel
theorem dX8_put_64 : decode cX8_put 64 = .ok (.getfield 50, 3) := by decide +kernel
theorem dX8_put_67 : decode cX8_put 67 = .ok (.iload_n 1, 1) := by decide +kernel
theorem dX8_put_68 : decode cX8_put 68 = .ok (.iaload, 1) := by decide +kernel
theorem dX8_put_69 : decode cX8_put 69 = .ok (.ifCond .ne 8, 3) := by decide +kernel
theorem dX8_put_72 : decode cX8_put 72 = .ok (.iload_n 3, 1) := by decide +kernel
theorem dX8_put_73 : decode cX8_put 73 = .ok (.i2b, 1) := by decide +kernel
theorem dX8_put_74 : decode cX8_put 74 = .ok (.goto 19, 3) := by decide +kernel
theorem dX8_put_77 : decode cX8_put 77 = .ok (.aload_n 0, 1) := by decide +kernel
theorem dX8_put_78 : decode cX8_put 78 = .ok (.getfield 50, 3) := by decide +kernel
theorem dX8_put_81 : decode cX8_put 81 = .ok (.iload_n 1, 1) := by decide +kernel
theorem dX8_put_82 : decode cX8_put 82 = .ok (.iaload, 1) := by decide +kernel
theorem dX8_put_83 : decode cX8_put 83 = .ok (.iconst 1, 1) := by decide +kernel
theorem dX8_put_84 : decode cX8_put 84 = .ok (.if_icmp .ne 8, 3) := by decide +kernel
theorem dX8_put_87 : decode cX8_put 87 = .ok (.iload_n 3, 1) := by decide +kernel
theorem dX8_put_88 : decode cX8_put 88 = .ok (.i2s, 1) := by decide +kernel
theorem dX8_put_89 : decode cX8_put 89 = .ok (.goto 4, 3) := by decide +kernel
theorem dX8_put_92 : decode cX8_put 92 = .ok (.iload_n 3, 1) := by decide +kernel
theorem dX8_put_93 : decode cX8_put 93 = .ok (.iastore, 1) := by decide +kernel
theorem dX8_put_94 : decode cX8_put 94 = .ok (.iconst 1, 1) := by decide +kernel
theorem dX8_put_95 : decode cX8_put 95 = .ok (.ireturn, 1) := by decide +kernel
theorem dX8_cell_0 : decode cX8_cell 0 = .ok (.aload_n 0, 1) := by decide +kernel
theorem dX8_cell_1 : decode cX8_cell 1 = .ok (.iconst 0, 1) := by decide +kernel
theorem dX8_cell_2 : decode cX8_cell 2 = .ok (.putfield 107, 3) := by decide +kernel
theorem dX8_cell_5 : decode cX8_cell 5 = .ok (.iload_n 1, 1) := by decide +kernel
theorem dX8_cell_6 : decode cX8_cell 6 = .ok (.invokestatic 191, 3) := by decide +kernel
theorem dX8_cell_9 : decode cX8_cell 9 = .ok (.ifCond .eq 10, 3) := by decide +kernel
theorem dX8_cell_12 : decode cX8_cell 12 = .ok (.iload_n 3, 1) := by decide +kernel
theorem dX8_cell_13 : decode cX8_cell 13 = .ok (.invokestatic 194, 3) := by decide +kernel
theorem dX8_cell_16 : decode cX8_cell 16 = .ok (.ifCond .ne 7, 3) := by decide +kernel
theorem dX8_cell_19 : decode cX8_cell 19 = .ok (.ldc2_w 110, 3) := by decide +kernel
theorem dX8_cell_22 : decode cX8_cell 22 = .ok (.lreturn, 1) := by decide +kernel
theorem dX8_cell_23 : decode cX8_cell 23 = .ok (.aload_n 0, 1) := by decide +kernel
theorem dX8_cell_24 : decode cX8_cell 24 = .ok (.getfield 50, 3) := by decide +kernel
theorem dX8_cell_27 : decode cX8_cell 27 = .ok (.iload_n 1, 1) := by decide +kernel
theorem dX8_cell_28 : decode cX8_cell 28 = .ok (.iaload, 1) := by decide +kernel
theorem dX8_cell_29 : decode cX8_cell 29 = .ok (.bipush (-9), 2) := by decide +kernel
theorem dX8_cell_31 : decode cX8_cell 31 = .ok (.if_icmp .eq 19, 3) := by decide +kernel
theorem dX8_cell_34 : decode cX8_cell 34 = .ok (.aload_n 0, 1) := by decide +kernel
theorem dX8_cell_35 : decode cX8_cell 35 = .ok (.getfield 50, 3) := by decide +kernel
theorem dX8_cell_38 : decode cX8_cell 38 = .ok (.iload_n 1, 1) := by decide +kernel
theorem dX8_cell_39 : decode cX8_cell 39 = .ok (.iaload, 1) := by decide +kernel
theorem dX8_cell_40 : decode cX8_cell 40 = .ok (.iload_n 3, 1) := by decide +kernel
theorem dX8_cell_41 : decode cX8_cell 41 = .ok (.if_icmp .eq 9, 3) := by decide +kernel
theorem dX8_cell_44 : decode cX8_cell 44 = .ok (.aload_n 0, 1) := by decide +kernel
theorem dX8_cell_45 : decode cX8_cell 45 = .ok (.iconst 2, 1) := by decide +kernel
theorem dX8_cell_46 : decode cX8_cell 46 = .ok (.invokevirtual 308, 3) := by decide +kernel
theorem dX8_cell_49 : decode cX8_cell 49 = .ok (.lreturn, 1) := by decide +kernel
theorem dX8_cell_50 : decode cX8_cell 50 = .ok (.aload_n 0, 1) := by decide +kernel
theorem dX8_cell_51 : decode cX8_cell 51 = .ok (.getfield 50, 3) := by decide +kernel
theorem dX8_cell_54 : decode cX8_cell 54 = .ok (.iload_n 1, 1) := by decide +kernel
theorem dX8_cell_55 : decode cX8_cell 55 = .ok (.iaload, 1) := by decide +kernel
theorem dX8_cell_56 : decode cX8_cell 56 = .ok (.bipush (-9), 2) := by decide +kernel
theorem dX8_cell_58 : decode cX8_cell 58 = .ok (.if_icmp .ne 9, 3) := by decide +kernel
theorem dX8_cell_61 : decode cX8_cell 61 = .ok (.aload_n 0, 1) := by decide +kernel
theorem dX8_cell_62 : decode cX8_cell 62 = .ok (.iconst 1, 1) := by decide +kernel
theorem dX8_cell_63 : decode cX8_cell 63 = .ok (.invokevirtual 308, 3) := by decide +kernel
theorem dX8_cell_66 : decode cX8_cell 66 = .ok (.lreturn, 1) := by decide +kernel
theorem dX8_cell_67 : decode cX8_cell 67 = .ok (.iload_n 2, 1) := by decide +kernel
theorem dX8_cell_68 : decode cX8_cell 68 = .ok (.iconst 0, 1) := by decide +kernel
theorem dX8_cell_69 : decode cX8_cell 69 = .ok (.aload_n 0, 1) := by decide +kernel
theorem dX8_cell_70 : decode cX8_cell 70 = .ok (.getfield 53, 3) := by decide +kernel
theorem dX8_cell_73 : decode cX8_cell 73 = .ok (.iload_n 1, 1) := by decide +kernel
theorem dX8_cell_74 : decode cX8_cell 74 = .ok (.iaload, 1) := by decide +kernel
theorem dX8_cell_75 : decode cX8_cell 75 = .ok (.iconst 1, 1) := by decide +kernel
theorem dX8_cell_76 : decode cX8_cell 76 = .ok (.isub, 1) := by decide +kernel
theorem dX8_cell_77 : decode cX8_cell 77 = .ok (.invokestatic 116, 3) := by decide +kernel
theorem dX8_cell_80 : decode cX8_cell 80 = .ok (.ifCond .ne 9, 3) := by decide +kernel
theorem dX8_cell_83 : decode cX8_cell 83 = .ok (.aload_n 0, 1) := by decide +kernel
theorem dX8_cell_84 : decode cX8_cell 84 = .ok (.iconst 3, 1) := by decide +kernel
theorem dX8_cell_85 : decode cX8_cell 85 = .ok (.invokevirtual 308, 3) := by decide +kernel
theorem dX8_cell_88 : decode cX8_cell 88 = .ok (.lreturn, 1) := by decide +kernel
theorem dX8_cell_89 : decode cX8_cell 89 = .ok (.aload_n 0, 1) := by decide +kernel
theorem dX8_cell_90 : decode cX8_cell 90 = .ok (.getfield 56, 3) := by decide +kernel
theorem dX8_cell_93 : decode cX8_cell 93 = .ok (.bipush 60, 2) := by decide +kernel
theorem dX8_cell_95 : decode cX8_cell 95 = .ok (.iload_n 1, 1) := by decide +kernel
theorem dX8_cell_96 : decode cX8_cell 96 = .ok (.imul, 1) := by decide +kernel
theorem dX8_cell_97 : decode cX8_cell 97 = .ok (.iload_n 2, 1) := by decide +kernel
theorem dX8_cell_98 : decode cX8_cell 98 = .ok (.iadd, 1) := by decide +kernel
theorem dX8_cell_99 : decode cX8_cell 99 = .ok (.iaload, 1) := by decide +kernel
theorem dX8_cell_100 : decode cX8_cell 100 = .ok (.i2l, 1) := by decide +kernel
theorem dX8_cell_101 : decode cX8_cell 101 = .ok (.lreturn, 1) := by decide +kernel
theorem dX8_begins_0 : decode cX8_begins 0 = .ok (.aload_n 0, 1) := by decide +kernel
theorem dX8_begins_1 : decode cX8_begins 1 = .ok (.bipush 31, 2) := by decide +kernel
theorem dX8_begins_3 : decode cX8_begins 3 = .ok (.aload_n 0, 1) := by decide +kernel
theorem dX8_begins_4 : decode cX8_begins 4 = .ok (.getfield 312, 3) := by decide +kernel
theorem dX8_begins_7 : decode cX8_begins 7 = .ok (.imul, 1) := by decide +kernel
theorem dX8_begins_8 : decode cX8_begins 8 = .ok (.iload_n 1, 1) := by decide +kernel
theorem dX8_begins_9 : decode cX8_begins 9 = .ok (.iadd, 1) := by decide +kernel
theorem dX8_begins_10 : decode cX8_begins 10 = .ok (.putfield 312, 3) := by decide +kernel
theorem dX8_begins_13 : decode cX8_begins 13 = .ok (.return_, 1) := by decide +kernel
theorem dX8_tell_0 : decode cX8_tell 0 = .ok (.aload_n 0, 1) := by decide +kernel
theorem dX8_tell_1 : decode cX8_tell 1 = .ok (.iload_n 1, 1) := by decide +kernel
theorem dX8_tell_2 : decode cX8_tell 2 = .ok (.invokevirtual 252, 3) := by decide +kernel
theorem dX8_tell_5 : decode cX8_tell 5 = .ok (.ifCond .ne 5, 3) := by decide +kernel
theorem dX8_tell_8 : decode cX8_tell 8 = .ok (.iconst (-1), 1) := by decide +kernel
theorem dX8_tell_9 : decode cX8_tell 9 = .ok (.ireturn, 1) := by decide +kernel
theorem dX8_tell_10 : decode cX8_tell 10 = .ok (.aload_n 0, 1) := by decide +kernel
theorem dX8_tell_11 : decode cX8_tell 11 = .ok (.iload_n 1, 1) := by decide +kernel
theorem dX8_tell_12 : decode cX8_tell 12 = .ok (.invokevirtual 255, 3) := by decide +kernel
theorem dX8_tell_15 : decode cX8_tell 15 = .ok (.lookupswitch 85 #[(1, 25), (2, 49)], 25) := by decide +kernel
theorem dX8_tell_40 : decode cX8_tell 40 = .ok (.aload_n 0, 1) := by decide +kernel
theorem dX8_tell_41 : decode cX8_tell 41 = .ok (.iconst 2, 1) := by decide +kernel
theorem dX8_tell_42 : decode cX8_tell 42 = .ok (.invokevirtual 315, 3) := by decide +kernel
theorem dX8_tell_45 : decode cX8_tell 45 = .ok (.aload_n 0, 1) := by decide +kernel
theorem dX8_tell_46 : decode cX8_tell 46 = .ok (.iconst 1, 1) := by decide +kernel
theorem dX8_tell_47 : decode cX8_tell 47 = .ok (.invokevirtual 315, 3) := by decide +kernel
theorem dX8_tell_50 : decode cX8_tell 50 = .ok (.aload_n 0, 1) := by decide +kernel
theorem dX8_tell_51 : decode cX8_tell 51 = .ok (.getfield 65, 3) := by decide +kernel
theorem dX8_tell_54 : decode cX8_tell 54 = .ok (.iload_n 1, 1) := by decide +kernel
theorem dX8_tell_55 : decode cX8_tell 55 = .ok (.iaload, 1) := by decide +kernel
theorem dX8_tell_56 : decode cX8_tell 56 = .ok (.aload_n 0, 1) := by decide +kernel
theorem dX8_tell_57 : decode cX8_tell 57 = .ok (.getfield 68, 3) := by decide +kernel
theorem dX8_tell_60 : decode cX8_tell 60 = .ok (.iload_n 1, 1) := by decide +kernel
theorem dX8_tell_61 : decode cX8_tell 61 = .ok (.iaload, 1) := by decide +kernel
theorem dX8_tell_62 : decode cX8_tell 62 = .ok (.iadd, 1) := by decide +kernel
theorem dX8_tell_63 : decode cX8_tell 63 = .ok (.ireturn, 1) := by decide +kernel
theorem dX8_tell_64 : decode cX8_tell 64 = .ok (.aload_n 0, 1) := by decide +kernel
theorem dX8_tell_65 : decode cX8_tell 65 = .ok (.iconst 3, 1) := by decide +kernel
theorem dX8_tell_66 : decode cX8_tell 66 = .ok (.invokevirtual 315, 3) := by decide +kernel
theorem dX8_tell_69 : decode cX8_tell 69 = .ok (.aload_n 0, 1) := by decide +kernel
theorem dX8_tell_70 : decode cX8_tell 70 = .ok (.iconst 2, 1) := by decide +kernel
theorem dX8_tell_71 : decode cX8_tell 71 = .ok (.invokevirtual 315, 3) := by decide +kernel
theorem dX8_tell_74 : decode cX8_tell 74 = .ok (.aload_n 0, 1) := by decide +kernel
theorem dX8_tell_75 : decode cX8_tell 75 = .ok (.iconst 1, 1) := by decide +kernel
theorem dX8_tell_76 : decode cX8_tell 76 = .ok (.invokevirtual 315, 3) := by decide +kernel
theorem dX8_tell_79 : decode cX8_tell 79 = .ok (.aload_n 0, 1) := by decide +kernel
theorem dX8_tell_80 : decode cX8_tell 80 = .ok (.iconst 1, 1) := by decide +kernel
theorem dX8_tell_81 : decode cX8_tell 81 = .ok (.invokevirtual 315, 3) := by decide +kernel
theorem dX8_tell_84 : decode cX8_tell 84 = .ok (.iconst 2, 1) := by decide +kernel
theorem dX8_tell_85 : decode cX8_tell 85 = .ok (.aload_n 0, 1) := by decide +kernel
theorem dX8_tell_86 : decode cX8_tell 86 = .ok (.getfield 65, 3) := by decide +kernel
theorem dX8_tell_89 : decode cX8_tell 89 = .ok (.iload_n 1, 1) := by decide +kernel
theorem dX8_tell_90 : decode cX8_tell 90 = .ok (.iaload, 1) := by decide +kernel
theorem dX8_tell_91 : decode cX8_tell 91 = .ok (.imul, 1) := by decide +kernel
theorem dX8_tell_92 : decode cX8_tell 92 = .ok (.aload_n 0, 1) := by decide +kernel
theorem dX8_tell_93 : decode cX8_tell 93 = .ok (.getfield 68, 3) := by decide +kernel
theorem dX8_tell_96 : decode cX8_tell 96 = .ok (.iload_n 1, 1) := by decide +kernel
theorem dX8_tell_97 : decode cX8_tell 97 = .ok (.iaload, 1) := by decide +kernel
theorem dX8_tell_98 : decode cX8_tell 98 = .ok (.iadd, 1) := by decide +kernel
theorem dX8_tell_99 : decode cX8_tell 99 = .ok (.ireturn, 1) := by decide +kernel
theorem dX8_tell_100 : decode cX8_tell 100 = .ok (.aload_n 0, 1) := by decide +kernel
theorem dX8_tell_101 : decode cX8_tell 101 = .ok (.iconst 1, 1) := by decide +kernel
theorem dX8_tell_102 : decode cX8_tell 102 = .ok (.invokevirtual 315, 3) := by decide +kernel
theorem dX8_tell_105 : decode cX8_tell 105 = .ok (.aload_n 0, 1) := by decide +kernel
theorem dX8_tell_106 : decode cX8_tell 106 = .ok (.getfield 65, 3) := by decide +kernel
theorem dX8_tell_109 : decode cX8_tell 109 = .ok (.iload_n 1, 1) := by decide +kernel
theorem dX8_tell_110 : decode cX8_tell 110 = .ok (.iaload, 1) := by decide +kernel
theorem dX8_tell_111 : decode cX8_tell 111 = .ok (.ireturn, 1) := by decide +kernel
theorem dX8_show_0 : decode cX8_show 0 = .ok (.aload_n 0, 1) := by decide +kernel
theorem dX8_show_1 : decode cX8_show 1 = .ok (.iload_n 1, 1) := by decide +kernel
theorem dX8_show_2 : decode cX8_show 2 = .ok (.invokevirtual 252, 3) := by decide +kernel
theorem dX8_show_5 : decode cX8_show 5 = .ok (.ifCond .ne 5, 3) := by decide +kernel
theorem dX8_show_8 : decode cX8_show 8 = .ok (.iconst (-1), 1) := by decide +kernel
theorem dX8_show_9 : decode cX8_show 9 = .ok (.ireturn, 1) := by decide +kernel
theorem dX8_show_10 : decode cX8_show 10 = .ok (.aload_n 0, 1) := by decide +kernel
theorem dX8_show_11 : decode cX8_show 11 = .ok (.aload_n 0, 1) := by decide +kernel
theorem dX8_show_12 : decode cX8_show 12 = .ok (.iload_n 1, 1) := by decide +kernel
theorem dX8_show_13 : decode cX8_show 13 = .ok (.invokevirtual 255, 3) := by decide +kernel
theorem dX8_show_16 : decode cX8_show 16 = .ok (.iconst 2, 1) := by decide +kernel
theorem dX8_show_17 : decode cX8_show 17 = .ok (.if_icmp .ne 7, 3) := by decide +kernel
theorem dX8_show_20 : decode cX8_show 20 = .ok (.iconst 5, 1) := by decide +kernel
theorem dX8_show_21 : decode cX8_show 21 = .ok (.goto 4, 3) := by decide +kernel
theorem dX8_show_24 : decode cX8_show 24 = .ok (.iconst 4, 1) := by decide +kernel
theorem dX8_show_25 : decode cX8_show 25 = .ok (.invokevirtual 315, 3) := by decide +kernel
theorem dX8_show_28 : decode cX8_show 28 = .ok (.aload_n 0, 1) := by decide +kernel
theorem dX8_show_29 : decode cX8_show 29 = .ok (.iload_n 1, 1) := by decide +kernel
theorem dX8_show_30 : decode cX8_show 30 = .ok (.invokevirtual 255, 3) := by decide +kernel
theorem dX8_show_33 : decode cX8_show 33 = .ok (.iconst 2, 1) := by decide +kernel
theorem dX8_show_34 : decode cX8_show 34 = .ok (.if_icmp .ne 8, 3) := by decide +kernel
theorem dX8_show_37 : decode cX8_show 37 = .ok (.bipush 30, 2) := by decide +kernel
theorem dX8_show_39 : decode cX8_show 39 = .ok (.goto 4, 3) := by decide +kernel
theorem dX8_show_42 : decode cX8_show 42 = .ok (.iload_n 1, 1) := by decide +kernel
theorem dX8_show_43 : decode cX8_show 43 = .ok (.ireturn, 1) := by decide +kernel
theorem dX8_as_0 : decode cX8_as 0 = .ok (.aload_n 0, 1) := by decide +kernel
theorem dX8_as_1 : decode cX8_as 1 = .ok (.iconst 0, 1) := by decide +kernel
theorem dX8_as_2 : decode cX8_as 2 = .ok (.putfield 107, 3) := by decide +kernel
theorem dX8_as_5 : decode cX8_as 5 = .ok (.aload_n 0, 1) := by decide +kernel
theorem dX8_as_6 : decode cX8_as 6 = .ok (.iload_n 1, 1) := by decide +kernel
theorem dX8_as_7 : decode cX8_as 7 = .ok (.invokevirtual 252, 3) := by decide +kernel
theorem dX8_as_10 : decode cX8_as 10 = .ok (.ifCond .ne 5, 3) := by decide +kernel
theorem dX8_as_13 : decode cX8_as 13 = .ok (.iconst (-1), 1) := by decide +kernel
theorem dX8_as_14 : decode cX8_as 14 = .ok (.ireturn, 1) := by decide +kernel
theorem dX8_as_15 : decode cX8_as 15 = .ok (.iload_n 2, 1) := by decide +kernel
theorem dX8_as_16 : decode cX8_as 16 = .ok (.iconst 0, 1) := by decide +kernel
theorem dX8_as_17 : decode cX8_as 17 = .ok (.iconst 2, 1) := by decide +kernel
theorem dX8_as_18 : decode cX8_as 18 = .ok (.invokestatic 116, 3) := by decide +kernel
theorem dX8_as_21 : decode cX8_as 21 = .ok (.ifCond .ne 6, 3) := by decide +kernel
theorem dX8_as_24 : decode cX8_as 24 = .ok (.bipush (-2), 2) := by decide +kernel
theorem dX8_as_26 : decode cX8_as 26 = .ok (.ireturn, 1) := by decide +kernel
theorem dX8_as_27 : decode cX8_as 27 = .ok (.aload_n 0, 1) := by decide +kernel
theorem dX8_as_28 : decode cX8_as 28 = .ok (.iload_n 1, 1) := by decide +kernel
theorem dX8_as_29 : decode cX8_as 29 = .ok (.invokevirtual 255, 3) := by decide +kernel
theorem dX8_as_32 : decode cX8_as 32 = .ok (.iload_n 2, 1) := by decide +kernel
theorem dX8_as_33 : decode cX8_as 33 = .ok (.if_icmp .lt 7, 3) := by decide +kernel
theorem dX8_as_36 : decode cX8_as 36 = .ok (.iconst 1, 1) := by decide +kernel
theorem dX8_as_37 : decode cX8_as 37 = .ok (.goto 8, 3) := by decide +kernel
theorem dX8_as_40 : decode cX8_as 40 = .ok (.aload_n 0, 1) := by decide +kernel
theorem dX8_as_41 : decode cX8_as 41 = .ok (.iconst 2, 1) := by decide +kernel
theorem dX8_as_42 : decode cX8_as 42 = .ok (.invokevirtual 187, 3) := by decide +kernel
theorem dX8_as_45 : decode cX8_as 45 = .ok (.ireturn, 1) := by decide +kernel
theorem dX8_trace_0 : decode cX8_trace 0 = .ok (.aload_n 0, 1) := by decide +kernel
theorem dX8_trace_1 : decode cX8_trace 1 = .ok (.getfield 312, 3) := by decide +kernel
theorem dX8_trace_4 : decode cX8_trace 4 = .ok (.ireturn, 1) := by decide +kernel
theorem dX8_fault_0 : decode cX8_fault 0 = .ok (.aload_n 0, 1) := by decide +kernel
theorem dX8_fault_1 : decode cX8_fault 1 = .ok (.getfield 107, 3) := by decide +kernel
theorem dX8_fault_4 : decode cX8_fault 4 = .ok (.ireturn, 1) := by decide +kernel
theorem dX8_many_0 : decode cX8_many 0 = .ok (.iload_n 1, 1) := by decide +kernel
theorem dX8_many_1 : decode cX8_many 1 = .ok (.tableswitch 60 0 4 #[35, 40, 45, 50, 55], 35) := by decide +kernel
theorem dX8_many_36 : decode cX8_many 36 = .ok (.aload_n 0, 1) := by decide +kernel
theorem dX8_many_37 : decode cX8_many 37 = .ok (.invokevirtual 120, 3) := by decide +kernel
theorem dX8_many_40 : decode cX8_many 40 = .ok (.ireturn, 1) := by decide +kernel
theorem dX8_many_41 : decode cX8_many 41 = .ok (.aload_n 0, 1) := by decide +kernel
theorem dX8_many_42 : decode cX8_many 42 = .ok (.getfield 234, 3) := by decide +kernel
theorem dX8_many_45 : decode cX8_many 45 = .ok (.ireturn, 1) := by decide +kernel
theorem dX8_many_46 : decode cX8_many 46 = .ok (.aload_n 0, 1) := by decide +kernel
theorem dX8_many_47 : decode cX8_many 47 = .ok (.getfield 62, 3) := by decide +kernel
theorem dX8_many_50 : decode cX8_many 50 = .ok (.ireturn, 1) := by decide +kernel
theorem dX8_many_51 : decode cX8_many 51 = .ok (.aload_n 0, 1) := by decide +kernel
theorem dX8_many_52 : decode cX8_many 52 = .ok (.getfield 77, 3) := by decide +kernel
theorem dX8_many_55 : decode cX8_many 55 = .ok (.ireturn, 1) := by decide +kernel
theorem dX8_many_56 : decode cX8_many 56 = .ok (.aload_n 0, 1) := by decide +kernel
theorem dX8_many_57 : decode cX8_many 57 = .ok (.getfield 35, 3) := by decide +kernel
theorem dX8_many_60 : decode cX8_many 60 = .ok (.ireturn, 1) := by decide +kernel
theorem dX8_many_61 : decode cX8_many 61 = .ok (.bipush (-2), 2) := by decide +kernel
theorem dX8_many_63 : decode cX8_many 63 = .ok (.ireturn, 1) := by decide +kernel
end
section
/-! the words: of tables alone, and good or of a nest -/
def zgood (w : Cond) : Bool := w.onTables && (goodWord w || (match w with | .fieldLinkNest _ _ _ _ _ _ => true | .methodLinkNest _ _ _ _ => true | _ => false))
def zT : List Cond := lw_tbl.filter zgood
theorem zgood_tbl : ∀ w ∈ zT, zgood w = true := fun w h => (List.mem_filter.mp h).2
theorem zT_in {w : Cond} (h : w ∈ lw_tbl) (hg : zgood w = true) : w ∈ zT := List.mem_filter.mpr ⟨h, hg⟩
theorem zT_sub {ws : List Cond} (h : ∀ w ∈ ws, w ∈ lw_tbl) (hg : ws.all zgood = true) : ∀ w ∈ ws, w ∈ zT := fun w hw => zT_in (h w hw) (List.all_eq_true.mp hg w hw)
theorem zword_warm {w : Cond} (hw : zgood w = true) {s U : State} (hW : s.WarmedH U.vm) (h : va_Nw w s) : va_Nw w U := by
  unfold zgood at hw
  simp only [Bool.and_eq_true, Bool.or_eq_true] at hw
  rcases hw.2 with h1 | h1
  · exact word_at hW (good_of_word h1) h
  · cases w with
    | fieldLinkNest a i b n d q => exact va_Nw.warmF hW h
    | methodLinkNest a i x q => exact va_Nw.warmM hW h
    | _ => simp at h1
theorem ztbl_warm {s U : State} (hW : s.WarmedH U.vm) (h : ∀ w ∈ zT, va_Nw w s) : ∀ w ∈ zT, va_Nw w U :=
  fun w hm => zword_warm (zgood_tbl w hm) hW (h w hm)
theorem ztbl_on {w : Cond} (hm : w ∈ zT) : w.onTables = true := by
  have h := zgood_tbl w hm
  unfold zgood at h
  simp only [Bool.and_eq_true] at h
  exact h.1
theorem ztbl_use {s : State} (h : ∀ w ∈ zT, va_Nw w s) (args : Array Value) : ∀ w ∈ zT, w.before args s = true := fun w hm => va_Nw.use (ztbl_on hm) (h w hm)
theorem ztbl_of {s : State} {args : Array Value} (h : ∀ w ∈ zT, w.before args s = true) : ∀ w ∈ zT, va_Nw w s := fun w hm => va_Nw.of (ztbl_on hm) (h w hm)
/-! the classes of arrays -/
def zOv (ty : FieldType) (U : State) : Prop := ∃ (comp c : ClassId) (k : Class), U.vm.findClass (FieldType.array ty).toString = some comp ∧ (U.vm.classes.findIdx? fun (x : Class) => match x.kind with | .array component _ => component == comp | _ => false) = some c ∧ U.vm.classes[c]? = some k ∧ k.kind = .array comp (.array ty) ∧ U.vm.findClass ("[" ++ (FieldType.array ty).toString) = some c
theorem zOv.moved {ty : FieldType} {u U : State} (hvm : u.vm.Alike U.vm) (h : zOv ty u) : zOv ty U := by
  obtain ⟨comp, c, k, h1, h2, h3, h4, h5⟩ := h
  obtain ⟨k', hk', he⟩ := hvm.2.2 _ _ h3
  refine ⟨comp, c, k', by rw [hvm.findClass]; exact h1, ?_, hk', by rw [he]; exact h4, by rw [hvm.findClass]; exact h5⟩
  refine Eq.trans (va_idx_bare U.vm comp).symm ?_
  rw [hvm.bare_eq]
  exact Eq.trans (va_idx_bare u.vm comp) h2
def zAr (U : State) : Prop := (∀ ty ∈ [FieldType.int, .long, .boolean], (Cond.arrayClass ty).before #[] U = true) ∧ zOv .int U ∧ zOv .long U
theorem zAr.warm {s U : State} (hW : s.WarmedH U.vm) (h : zAr s) : zAr U := ⟨fun ty ht => word_at hW (Or.inr ⟨ty, rfl⟩) (h.1 ty ht), h.2.1.moved hW.alike, h.2.2.moved hW.alike⟩
/-! the surroundings: launch, classes, the first new address, the classes of arrays, the two static arrays -/
abbrev zG : Type := Launch × va_G × Nat × (Nat → ClassId) × Nat × Nat × Nat × Nat × (Nat → Int32)
abbrev zl (G : zG) : Launch := G.1
abbrev zD (G : zG) : va_G := G.2.1
abbrev zB (G : zG) : Nat := G.2.2.1
abbrev zC (G : zG) : Nat → ClassId := G.2.2.2.1
abbrev zsP (G : zG) : Nat := G.2.2.2.2.1
abbrev zsR (G : zG) : Nat := G.2.2.2.2.2.1
abbrev zsb (G : zG) : Nat := G.2.2.2.2.2.2.1
abbrev zsL (G : zG) : Nat := G.2.2.2.2.2.2.2.1
abbrev zsx (G : zG) : Nat → Int32 := G.2.2.2.2.2.2.2.2
def zA (G : zG) : Nat → Prop := fun q => zB G ≤ q
def zty (G : zG) : List (ClassId × FieldType) := [(zC G 0, .int), (zC G 1, .long), (zC G 2, .boolean), (zC G 3, .array .int), (zC G 4, .array .long)]
def zws (B : Nat) (es : List va_E) : va_W := es.zipIdx.map (fun p => (B + p.2, p.1))
theorem zws_get {B : Nat} {es : List va_E} {k : Nat} {e : va_E} (h : es[k]? = some e) : (zws B es)[k]? = some (B + k, e) := by
  unfold zws
  rw [List.getElem?_map, List.getElem?_zipIdx, h]
  simp
theorem zws_len (B : Nat) (es : List va_E) : (zws B es).length = es.length := by simp [zws]
theorem zws_inv {B : Nat} {es : List va_E} {k : Nat} {q : Nat × va_E} (h : (zws B es)[k]? = some q) : q.1 = B + k ∧ es[k]? = some q.2 := by
  unfold zws at h
  rw [List.getElem?_map, List.getElem?_zipIdx] at h
  cases he : es[k]? with
  | none => rw [he] at h; simp at h
  | some e => rw [he] at h; simp at h; rw [← h]; simp
theorem zws_D (B : Nat) (es : List va_E) : va_D (fun q => B ≤ q) (zws B es) := by
  refine ⟨fun i j p q hi hj hpq => ?_, fun k q hk => ?_⟩
  · have h1 := (zws_inv hi).1
    have h2 := (zws_inv hj).1
    omega
  · show B ≤ q.1
    rw [(zws_inv hk).1]; omega
theorem zws_set {B : Nat} {es : List va_E} {k : Nat} {e : va_E} : (zws B es).set k (B + k, e) = zws B (es.set k e) := by
  apply List.ext_getElem?
  intro i
  by_cases hi : i = k
  · subst hi
    by_cases hl : i < es.length
    · rw [List.getElem?_set_self (by rw [zws_len]; exact hl)]
      rw [zws_get (List.getElem?_set_self hl)]
    · rw [List.getElem?_eq_none (by rw [List.length_set, zws_len]; omega), List.getElem?_eq_none (by rw [zws_len, List.length_set]; omega)]
  · rw [List.getElem?_set_ne (Ne.symm hi)]
    unfold zws
    rw [List.getElem?_map, List.getElem?_map, List.getElem?_zipIdx, List.getElem?_zipIdx, List.getElem?_set_ne (Ne.symm hi)]
theorem zws_app {B : Nat} {es : List va_E} {e : va_E} : zws B es ++ [(B + es.length, e)] = zws B (es ++ [e]) := by
  simp [zws, List.zipIdx_append]
/-! the static arrays -/
def zpairs (j : Nat) : Int := match j with | 0 => 0 | 1 => 1 | 2 => 6 | _ => 20
def zrows (j : Nat) : Int := match j with
  | 0 => -6148914691236517206 | 1 => -3689348814741910324 | 2 => -1085102592571150096
  | 3 => -71777214294589696 | 4 => -281470681808896 | _ => -4294967296
def Iv (a : Int) : Value := .int (Int32.ofInt a)
def Lv (a : Int) : Value := .long (Int64.ofInt a)
def Rv (G : zG) (k : Int) : Value := .ref (zB G + k.toNat)
def zSt (G : zG) (U : State) (H : Heap) : Prop :=
  (va_Z "CallStages$CrossedNet" "PAIRS" "[I" (.ref (zsP G)) (zA G) U H ∧ va_T .int (zsP G) 4 (fun j => Iv (zpairs j)) (zA G) U H) ∧
  (va_Z "CallStages$Comparers" "ROWS_IN_WORD" "[J" (.ref (zsR G)) (zA G) U H ∧ va_T .long (zsR G) 6 (fun j => Lv (zrows j)) (zA G) U H) ∧
  (va_X (zsb G) (zsL G) (zsx G) U H ∧ zsb G < zB G ∧ zsb G < H.size)
theorem zSt.moved {G : zG} {u U : State} {H : Heap} (hvm : u.vm.Alike U.vm) (h : zSt G u H) : zSt G U H := ⟨⟨h.1.1.moved hvm, h.1.2.moved hvm⟩, ⟨h.2.1.1.moved hvm, h.2.1.2.moved hvm⟩, ⟨h.2.2.1.moved hvm, h.2.2.2⟩⟩
theorem zSt.kept {G : zG} {U : State} {H H1 : Heap} (h : zSt G U H) (hz : H.size ≤ H1.size) (hq : ∀ a : Nat, a < H.size → ¬ zA G a → H1[a]? = H[a]?) : zSt G U H1 := ⟨⟨h.1.1.kept hq, h.1.2.kept hq⟩, ⟨h.2.1.1.kept hq, h.2.1.2.kept hq⟩, ⟨h.2.2.1.kept (hq _ h.2.2.2.2 (Nat.not_le.mpr h.2.2.2.1)), h.2.2.2.1, Nat.lt_of_lt_of_le h.2.2.2.2 hz⟩⟩
/-! locals by their place -/
def zLo (ls : Array Slot) (nL : Nat) (lv : List (Option Value)) : Prop := ls.size = nL ∧ lv_wf ls ∧ ∀ (i : Nat) (v : Value), lv[i]? = some (some v) → ls[i]? = some (.val v)
def zas (lv : List (Option Value)) : List (Nat × Value) := lv.zipIdx.filterMap (fun p => p.1.map (fun v => (p.2, v)))
theorem zas_mem {lv : List (Option Value)} {i : Nat} {v : Value} : (i, v) ∈ zas lv ↔ lv[i]? = some (some v) := by
  unfold zas
  rw [List.mem_filterMap]
  constructor
  · rintro ⟨⟨a, j⟩, h1, h2⟩
    have h3 := List.mem_zipIdx' h1
    cases a with
    | none => simp at h2
    | some x =>
      simp at h2
      obtain ⟨rfl, rfl⟩ := h2
      rw [List.getElem?_eq_some_iff]
      exact ⟨h3.1, h3.2.symm⟩
  · intro h
    refine ⟨(some v, i), ?_, by simp⟩
    rw [List.mem_zipIdx_iff_getElem?]
    simpa using h
theorem zLo.has {ls : Array Slot} {nL : Nat} {lv : List (Option Value)} (h : zLo ls nL lv) : lv_has ls nL (zas lv) := ⟨h.1, h.2.1, fun q hq => h.2.2 q.1 q.2 (zas_mem.mp hq)⟩
/-- no long stands just ahead of place i -/
def zah (lv : List (Option Value)) (i : Nat) : Bool := match i with
  | 0 => true
  | j + 1 => match lv[j]? with
    | some (some v) => v.category != 2
    | _ => true
theorem zLo.set1 {ls ls' : Array Slot} {nL i : Nat} {lv : List (Option Value)} {v : Value} (hz : zah lv i = true) (h : lv_has ls' nL ((i, v) :: (zas lv).filter (fun q => !(q.1 == i) && !(q.1 + 1 == i && q.2.category == 2)))) : zLo ls' nL (lv.set i (some v)) := by
  refine ⟨h.1, h.2.1, fun j x hj => ?_⟩
  by_cases e : j = i
  · subst e
    have hl : j < lv.length := by
      rcases Nat.lt_or_ge j lv.length with q | q
      · exact q
      · rw [List.getElem?_eq_none (by rw [List.length_set]; exact q)] at hj; cases hj
    rw [List.getElem?_set_self hl] at hj
    simp at hj
    subst hj
    exact h.2.2 (j, v) List.mem_cons_self
  · rw [List.getElem?_set_ne (Ne.symm e)] at hj
    refine h.2.2 (j, x) (List.mem_cons_of_mem _ (List.mem_filter.mpr ⟨zas_mem.mpr hj, ?_⟩))
    by_cases e1 : j + 1 = i
    · subst e1
      simp only [zah, hj] at hz
      simp at hz
      simp [hz]
    · simp [e, e1]
theorem zLo.set2 {ls ls' : Array Slot} {nL i : Nat} {lv : List (Option Value)} {v : Value} (hz : zah lv i = true) (h : lv_has ls' nL ((i, v) :: (zas lv).filter (fun q => !(q.1 == i) && (!(q.1 == i + 1) && !(q.1 + 1 == i && q.2.category == 2))))) : zLo ls' nL ((lv.set i (some v)).set (i + 1) none) := by
  refine ⟨h.1, h.2.1, fun j x hj => ?_⟩
  by_cases e2 : j = i + 1
  · subst e2
    rcases Nat.lt_or_ge (i + 1) (lv.set i (some v)).length with q | q
    · rw [List.getElem?_set_self q] at hj; cases hj
    · rw [List.getElem?_eq_none (by rw [List.length_set]; exact q)] at hj; cases hj
  rw [List.getElem?_set_ne (Ne.symm e2)] at hj
  by_cases e : j = i
  · subst e
    have hl : j < lv.length := by
      rcases Nat.lt_or_ge j lv.length with q | q
      · exact q
      · rw [List.getElem?_eq_none (by rw [List.length_set]; exact q)] at hj; cases hj
    rw [List.getElem?_set_self hl] at hj
    simp at hj
    subst hj
    exact h.2.2 (j, v) List.mem_cons_self
  · rw [List.getElem?_set_ne (Ne.symm e)] at hj
    refine h.2.2 (j, x) (List.mem_cons_of_mem _ (List.mem_filter.mpr ⟨zas_mem.mpr hj, ?_⟩))
    by_cases e1 : j + 1 = i
    · subst e1
      simp only [zah, hj] at hz
      simp at hz
      simp [hz, e2]
    · simp [e, e1, e2]
/-! the judgement -/
def zAt (G : zG) (own nm : String) (cc : ByteArray) (nL : Nat) (ret : Option FieldType) (p : Program) (s : State) (m : MethodId) (meth : Method) (c : Code) : Prop :=
  p.tables.exec = Jvm.exec ∧ c.code = cc ∧ meth.sig.returnType = ret ∧ c.maxLocals = nL ∧ s.vm.findClass own = some m.cls ∧ (∀ w ∈ zT, va_Nw w s) ∧ va_K (zD G) vwCl (zty G) s ∧ zSt G s s.heap ∧ meth.locks = false ∧ meth.name = nm ∧ zB G ≤ s.heap.size ∧ zAr s
def zHp (G : zG) (es : List va_E) (s : State) (H : Heap) (locs : List Loc) : Prop := H.size = zB G + es.length ∧ va_P (zD G) vwCl (zws (zB G) es) H ∧ va_S (zA G) s.heap H locs
abbrev zPhi : Type := List Frame → Array Value → State → State → Prop
def Z (G : zG) (R : Room) (own nm : String) (cc : ByteArray) (nL : Nat) (ret : Option FieldType) (Φ : zPhi) (kc ks pc : Nat) (lv : List (Option Value)) (st : List Value) (es : List va_E) : Prop :=
  ∀ (p : Program) (e : Env) (s : State) (m : MethodId) (args : Array Value) (below : List Frame) (meth : Method) (c : Code) (H : Heap) (locs : List Loc) (ls : Array Slot),
    zAt G own nm cc nL ret p s m meth c → zHp G es s H locs → zLo ls nL lv → W p (zl G) e R s m args below meth c H locs kc ks (Φ below args s) (F0 m pc ls st)
def wr (a : Int) : Int := (Int32.ofInt a).toInt
def wl (a : Int) : Int := (Int64.ofInt a).toInt
theorem wr_of {a : Int} (h1 : -2147483648 ≤ a) (h2 : a < 2147483648) : wr a = a := Int32.toInt_ofInt_of_le (by omega) (by omega)
theorem wl_of {a : Int} (h1 : -9223372036854775808 ≤ a) (h2 : a < 9223372036854775808) : wl a = a := Int64.toInt_ofInt_of_le (by omega) (by omega)
theorem wr_lo (a : Int) : -2147483648 ≤ wr a := Int32.le_toInt _
theorem wr_hi (a : Int) : wr a < 2147483648 := Int32.toInt_lt _
theorem wl_lo (a : Int) : -9223372036854775808 ≤ wl a := Int64.le_toInt _
theorem wl_hi (a : Int) : wl a < 9223372036854775808 := Int64.toInt_lt _
theorem Iv_wr (a : Int) : Iv (wr a) = Iv a := by unfold Iv wr; rw [Int32.ofInt_toInt]
theorem Iv_of (x : Int32) : Value.int x = Iv x.toInt := by unfold Iv; rw [Int32.ofInt_toInt]
theorem Lv_of (x : Int64) : Value.long x = Lv x.toInt := by unfold Lv; rw [Int64.ofInt_toInt]
def zand (a b : Int) : Int := (Int32.ofInt a &&& Int32.ofInt b).toInt
def zor (a b : Int) : Int := (Int32.ofInt a ||| Int32.ofInt b).toInt
def zxor (a b : Int) : Int := (Int32.ofInt a ^^^ Int32.ofInt b).toInt
def zshl (a b : Int) : Int := (Int32.ofInt a <<< (Int32.ofInt b &&& 31)).toInt
def zshr (a b : Int) : Int := (Int32.ofInt a >>> (Int32.ofInt b &&& 31)).toInt
def zdiv (a b : Int) : Int := (Int32.ofInt a / Int32.ofInt b).toInt
def zrem (a b : Int) : Int := (Int32.ofInt a - Int32.ofInt a / Int32.ofInt b * Int32.ofInt b).toInt
def zi2b (a : Int) : Int := (Int32.ofInt a).toInt8.toInt32.toInt
def zi2s (a : Int) : Int := (Int32.ofInt a).toInt16.toInt32.toInt
def zl2i (a : Int) : Int := (Int64.ofInt a).toInt32.toInt
def zland (a b : Int) : Int := (Int64.ofInt a &&& Int64.ofInt b).toInt
def zlor (a b : Int) : Int := (Int64.ofInt a ||| Int64.ofInt b).toInt
def zlxor (a b : Int) : Int := (Int64.ofInt a ^^^ Int64.ofInt b).toInt
def zlshl (a b : Int) : Int := (Int64.ofInt a <<< ((Int32.ofInt b).toInt64 &&& 63)).toInt
def zlushr (a b : Int) : Int := ((Int64.ofInt a).toUInt64 >>> ((Int32.ofInt b).toInt64.toUInt64 &&& Int64.toUInt64 63)).toInt64.toInt
def zldiv (a b : Int) : Int := (Int64.ofInt a / Int64.ofInt b).toInt
def zlrem (a b : Int) : Int := (Int64.ofInt a - Int64.ofInt a / Int64.ofInt b * Int64.ofInt b).toInt
def zlcmp (a b : Int) : Int := (lg_cmp (Int64.ofInt a) (Int64.ofInt b)).toInt
theorem wl_i2l (a : Int) : (Int32.ofInt a).toInt64 = Int64.ofInt (wr a) := by
  apply Int64.toInt.inj
  rw [Int32.toInt_toInt64]
  have h := wl_of (a := wr a) (by have := wr_lo a; omega) (by have := wr_hi a; omega)
  unfold wl at h
  rw [h]; rfl
section ZR
variable {G : zG} {R : Room} {own nm : String} {cc : ByteArray} {nL : Nat} {ret : Option FieldType} {Φ : zPhi} {kc ks pc : Nat} {lv : List (Option Value)} {st : List Value} {es : List va_E}
theorem Z.weak {lv' : List (Option Value)} (h : ∀ (i : Nat) (v : Value), lv'[i]? = some (some v) → lv[i]? = some (some v)) (k : Z G R own nm cc nL ret Φ kc ks pc lv' st es) : Z G R own nm cc nL ret Φ kc ks pc lv st es :=
  fun p e s m args below meth c H locs ls hA hH hL => k p e s m args below meth c H locs ls hA hH ⟨hL.1, hL.2.1, fun i v hv => hL.2.2 i v (h i v hv)⟩

theorem Z_iconst {n : Int} (hd : decode cc pc = .ok (.iconst n, 1)) (k : Z G R own nm cc nL ret Φ kc ks (pc + 1) lv (Iv n :: st) es) : Z G R own nm cc nL ret Φ kc ks pc lv (st) es := by
  intro p e s m args below meth c H locs ls hA hH hL
  obtain ⟨hx, hb, hr, hml, hown, hw, hK, hS, hlk, hnm, hB, hAr⟩ := id hA
  exact lv_iconst hx hb hd rfl (k p e s m args below meth c H locs ls hA hH hL)
theorem Z_bipush {n : Int} (hd : decode cc pc = .ok (.bipush n, 2)) (hn : (Int8.ofInt n).toInt32 = Int32.ofInt n) (k : Z G R own nm cc nL ret Φ kc ks (pc + 2) lv (Iv n :: st) es) : Z G R own nm cc nL ret Φ kc ks pc lv (st) es := by
  intro p e s m args below meth c H locs ls hA hH hL
  obtain ⟨hx, hb, hr, hml, hown, hw, hK, hS, hlk, hnm, hB, hAr⟩ := id hA
  exact lv_bipush hx hb hd hn (k p e s m args below meth c H locs ls hA hH hL)
theorem Z_sipush {n : Int} (hd : decode cc pc = .ok (.sipush n, 3)) (hn : (Int16.ofInt n).toInt32 = Int32.ofInt n) (k : Z G R own nm cc nL ret Φ kc ks (pc + 3) lv (Iv n :: st) es) : Z G R own nm cc nL ret Φ kc ks pc lv (st) es := by
  intro p e s m args below meth c H locs ls hA hH hL
  obtain ⟨hx, hb, hr, hml, hown, hw, hK, hS, hlk, hnm, hB, hAr⟩ := id hA
  exact lv_sipush hx hb hd hn (k p e s m args below meth c H locs ls hA hH hL)
theorem Z_lconst {n : Fin 2} {a : Int} (hd : decode cc pc = .ok (.lconst n, 1)) (ha : Int64.ofNat (n : Nat) = Int64.ofInt a) (k : Z G R own nm cc nL ret Φ kc ks (pc + 1) lv (Lv a :: st) es) : Z G R own nm cc nL ret Φ kc ks pc lv (st) es := by
  intro p e s m args below meth c H locs ls hA hH hL
  obtain ⟨hx, hb, hr, hml, hown, hw, hK, hS, hlk, hnm, hB, hAr⟩ := id hA
  exact lv_lconst hx hb hd ha (k p e s m args below meth c H locs ls hA hH hL)
theorem Z_ldc2 {i : Nat} {v : Int64} {a : Int} (hd : decode cc pc = .ok (.ldc2_w i, 3)) (hc : Cond.constantLong own i v ∈ zT) (ha : v = Int64.ofInt a) (k : Z G R own nm cc nL ret Φ kc ks (pc + 3) lv (Lv a :: st) es) : Z G R own nm cc nL ret Φ kc ks pc lv (st) es := by
  intro p e s m args below meth c H locs ls hA hH hL
  obtain ⟨hx, hb, hr, hml, hown, hw, hK, hS, hlk, hnm, hB, hAr⟩ := id hA
  subst ha
  exact lv_ldc2 hx hb hown (ztbl_use hw args _ hc) hd (k p e s m args below meth c H locs ls hA hH hL)
theorem Z_iload_n {q : Fin 4} {a : Int} (hd : decode cc pc = .ok (.iload_n q, 1)) (hv : lv[(q : Nat)]? = some (some (Iv a))) (k : Z G R own nm cc nL ret Φ kc ks (pc + 1) lv (Iv a :: st) es) : Z G R own nm cc nL ret Φ kc ks pc lv (st) es := by
  intro p e s m args below meth c H locs ls hA hH hL
  obtain ⟨hx, hb, hr, hml, hown, hw, hK, hS, hlk, hnm, hB, hAr⟩ := id hA
  exact lv_iload_n hx hb hd rfl (hL.2.2 _ _ hv) (k p e s m args below meth c H locs ls hA hH hL)
theorem Z_iload {q : Nat} {a : Int} (hd : decode cc pc = .ok (.iload q, 2)) (hv : lv[q]? = some (some (Iv a))) (k : Z G R own nm cc nL ret Φ kc ks (pc + 2) lv (Iv a :: st) es) : Z G R own nm cc nL ret Φ kc ks pc lv (st) es := by
  intro p e s m args below meth c H locs ls hA hH hL
  obtain ⟨hx, hb, hr, hml, hown, hw, hK, hS, hlk, hnm, hB, hAr⟩ := id hA
  exact lv_iload hx hb hd (hL.2.2 _ _ hv) (k p e s m args below meth c H locs ls hA hH hL)
theorem Z_lload_n {q : Fin 4} {a : Int} (hd : decode cc pc = .ok (.lload_n q, 1)) (hv : lv[(q : Nat)]? = some (some (Lv a))) (k : Z G R own nm cc nL ret Φ kc ks (pc + 1) lv (Lv a :: st) es) : Z G R own nm cc nL ret Φ kc ks pc lv (st) es := by
  intro p e s m args below meth c H locs ls hA hH hL
  obtain ⟨hx, hb, hr, hml, hown, hw, hK, hS, hlk, hnm, hB, hAr⟩ := id hA
  exact lv_lload_n hx hb hd rfl (hL.2.2 _ _ hv) (k p e s m args below meth c H locs ls hA hH hL)
theorem Z_lload {q : Nat} {a : Int} (hd : decode cc pc = .ok (.lload q, 2)) (hv : lv[q]? = some (some (Lv a))) (k : Z G R own nm cc nL ret Φ kc ks (pc + 2) lv (Lv a :: st) es) : Z G R own nm cc nL ret Φ kc ks pc lv (st) es := by
  intro p e s m args below meth c H locs ls hA hH hL
  obtain ⟨hx, hb, hr, hml, hown, hw, hK, hS, hlk, hnm, hB, hAr⟩ := id hA
  exact lv_lload hx hb hd (hL.2.2 _ _ hv) (k p e s m args below meth c H locs ls hA hH hL)
theorem Z_aload_n {q : Fin 4} {a : Int} (hd : decode cc pc = .ok (.aload_n q, 1)) (hv : lv[(q : Nat)]? = some (some (Rv G a))) (k : Z G R own nm cc nL ret Φ kc ks (pc + 1) lv (Rv G a :: st) es) : Z G R own nm cc nL ret Φ kc ks pc lv (st) es := by
  intro p e s m args below meth c H locs ls hA hH hL
  obtain ⟨hx, hb, hr, hml, hown, hw, hK, hS, hlk, hnm, hB, hAr⟩ := id hA
  exact lv_aload_n hx hb hd rfl (hL.2.2 _ _ hv) (k p e s m args below meth c H locs ls hA hH hL)
theorem Z_aload {q : Nat} {a : Int} (hd : decode cc pc = .ok (.aload q, 2)) (hv : lv[q]? = some (some (Rv G a))) (k : Z G R own nm cc nL ret Φ kc ks (pc + 2) lv (Rv G a :: st) es) : Z G R own nm cc nL ret Φ kc ks pc lv (st) es := by
  intro p e s m args below meth c H locs ls hA hH hL
  obtain ⟨hx, hb, hr, hml, hown, hw, hK, hS, hlk, hnm, hB, hAr⟩ := id hA
  exact lv_aload hx hb hd (hL.2.2 _ _ hv) (k p e s m args below meth c H locs ls hA hH hL)
theorem Z_aload_nr {q : Fin 4} {a : Nat} (hd : decode cc pc = .ok (.aload_n q, 1)) (hv : lv[(q : Nat)]? = some (some (.ref a))) (k : Z G R own nm cc nL ret Φ kc ks (pc + 1) lv (.ref a :: st) es) : Z G R own nm cc nL ret Φ kc ks pc lv (st) es := by
  intro p e s m args below meth c H locs ls hA hH hL
  obtain ⟨hx, hb, hr, hml, hown, hw, hK, hS, hlk, hnm, hB, hAr⟩ := id hA
  exact lv_aload_n hx hb hd rfl (hL.2.2 _ _ hv) (k p e s m args below meth c H locs ls hA hH hL)
theorem Z_istore_n {q : Fin 4} {a : Int} {lv2 : List (Option Value)} (hd : decode cc pc = .ok (.istore_n q, 1)) (hz : zah lv q = true) (hn : (q : Nat) < nL) (hl : lv.set (q : Nat) (some (Iv a)) = lv2) (k : Z G R own nm cc nL ret Φ kc ks (pc + 1) lv2 (st) es) : Z G R own nm cc nL ret Φ kc ks pc lv (Iv a :: st) es := by
  intro p e s m args below meth c H locs ls hA hH hL
  obtain ⟨hx, hb, hr, hml, hown, hw, hK, hS, hlk, hnm, hB, hAr⟩ := id hA
  subst hl
  exact lv_istore_n hx hb hd rfl hL.has hn rfl (fun ls2 h2 => k p e s m args below meth c H locs ls2 hA hH (zLo.set1 (ls := ls) hz h2))
theorem Z_istore {q : Nat} {a : Int} {lv2 : List (Option Value)} (hd : decode cc pc = .ok (.istore q, 2)) (hz : zah lv q = true) (hn : q < nL) (hl : lv.set q (some (Iv a)) = lv2) (k : Z G R own nm cc nL ret Φ kc ks (pc + 2) lv2 (st) es) : Z G R own nm cc nL ret Φ kc ks pc lv (Iv a :: st) es := by
  intro p e s m args below meth c H locs ls hA hH hL
  obtain ⟨hx, hb, hr, hml, hown, hw, hK, hS, hlk, hnm, hB, hAr⟩ := id hA
  subst hl
  exact lv_istore hx hb hd hL.has hn rfl (fun ls2 h2 => k p e s m args below meth c H locs ls2 hA hH (zLo.set1 (ls := ls) hz h2))
theorem Z_astore_n {q : Fin 4} {a : Int} {lv2 : List (Option Value)} (hd : decode cc pc = .ok (.astore_n q, 1)) (hz : zah lv q = true) (hn : (q : Nat) < nL) (hl : lv.set (q : Nat) (some (Rv G a)) = lv2) (k : Z G R own nm cc nL ret Φ kc ks (pc + 1) lv2 (st) es) : Z G R own nm cc nL ret Φ kc ks pc lv (Rv G a :: st) es := by
  intro p e s m args below meth c H locs ls hA hH hL
  obtain ⟨hx, hb, hr, hml, hown, hw, hK, hS, hlk, hnm, hB, hAr⟩ := id hA
  subst hl
  exact lv_astore_n hx hb hd rfl hL.has hn rfl (fun ls2 h2 => k p e s m args below meth c H locs ls2 hA hH (zLo.set1 (ls := ls) hz h2))
theorem Z_astore {q : Nat} {a : Int} {lv2 : List (Option Value)} (hd : decode cc pc = .ok (.astore q, 2)) (hz : zah lv q = true) (hn : q < nL) (hl : lv.set q (some (Rv G a)) = lv2) (k : Z G R own nm cc nL ret Φ kc ks (pc + 2) lv2 (st) es) : Z G R own nm cc nL ret Φ kc ks pc lv (Rv G a :: st) es := by
  intro p e s m args below meth c H locs ls hA hH hL
  obtain ⟨hx, hb, hr, hml, hown, hw, hK, hS, hlk, hnm, hB, hAr⟩ := id hA
  subst hl
  exact lv_astore hx hb hd hL.has hn rfl (fun ls2 h2 => k p e s m args below meth c H locs ls2 hA hH (zLo.set1 (ls := ls) hz h2))
theorem Z_lstore_n {q : Fin 4} {a : Int} {lv2 : List (Option Value)} (hd : decode cc pc = .ok (.lstore_n q, 1)) (hz : zah lv q = true) (hn : (q : Nat) + 1 < nL) (hl : (lv.set (q : Nat) (some (Lv a))).set (q + 1) none = lv2) (k : Z G R own nm cc nL ret Φ kc ks (pc + 1) lv2 (st) es) : Z G R own nm cc nL ret Φ kc ks pc lv (Lv a :: st) es := by
  intro p e s m args below meth c H locs ls hA hH hL
  obtain ⟨hx, hb, hr, hml, hown, hw, hK, hS, hlk, hnm, hB, hAr⟩ := id hA
  subst hl
  exact lv_lstore_n hx hb hd rfl hL.has hn rfl (fun ls2 h2 => k p e s m args below meth c H locs ls2 hA hH (zLo.set2 (ls := ls) hz h2))
theorem Z_lstore {q : Nat} {a : Int} {lv2 : List (Option Value)} (hd : decode cc pc = .ok (.lstore q, 2)) (hz : zah lv q = true) (hn : q + 1 < nL) (hl : (lv.set q (some (Lv a))).set (q + 1) none = lv2) (k : Z G R own nm cc nL ret Φ kc ks (pc + 2) lv2 (st) es) : Z G R own nm cc nL ret Φ kc ks pc lv (Lv a :: st) es := by
  intro p e s m args below meth c H locs ls hA hH hL
  obtain ⟨hx, hb, hr, hml, hown, hw, hK, hS, hlk, hnm, hB, hAr⟩ := id hA
  subst hl
  exact lv_lstore hx hb hd hL.has hn rfl (fun ls2 h2 => k p e s m args below meth c H locs ls2 hA hH (zLo.set2 (ls := ls) hz h2))
theorem Z_iinc {q : Nat} {n a : Int} {lv2 : List (Option Value)} (hd : decode cc pc = .ok (.iinc q n, 3)) (hv : lv[q]? = some (some (Iv a))) (hz : zah lv q = true) (hn : q < nL) (hl : lv.set q (some (Iv (a + n))) = lv2) (k : Z G R own nm cc nL ret Φ kc ks (pc + 3) lv2 st es) : Z G R own nm cc nL ret Φ kc ks pc lv st es := by
  intro p e s m args below meth c H locs ls hA hH hL
  obtain ⟨hx, hb, hr, hml, hown, hw, hK, hS, hlk, hnm, hB, hAr⟩ := id hA
  subst hl
  obtain ⟨j, hj⟩ := List.getElem?_of_mem (zas_mem.mpr hv)
  exact lv_iinc hx hb hd hL.has (k := j) hj (v := Int32.ofInt (a + n)) (by rw [Int32.ofInt_add]) hn rfl (fun ls2 h2 => k p e s m args below meth c H locs ls2 hA hH (zLo.set1 (ls := ls) hz h2))
theorem Z_iadd {a b : Int} (hd : decode cc pc = .ok (.iadd, 1)) (k : Z G R own nm cc nL ret Φ kc ks (pc + 1) lv (Iv (a + b) :: st) es) : Z G R own nm cc nL ret Φ kc ks pc lv (Iv b :: Iv a :: st) es := by
  intro p e s m args below meth c H locs ls hA hH hL
  obtain ⟨hx, hb, hr, hml, hown, hw, hK, hS, hlk, hnm, hB, hAr⟩ := id hA
  refine lv_iadd hx hb hd ?_
  have h := k p e s m args below meth c H locs ls hA hH hL
  unfold Iv at h
  rw [Int32.ofInt_add] at h
  exact h
theorem Z_isub {a b : Int} (hd : decode cc pc = .ok (.isub, 1)) (k : Z G R own nm cc nL ret Φ kc ks (pc + 1) lv (Iv (a - b) :: st) es) : Z G R own nm cc nL ret Φ kc ks pc lv (Iv b :: Iv a :: st) es := by
  intro p e s m args below meth c H locs ls hA hH hL
  obtain ⟨hx, hb, hr, hml, hown, hw, hK, hS, hlk, hnm, hB, hAr⟩ := id hA
  refine lv_isub hx hb hd ?_
  have h := k p e s m args below meth c H locs ls hA hH hL
  unfold Iv at h
  rw [Int32.ofInt_sub] at h
  exact h
theorem Z_imul {a b : Int} (hd : decode cc pc = .ok (.imul, 1)) (k : Z G R own nm cc nL ret Φ kc ks (pc + 1) lv (Iv (a * b) :: st) es) : Z G R own nm cc nL ret Φ kc ks pc lv (Iv b :: Iv a :: st) es := by
  intro p e s m args below meth c H locs ls hA hH hL
  obtain ⟨hx, hb, hr, hml, hown, hw, hK, hS, hlk, hnm, hB, hAr⟩ := id hA
  refine lv_imul hx hb hd ?_
  have h := k p e s m args below meth c H locs ls hA hH hL
  unfold Iv at h
  rw [Int32.ofInt_mul] at h
  exact h
theorem Z_iand {a b : Int} (hd : decode cc pc = .ok (.iand, 1)) (k : Z G R own nm cc nL ret Φ kc ks (pc + 1) lv (Iv (zand a b) :: st) es) : Z G R own nm cc nL ret Φ kc ks pc lv (Iv b :: Iv a :: st) es := by
  intro p e s m args below meth c H locs ls hA hH hL
  obtain ⟨hx, hb, hr, hml, hown, hw, hK, hS, hlk, hnm, hB, hAr⟩ := id hA
  refine lv_iand hx hb hd ?_
  have h := k p e s m args below meth c H locs ls hA hH hL
  unfold Iv zand at h
  rw [Int32.ofInt_toInt] at h
  exact h
theorem Z_ior {a b : Int} (hd : decode cc pc = .ok (.ior, 1)) (k : Z G R own nm cc nL ret Φ kc ks (pc + 1) lv (Iv (zor a b) :: st) es) : Z G R own nm cc nL ret Φ kc ks pc lv (Iv b :: Iv a :: st) es := by
  intro p e s m args below meth c H locs ls hA hH hL
  obtain ⟨hx, hb, hr, hml, hown, hw, hK, hS, hlk, hnm, hB, hAr⟩ := id hA
  refine lv_ior hx hb hd ?_
  have h := k p e s m args below meth c H locs ls hA hH hL
  unfold Iv zor at h
  rw [Int32.ofInt_toInt] at h
  exact h
theorem Z_ixor {a b : Int} (hd : decode cc pc = .ok (.ixor, 1)) (k : Z G R own nm cc nL ret Φ kc ks (pc + 1) lv (Iv (zxor a b) :: st) es) : Z G R own nm cc nL ret Φ kc ks pc lv (Iv b :: Iv a :: st) es := by
  intro p e s m args below meth c H locs ls hA hH hL
  obtain ⟨hx, hb, hr, hml, hown, hw, hK, hS, hlk, hnm, hB, hAr⟩ := id hA
  refine lv_ixor hx hb hd ?_
  have h := k p e s m args below meth c H locs ls hA hH hL
  unfold Iv zxor at h
  rw [Int32.ofInt_toInt] at h
  exact h
theorem Z_ishl {a b : Int} (hd : decode cc pc = .ok (.ishl, 1)) (k : Z G R own nm cc nL ret Φ kc ks (pc + 1) lv (Iv (zshl a b) :: st) es) : Z G R own nm cc nL ret Φ kc ks pc lv (Iv b :: Iv a :: st) es := by
  intro p e s m args below meth c H locs ls hA hH hL
  obtain ⟨hx, hb, hr, hml, hown, hw, hK, hS, hlk, hnm, hB, hAr⟩ := id hA
  refine lv_ishl hx hb hd ?_
  have h := k p e s m args below meth c H locs ls hA hH hL
  unfold Iv zshl at h
  rw [Int32.ofInt_toInt] at h
  exact h
theorem Z_ishr {a b : Int} (hd : decode cc pc = .ok (.ishr, 1)) (k : Z G R own nm cc nL ret Φ kc ks (pc + 1) lv (Iv (zshr a b) :: st) es) : Z G R own nm cc nL ret Φ kc ks pc lv (Iv b :: Iv a :: st) es := by
  intro p e s m args below meth c H locs ls hA hH hL
  obtain ⟨hx, hb, hr, hml, hown, hw, hK, hS, hlk, hnm, hB, hAr⟩ := id hA
  refine lv_ishr hx hb hd ?_
  have h := k p e s m args below meth c H locs ls hA hH hL
  unfold Iv zshr at h
  rw [Int32.ofInt_toInt] at h
  exact h
theorem Z_idiv {a b : Int} (hd : decode cc pc = .ok (.idiv, 1)) (h0 : wr b ≠ 0) (k : Z G R own nm cc nL ret Φ kc ks (pc + 1) lv (Iv (zdiv a b) :: st) es) : Z G R own nm cc nL ret Φ kc ks pc lv (Iv b :: Iv a :: st) es := by
  intro p e s m args below meth c H locs ls hA hH hL
  obtain ⟨hx, hb, hr, hml, hown, hw, hK, hS, hlk, hnm, hB, hAr⟩ := id hA
  refine lv_idiv hx hb hd (fun q => h0 (by unfold wr; rw [q]; rfl)) ?_
  have h := k p e s m args below meth c H locs ls hA hH hL
  unfold Iv zdiv at h
  rw [Int32.ofInt_toInt] at h
  exact h
theorem Z_irem {a b : Int} (hd : decode cc pc = .ok (.irem, 1)) (h0 : wr b ≠ 0) (k : Z G R own nm cc nL ret Φ kc ks (pc + 1) lv (Iv (zrem a b) :: st) es) : Z G R own nm cc nL ret Φ kc ks pc lv (Iv b :: Iv a :: st) es := by
  intro p e s m args below meth c H locs ls hA hH hL
  obtain ⟨hx, hb, hr, hml, hown, hw, hK, hS, hlk, hnm, hB, hAr⟩ := id hA
  refine lv_irem hx hb hd (fun q => h0 (by unfold wr; rw [q]; rfl)) ?_
  have h := k p e s m args below meth c H locs ls hA hH hL
  unfold Iv zrem at h
  rw [Int32.ofInt_toInt] at h
  exact h
theorem Z_ladd {a b : Int} (hd : decode cc pc = .ok (.ladd, 1)) (k : Z G R own nm cc nL ret Φ kc ks (pc + 1) lv (Lv (a + b) :: st) es) : Z G R own nm cc nL ret Φ kc ks pc lv (Lv b :: Lv a :: st) es := by
  intro p e s m args below meth c H locs ls hA hH hL
  obtain ⟨hx, hb, hr, hml, hown, hw, hK, hS, hlk, hnm, hB, hAr⟩ := id hA
  refine lv_ladd hx hb hd ?_
  have h := k p e s m args below meth c H locs ls hA hH hL
  unfold Lv at h
  rw [Int64.ofInt_add] at h
  exact h
theorem Z_lsub {a b : Int} (hd : decode cc pc = .ok (.lsub, 1)) (k : Z G R own nm cc nL ret Φ kc ks (pc + 1) lv (Lv (a - b) :: st) es) : Z G R own nm cc nL ret Φ kc ks pc lv (Lv b :: Lv a :: st) es := by
  intro p e s m args below meth c H locs ls hA hH hL
  obtain ⟨hx, hb, hr, hml, hown, hw, hK, hS, hlk, hnm, hB, hAr⟩ := id hA
  refine lv_lsub hx hb hd ?_
  have h := k p e s m args below meth c H locs ls hA hH hL
  unfold Lv at h
  rw [Int64.ofInt_sub] at h
  exact h
theorem Z_lmul {a b : Int} (hd : decode cc pc = .ok (.lmul, 1)) (k : Z G R own nm cc nL ret Φ kc ks (pc + 1) lv (Lv (a * b) :: st) es) : Z G R own nm cc nL ret Φ kc ks pc lv (Lv b :: Lv a :: st) es := by
  intro p e s m args below meth c H locs ls hA hH hL
  obtain ⟨hx, hb, hr, hml, hown, hw, hK, hS, hlk, hnm, hB, hAr⟩ := id hA
  refine lv_lmul hx hb hd ?_
  have h := k p e s m args below meth c H locs ls hA hH hL
  unfold Lv at h
  rw [Int64.ofInt_mul] at h
  exact h
theorem Z_land {a b : Int} (hd : decode cc pc = .ok (.land, 1)) (k : Z G R own nm cc nL ret Φ kc ks (pc + 1) lv (Lv (zland a b) :: st) es) : Z G R own nm cc nL ret Φ kc ks pc lv (Lv b :: Lv a :: st) es := by
  intro p e s m args below meth c H locs ls hA hH hL
  obtain ⟨hx, hb, hr, hml, hown, hw, hK, hS, hlk, hnm, hB, hAr⟩ := id hA
  refine lv_land hx hb hd ?_
  have h := k p e s m args below meth c H locs ls hA hH hL
  unfold Lv zland at h
  rw [Int64.ofInt_toInt] at h
  exact h
theorem Z_lor {a b : Int} (hd : decode cc pc = .ok (.lor, 1)) (k : Z G R own nm cc nL ret Φ kc ks (pc + 1) lv (Lv (zlor a b) :: st) es) : Z G R own nm cc nL ret Φ kc ks pc lv (Lv b :: Lv a :: st) es := by
  intro p e s m args below meth c H locs ls hA hH hL
  obtain ⟨hx, hb, hr, hml, hown, hw, hK, hS, hlk, hnm, hB, hAr⟩ := id hA
  refine lv_lor hx hb hd ?_
  have h := k p e s m args below meth c H locs ls hA hH hL
  unfold Lv zlor at h
  rw [Int64.ofInt_toInt] at h
  exact h
theorem Z_lxor {a b : Int} (hd : decode cc pc = .ok (.lxor, 1)) (k : Z G R own nm cc nL ret Φ kc ks (pc + 1) lv (Lv (zlxor a b) :: st) es) : Z G R own nm cc nL ret Φ kc ks pc lv (Lv b :: Lv a :: st) es := by
  intro p e s m args below meth c H locs ls hA hH hL
  obtain ⟨hx, hb, hr, hml, hown, hw, hK, hS, hlk, hnm, hB, hAr⟩ := id hA
  refine lv_lxor hx hb hd ?_
  have h := k p e s m args below meth c H locs ls hA hH hL
  unfold Lv zlxor at h
  rw [Int64.ofInt_toInt] at h
  exact h
theorem Z_ldiv {a b : Int} (hd : decode cc pc = .ok (.ldiv, 1)) (h0 : wl b ≠ 0) (k : Z G R own nm cc nL ret Φ kc ks (pc + 1) lv (Lv (zldiv a b) :: st) es) : Z G R own nm cc nL ret Φ kc ks pc lv (Lv b :: Lv a :: st) es := by
  intro p e s m args below meth c H locs ls hA hH hL
  obtain ⟨hx, hb, hr, hml, hown, hw, hK, hS, hlk, hnm, hB, hAr⟩ := id hA
  refine lv_ldiv hx hb hd (fun q => h0 (by unfold wl; rw [q]; rfl)) ?_
  have h := k p e s m args below meth c H locs ls hA hH hL
  unfold Lv zldiv at h
  rw [Int64.ofInt_toInt] at h
  exact h
theorem Z_lrem {a b : Int} (hd : decode cc pc = .ok (.lrem, 1)) (h0 : wl b ≠ 0) (k : Z G R own nm cc nL ret Φ kc ks (pc + 1) lv (Lv (zlrem a b) :: st) es) : Z G R own nm cc nL ret Φ kc ks pc lv (Lv b :: Lv a :: st) es := by
  intro p e s m args below meth c H locs ls hA hH hL
  obtain ⟨hx, hb, hr, hml, hown, hw, hK, hS, hlk, hnm, hB, hAr⟩ := id hA
  refine lv_lrem hx hb hd (fun q => h0 (by unfold wl; rw [q]; rfl)) ?_
  have h := k p e s m args below meth c H locs ls hA hH hL
  unfold Lv zlrem at h
  rw [Int64.ofInt_toInt] at h
  exact h
theorem Z_lneg {a : Int} (hd : decode cc pc = .ok (.lneg, 1)) (k : Z G R own nm cc nL ret Φ kc ks (pc + 1) lv (Lv (-a) :: st) es) : Z G R own nm cc nL ret Φ kc ks pc lv (Lv a :: st) es := by
  intro p e s m args below meth c H locs ls hA hH hL
  obtain ⟨hx, hb, hr, hml, hown, hw, hK, hS, hlk, hnm, hB, hAr⟩ := id hA
  refine lv_lneg hx hb hd ?_
  have h := k p e s m args below meth c H locs ls hA hH hL
  unfold Lv at h
  rw [Int64.ofInt_neg] at h
  exact h
theorem Z_lshl {a b : Int} (hd : decode cc pc = .ok (.lshl, 1)) (k : Z G R own nm cc nL ret Φ kc ks (pc + 1) lv (Lv (zlshl a b) :: st) es) : Z G R own nm cc nL ret Φ kc ks pc lv (Iv b :: Lv a :: st) es := by
  intro p e s m args below meth c H locs ls hA hH hL
  obtain ⟨hx, hb, hr, hml, hown, hw, hK, hS, hlk, hnm, hB, hAr⟩ := id hA
  refine lv_lshl hx hb hd rfl ?_
  have h := k p e s m args below meth c H locs ls hA hH hL
  unfold Lv zlshl at h
  rw [Int64.ofInt_toInt] at h
  exact h
theorem Z_lushr {a b : Int} (hd : decode cc pc = .ok (.lushr, 1)) (k : Z G R own nm cc nL ret Φ kc ks (pc + 1) lv (Lv (zlushr a b) :: st) es) : Z G R own nm cc nL ret Φ kc ks pc lv (Iv b :: Lv a :: st) es := by
  intro p e s m args below meth c H locs ls hA hH hL
  obtain ⟨hx, hb, hr, hml, hown, hw, hK, hS, hlk, hnm, hB, hAr⟩ := id hA
  refine lv_lushr hx hb hd rfl ?_
  have h := k p e s m args below meth c H locs ls hA hH hL
  unfold Lv zlushr at h
  rw [Int64.ofInt_toInt] at h
  exact h
theorem Z_i2l {a : Int} (hd : decode cc pc = .ok (.i2l, 1)) (k : Z G R own nm cc nL ret Φ kc ks (pc + 1) lv (Lv (wr a) :: st) es) : Z G R own nm cc nL ret Φ kc ks pc lv (Iv a :: st) es := by
  intro p e s m args below meth c H locs ls hA hH hL
  obtain ⟨hx, hb, hr, hml, hown, hw, hK, hS, hlk, hnm, hB, hAr⟩ := id hA
  exact lv_i2l hx hb hd (wl_i2l a) (k p e s m args below meth c H locs ls hA hH hL)
theorem Z_l2i {a : Int} (hd : decode cc pc = .ok (.l2i, 1)) (k : Z G R own nm cc nL ret Φ kc ks (pc + 1) lv (Iv (zl2i a) :: st) es) : Z G R own nm cc nL ret Φ kc ks pc lv (Lv a :: st) es := by
  intro p e s m args below meth c H locs ls hA hH hL
  obtain ⟨hx, hb, hr, hml, hown, hw, hK, hS, hlk, hnm, hB, hAr⟩ := id hA
  refine lv_l2i hx hb hd rfl ?_
  have h := k p e s m args below meth c H locs ls hA hH hL
  unfold Iv zl2i at h
  rw [Int32.ofInt_toInt] at h
  exact h
theorem Z_i2b {a : Int} (hd : decode cc pc = .ok (.i2b, 1)) (k : Z G R own nm cc nL ret Φ kc ks (pc + 1) lv (Iv (zi2b a) :: st) es) : Z G R own nm cc nL ret Φ kc ks pc lv (Iv a :: st) es := by
  intro p e s m args below meth c H locs ls hA hH hL
  obtain ⟨hx, hb, hr, hml, hown, hw, hK, hS, hlk, hnm, hB, hAr⟩ := id hA
  refine lv_i2b hx hb hd rfl ?_
  have h := k p e s m args below meth c H locs ls hA hH hL
  unfold Iv zi2b at h
  rw [Int32.ofInt_toInt] at h
  exact h
theorem Z_i2s {a : Int} (hd : decode cc pc = .ok (.i2s, 1)) (k : Z G R own nm cc nL ret Φ kc ks (pc + 1) lv (Iv (zi2s a) :: st) es) : Z G R own nm cc nL ret Φ kc ks pc lv (Iv a :: st) es := by
  intro p e s m args below meth c H locs ls hA hH hL
  obtain ⟨hx, hb, hr, hml, hown, hw, hK, hS, hlk, hnm, hB, hAr⟩ := id hA
  refine lv_i2s hx hb hd rfl ?_
  have h := k p e s m args below meth c H locs ls hA hH hL
  unfold Iv zi2s at h
  rw [Int32.ofInt_toInt] at h
  exact h
theorem Z_lcmp {a b : Int} (hd : decode cc pc = .ok (.lcmp, 1)) (k : Z G R own nm cc nL ret Φ kc ks (pc + 1) lv (Iv (zlcmp a b) :: st) es) : Z G R own nm cc nL ret Φ kc ks pc lv (Lv b :: Lv a :: st) es := by
  intro p e s m args below meth c H locs ls hA hH hL
  obtain ⟨hx, hb, hr, hml, hown, hw, hK, hS, hlk, hnm, hB, hAr⟩ := id hA
  refine W.lcmp hx hb hd ?_
  have h := k p e s m args below meth c H locs ls hA hH hL
  unfold Iv zlcmp at h
  rw [Int32.ofInt_toInt] at h
  exact h
theorem Z_dup {v : Value} (hd : decode cc pc = .ok (.dup, 1)) (hv : v.category = 1) (k : Z G R own nm cc nL ret Φ kc ks (pc + 1) lv (v :: v :: st) es) : Z G R own nm cc nL ret Φ kc ks pc lv (v :: st) es := by
  intro p e s m args below meth c H locs ls hA hH hL
  obtain ⟨hx, hb, hr, hml, hown, hw, hK, hS, hlk, hnm, hB, hAr⟩ := id hA
  exact lv_dup hx hb hd hv (k p e s m args below meth c H locs ls hA hH hL)
theorem Z_pop {v : Value} (hd : decode cc pc = .ok (.pop, 1)) (hv : v.category = 1) (k : Z G R own nm cc nL ret Φ kc ks (pc + 1) lv (st) es) : Z G R own nm cc nL ret Φ kc ks pc lv (v :: st) es := by
  intro p e s m args below meth c H locs ls hA hH hL
  obtain ⟨hx, hb, hr, hml, hown, hw, hK, hS, hlk, hnm, hB, hAr⟩ := id hA
  exact lv_pop hx hb hd hv (k p e s m args below meth c H locs ls hA hH hL)
theorem Z_dup2 {v u : Value} (hd : decode cc pc = .ok (.dup2, 1)) (hv : v.category = 1) (hu : u.category = 1) (k : Z G R own nm cc nL ret Φ kc ks (pc + 1) lv (v :: u :: v :: u :: st) es) : Z G R own nm cc nL ret Φ kc ks pc lv (v :: u :: st) es := by
  intro p e s m args below meth c H locs ls hA hH hL
  obtain ⟨hx, hb, hr, hml, hown, hw, hK, hS, hlk, hnm, hB, hAr⟩ := id hA
  exact lv_dup2_11 hx hb hd hv hu (k p e s m args below meth c H locs ls hA hH hL)
theorem zi_eq {a b : Int} : (Int32.ofInt a = Int32.ofInt b) ↔ wr a = wr b := Int32.toInt_inj.symm
theorem zi_lt {a b : Int} : (Int32.ofInt a < Int32.ofInt b) ↔ wr a < wr b := Int32.lt_iff_toInt_lt
theorem zi_le {a b : Int} : (Int32.ofInt a ≤ Int32.ofInt b) ↔ wr a ≤ wr b := Int32.le_iff_toInt_le
theorem zi_eq0 {a : Int} : (Int32.ofInt a = 0) ↔ wr a = 0 := by rw [← Int32.toInt_inj]; exact Iff.rfl
theorem zi_lt0 {a : Int} : (Int32.ofInt a < 0) ↔ wr a < 0 := Int32.lt_iff_toInt_lt
theorem zi_le0 {a : Int} : (Int32.ofInt a ≤ 0) ↔ wr a ≤ 0 := Int32.le_iff_toInt_le
theorem zi_0lt {a : Int} : (0 < Int32.ofInt a) ↔ 0 < wr a := Int32.lt_iff_toInt_lt
theorem zi_0le {a : Int} : (0 ≤ Int32.ofInt a) ↔ 0 ≤ wr a := Int32.le_iff_toInt_le
theorem Z_icmp_eq {a b : Int} {off : Int} {tgt : Nat} (hd : decode cc pc = .ok (.if_icmp .eq off, 3)) (ht : (pc : Int) + off = (tgt : Int)) (kt : wr a = wr b → Z G R own nm cc nL ret Φ kc ks tgt lv st es) (kf : ¬ (wr a = wr b) → Z G R own nm cc nL ret Φ kc ks (pc + 3) lv st es) : Z G R own nm cc nL ret Φ kc ks pc lv (Iv b :: Iv a :: st) es := by
  intro p e s m args below meth c H locs ls hA hH hL
  obtain ⟨hx, hb, hr, hml, hown, hw, hK, hS, hlk, hnm, hB, hAr⟩ := id hA
  exact lv_icmp_eq hx hb hd ht (fun q => kt ((zi_eq).mp q) p e s m args below meth c H locs ls hA hH hL) (fun q => kf (fun z => q ((zi_eq).mpr z)) p e s m args below meth c H locs ls hA hH hL)
theorem Z_if_eq {a : Int} {off : Int} {tgt : Nat} (hd : decode cc pc = .ok (.ifCond .eq off, 3)) (ht : (pc : Int) + off = (tgt : Int)) (kt : wr a = 0 → Z G R own nm cc nL ret Φ kc ks tgt lv st es) (kf : ¬ (wr a = 0) → Z G R own nm cc nL ret Φ kc ks (pc + 3) lv st es) : Z G R own nm cc nL ret Φ kc ks pc lv (Iv a :: st) es := by
  intro p e s m args below meth c H locs ls hA hH hL
  obtain ⟨hx, hb, hr, hml, hown, hw, hK, hS, hlk, hnm, hB, hAr⟩ := id hA
  exact lv_if_eq hx hb hd ht (fun q => kt ((zi_eq0).mp q) p e s m args below meth c H locs ls hA hH hL) (fun q => kf (fun z => q ((zi_eq0).mpr z)) p e s m args below meth c H locs ls hA hH hL)
theorem Z_icmp_ne {a b : Int} {off : Int} {tgt : Nat} (hd : decode cc pc = .ok (.if_icmp .ne off, 3)) (ht : (pc : Int) + off = (tgt : Int)) (kt : ¬ wr a = wr b → Z G R own nm cc nL ret Φ kc ks tgt lv st es) (kf : wr a = wr b → Z G R own nm cc nL ret Φ kc ks (pc + 3) lv st es) : Z G R own nm cc nL ret Φ kc ks pc lv (Iv b :: Iv a :: st) es := by
  intro p e s m args below meth c H locs ls hA hH hL
  obtain ⟨hx, hb, hr, hml, hown, hw, hK, hS, hlk, hnm, hB, hAr⟩ := id hA
  exact lv_icmp_ne hx hb hd ht (fun q => kt ((not_congr zi_eq).mp q) p e s m args below meth c H locs ls hA hH hL) (fun q => kf ((zi_eq).mp q) p e s m args below meth c H locs ls hA hH hL)
theorem Z_if_ne {a : Int} {off : Int} {tgt : Nat} (hd : decode cc pc = .ok (.ifCond .ne off, 3)) (ht : (pc : Int) + off = (tgt : Int)) (kt : ¬ wr a = 0 → Z G R own nm cc nL ret Φ kc ks tgt lv st es) (kf : wr a = 0 → Z G R own nm cc nL ret Φ kc ks (pc + 3) lv st es) : Z G R own nm cc nL ret Φ kc ks pc lv (Iv a :: st) es := by
  intro p e s m args below meth c H locs ls hA hH hL
  obtain ⟨hx, hb, hr, hml, hown, hw, hK, hS, hlk, hnm, hB, hAr⟩ := id hA
  exact lv_if_ne hx hb hd ht (fun q => kt ((not_congr zi_eq0).mp q) p e s m args below meth c H locs ls hA hH hL) (fun q => kf ((zi_eq0).mp q) p e s m args below meth c H locs ls hA hH hL)
theorem Z_icmp_lt {a b : Int} {off : Int} {tgt : Nat} (hd : decode cc pc = .ok (.if_icmp .lt off, 3)) (ht : (pc : Int) + off = (tgt : Int)) (kt : wr a < wr b → Z G R own nm cc nL ret Φ kc ks tgt lv st es) (kf : ¬ (wr a < wr b) → Z G R own nm cc nL ret Φ kc ks (pc + 3) lv st es) : Z G R own nm cc nL ret Φ kc ks pc lv (Iv b :: Iv a :: st) es := by
  intro p e s m args below meth c H locs ls hA hH hL
  obtain ⟨hx, hb, hr, hml, hown, hw, hK, hS, hlk, hnm, hB, hAr⟩ := id hA
  exact lv_icmp_lt hx hb hd ht (fun q => kt ((zi_lt).mp q) p e s m args below meth c H locs ls hA hH hL) (fun q => kf (fun z => q ((zi_lt).mpr z)) p e s m args below meth c H locs ls hA hH hL)
theorem Z_if_lt {a : Int} {off : Int} {tgt : Nat} (hd : decode cc pc = .ok (.ifCond .lt off, 3)) (ht : (pc : Int) + off = (tgt : Int)) (kt : wr a < 0 → Z G R own nm cc nL ret Φ kc ks tgt lv st es) (kf : ¬ (wr a < 0) → Z G R own nm cc nL ret Φ kc ks (pc + 3) lv st es) : Z G R own nm cc nL ret Φ kc ks pc lv (Iv a :: st) es := by
  intro p e s m args below meth c H locs ls hA hH hL
  obtain ⟨hx, hb, hr, hml, hown, hw, hK, hS, hlk, hnm, hB, hAr⟩ := id hA
  exact lv_if_lt hx hb hd ht (fun q => kt ((zi_lt0).mp q) p e s m args below meth c H locs ls hA hH hL) (fun q => kf (fun z => q ((zi_lt0).mpr z)) p e s m args below meth c H locs ls hA hH hL)
theorem Z_icmp_ge {a b : Int} {off : Int} {tgt : Nat} (hd : decode cc pc = .ok (.if_icmp .ge off, 3)) (ht : (pc : Int) + off = (tgt : Int)) (kt : wr b ≤ wr a → Z G R own nm cc nL ret Φ kc ks tgt lv st es) (kf : ¬ (wr b ≤ wr a) → Z G R own nm cc nL ret Φ kc ks (pc + 3) lv st es) : Z G R own nm cc nL ret Φ kc ks pc lv (Iv b :: Iv a :: st) es := by
  intro p e s m args below meth c H locs ls hA hH hL
  obtain ⟨hx, hb, hr, hml, hown, hw, hK, hS, hlk, hnm, hB, hAr⟩ := id hA
  exact lv_icmp_ge hx hb hd ht (fun q => kt ((zi_le).mp q) p e s m args below meth c H locs ls hA hH hL) (fun q => kf (fun z => q ((zi_le).mpr z)) p e s m args below meth c H locs ls hA hH hL)
theorem Z_if_ge {a : Int} {off : Int} {tgt : Nat} (hd : decode cc pc = .ok (.ifCond .ge off, 3)) (ht : (pc : Int) + off = (tgt : Int)) (kt : 0 ≤ wr a → Z G R own nm cc nL ret Φ kc ks tgt lv st es) (kf : ¬ (0 ≤ wr a) → Z G R own nm cc nL ret Φ kc ks (pc + 3) lv st es) : Z G R own nm cc nL ret Φ kc ks pc lv (Iv a :: st) es := by
  intro p e s m args below meth c H locs ls hA hH hL
  obtain ⟨hx, hb, hr, hml, hown, hw, hK, hS, hlk, hnm, hB, hAr⟩ := id hA
  exact lv_if_ge hx hb hd ht (fun q => kt ((zi_0le).mp q) p e s m args below meth c H locs ls hA hH hL) (fun q => kf (fun z => q ((zi_0le).mpr z)) p e s m args below meth c H locs ls hA hH hL)
theorem Z_icmp_gt {a b : Int} {off : Int} {tgt : Nat} (hd : decode cc pc = .ok (.if_icmp .gt off, 3)) (ht : (pc : Int) + off = (tgt : Int)) (kt : wr b < wr a → Z G R own nm cc nL ret Φ kc ks tgt lv st es) (kf : ¬ (wr b < wr a) → Z G R own nm cc nL ret Φ kc ks (pc + 3) lv st es) : Z G R own nm cc nL ret Φ kc ks pc lv (Iv b :: Iv a :: st) es := by
  intro p e s m args below meth c H locs ls hA hH hL
  obtain ⟨hx, hb, hr, hml, hown, hw, hK, hS, hlk, hnm, hB, hAr⟩ := id hA
  exact lv_icmp_gt hx hb hd ht (fun q => kt ((zi_lt).mp q) p e s m args below meth c H locs ls hA hH hL) (fun q => kf (fun z => q ((zi_lt).mpr z)) p e s m args below meth c H locs ls hA hH hL)
theorem Z_if_gt {a : Int} {off : Int} {tgt : Nat} (hd : decode cc pc = .ok (.ifCond .gt off, 3)) (ht : (pc : Int) + off = (tgt : Int)) (kt : 0 < wr a → Z G R own nm cc nL ret Φ kc ks tgt lv st es) (kf : ¬ (0 < wr a) → Z G R own nm cc nL ret Φ kc ks (pc + 3) lv st es) : Z G R own nm cc nL ret Φ kc ks pc lv (Iv a :: st) es := by
  intro p e s m args below meth c H locs ls hA hH hL
  obtain ⟨hx, hb, hr, hml, hown, hw, hK, hS, hlk, hnm, hB, hAr⟩ := id hA
  exact lv_if_gt hx hb hd ht (fun q => kt ((zi_0lt).mp q) p e s m args below meth c H locs ls hA hH hL) (fun q => kf (fun z => q ((zi_0lt).mpr z)) p e s m args below meth c H locs ls hA hH hL)
theorem Z_icmp_le {a b : Int} {off : Int} {tgt : Nat} (hd : decode cc pc = .ok (.if_icmp .le off, 3)) (ht : (pc : Int) + off = (tgt : Int)) (kt : wr a ≤ wr b → Z G R own nm cc nL ret Φ kc ks tgt lv st es) (kf : ¬ (wr a ≤ wr b) → Z G R own nm cc nL ret Φ kc ks (pc + 3) lv st es) : Z G R own nm cc nL ret Φ kc ks pc lv (Iv b :: Iv a :: st) es := by
  intro p e s m args below meth c H locs ls hA hH hL
  obtain ⟨hx, hb, hr, hml, hown, hw, hK, hS, hlk, hnm, hB, hAr⟩ := id hA
  exact lv_icmp_le hx hb hd ht (fun q => kt ((zi_le).mp q) p e s m args below meth c H locs ls hA hH hL) (fun q => kf (fun z => q ((zi_le).mpr z)) p e s m args below meth c H locs ls hA hH hL)
theorem Z_if_le {a : Int} {off : Int} {tgt : Nat} (hd : decode cc pc = .ok (.ifCond .le off, 3)) (ht : (pc : Int) + off = (tgt : Int)) (kt : wr a ≤ 0 → Z G R own nm cc nL ret Φ kc ks tgt lv st es) (kf : ¬ (wr a ≤ 0) → Z G R own nm cc nL ret Φ kc ks (pc + 3) lv st es) : Z G R own nm cc nL ret Φ kc ks pc lv (Iv a :: st) es := by
  intro p e s m args below meth c H locs ls hA hH hL
  obtain ⟨hx, hb, hr, hml, hown, hw, hK, hS, hlk, hnm, hB, hAr⟩ := id hA
  exact lv_if_le hx hb hd ht (fun q => kt ((zi_le0).mp q) p e s m args below meth c H locs ls hA hH hL) (fun q => kf (fun z => q ((zi_le0).mpr z)) p e s m args below meth c H locs ls hA hH hL)
theorem Z_goto {off : Int} {tgt : Nat} (hd : decode cc pc = .ok (.goto off, 3)) (ht : (pc : Int) + off = (tgt : Int)) (k : Z G R own nm cc nL ret Φ kc ks tgt lv st es) : Z G R own nm cc nL ret Φ kc ks pc lv st es := by
  intro p e s m args below meth c H locs ls hA hH hL
  obtain ⟨hx, hb, hr, hml, hown, hw, hK, hS, hlk, hnm, hB, hAr⟩ := id hA
  exact lv_goto hx hb hd ht (k p e s m args below meth c H locs ls hA hH hL)
theorem Z_tableOut {a dflt lo hi : Int} {offs : Array Int} {len tgt : Nat} (hd : decode cc pc = .ok (.tableswitch dflt lo hi offs, len)) (h : wr a < lo ∨ hi < wr a) (ht : (pc : Int) + dflt = (tgt : Int)) (k : Z G R own nm cc nL ret Φ kc ks tgt lv st es) : Z G R own nm cc nL ret Φ kc ks pc lv (Iv a :: st) es := by
  intro p e s m args below meth c H locs ls hA hH hL
  obtain ⟨hx, hb, hr, hml, hown, hw, hK, hS, hlk, hnm, hB, hAr⟩ := id hA
  exact lv_tableOut hx hb hd h ht (k p e s m args below meth c H locs ls hA hH hL)
theorem Z_tableIn {a dflt lo hi off : Int} {offs : Array Int} {len tgt : Nat} (v : Int) (hd : decode cc pc = .ok (.tableswitch dflt lo hi offs, len)) (hv : wr a = v) (h1 : ¬ v < lo) (h2 : ¬ hi < v) (ho : offs[(v - lo).toNat]? = some off) (ht : (pc : Int) + off = (tgt : Int)) (k : Z G R own nm cc nL ret Φ kc ks tgt lv st es) : Z G R own nm cc nL ret Φ kc ks pc lv (Iv a :: st) es := by
  intro p e s m args below meth c H locs ls hA hH hL
  obtain ⟨hx, hb, hr, hml, hown, hw, hK, hS, hlk, hnm, hB, hAr⟩ := id hA
  subst hv
  exact lv_tableIn hx hb hd h1 h2 ho ht (k p e s m args below meth c H locs ls hA hH hL)
theorem Z_lookup {a dflt off : Int} {ps : Array (Int × Int)} {len tgt : Nat} (hd : decode cc pc = .ok (.lookupswitch dflt ps, len)) (hp : (ps.toList.zip (ps.toList.drop 1)).all (fun (a, next) => a.1 < next.1) = true) (ho : Op.lookupswitch.offset ps.toList dflt (wr a) = off) (ht : (pc : Int) + off = (tgt : Int)) (k : Z G R own nm cc nL ret Φ kc ks tgt lv st es) : Z G R own nm cc nL ret Φ kc ks pc lv (Iv a :: st) es := by
  intro p e s m args below meth c H locs ls hA hH hL
  obtain ⟨hx, hb, hr, hml, hown, hw, hK, hS, hlk, hnm, hB, hAr⟩ := id hA
  exact lv_lookup hx hb hd hp ho ht (k p e s m args below meth c H locs ls hA hH hL)
end ZR
end
section
/-! the cells: kind (0 ints, 1 longs, 2 booleans, 3 rows of ints, 4 rows of longs, 5 an object) and length (of an object: its class) -/
def zsh : List (Nat × Nat) := [(5, 7), (5, 6), (0, 20), (0, 20), (0, 20), (0, 20), (3, 5), (0, 7), (0, 7), (0, 7), (0, 7), (0, 7), (3, 5), (0, 7), (0, 7), (0, 7), (0, 7), (0, 7), (0, 20), (5, 1), (0, 8), (3, 4), (0, 8), (0, 8), (0, 8), (0, 8), (5, 2), (0, 8), (0, 8), (0, 8), (5, 0), (0, 30), (0, 30), (0, 30), (2, 30), (0, 8), (4, 8), (1, 4), (1, 4), (1, 4), (1, 4), (1, 4), (1, 4), (1, 4), (1, 4), (5, 3), (3, 5), (0, 5), (0, 5), (0, 5), (0, 5), (0, 5), (3, 5), (0, 5), (0, 5), (0, 5), (0, 5), (0, 5), (0, 5), (0, 5), (3, 36), (0, 5), (0, 5), (0, 5), (0, 5), (0, 5), (0, 5), (0, 5), (0, 5), (0, 5), (0, 5), (0, 5), (0, 5), (0, 5), (0, 5), (0, 5), (0, 5), (0, 5), (0, 5), (0, 5), (0, 5), (0, 5), (0, 5), (0, 5), (0, 5), (0, 5), (0, 5), (0, 5), (0, 5), (0, 5), (0, 5), (0, 5), (0, 5), (0, 5), (0, 5), (0, 5), (0, 5), (0, 36), (0, 6), (5, 4), (3, 5), (0, 5), (0, 5), (0, 5), (0, 5), (0, 5), (0, 5), (0, 5), (0, 5), (0, 5), (0, 5), (3, 6), (0, 32), (0, 32), (0, 32), (0, 32), (0, 32), (0, 32), (5, 5), (0, 4), (0, 4), (3, 4), (0, 60), (0, 60), (0, 60), (0, 60), (0, 8), (5, 8), (0, 20), (0, 20), (0, 20), (0, 20), (0, 20), (0, 8), (0, 8), (0, 8), (0, 8), (0, 4), (0, 4), (0, 240), (0, 8), (0, 30), (0, 30), (0, 8), (0, 8), (0, 25), (0, 25), (0, 25), (0, 5), (0, 5), (0, 5), (0, 5), (0, 5), (0, 5)]
def zft (n ci : Nat) : List Int := match ci with
  | 0 => [-1, -1, -1, -1, 31, 32, 33, 34, 35, 36]
  | 1 => [-1, 20, 21]
  | 2 => [19, 27, 28, 29]
  | 3 => [-1, -1, -1, -1, 46, 52, 58, 59, 60, 97, 98]
  | 4 => [-1, 100, 106, 107, 108, 109, 110, 111]
  | 5 => [119, 120, 121]
  | 6 => [-1, -1, -1, -1, 2, 3, 4, 5, 6, 12, 18, -1, -1]
  | 7 => [if 19 < n then 1 else -3, if 26 < n then 19 else -3, if 30 < n then 26 else -3, if 45 < n then 30 else -3, if 99 < n then 45 else -3, if 118 < n then 99 else -3, if 126 < n then 118 else -3, if 127 < n then 126 else -3, -1]
  | 8 => [-1, -1, -1, -1, -1, 128, 129, 130, -1, -1, 131, 132, -1, 133, 134, 135, 136, -1, -2, -2, 137, 138, 139, 140, -1, -1, 141, 142, 143, 144, -1, 145, 146, 147, 148, 149, 150, 151, -1, 152, 153]
  | _ => []
def zk (a : Int) : Nat := (zsh.getD a.toNat (9, 0)).1
def zn (a : Int) : Nat := (zsh.getD a.toNat (9, 0)).2
abbrev zM : Type := Int → Int → Int
def zu (μ : zM) (a i v : Int) : zM := fun a' i' => if a' = a ∧ i' = i then v else μ a' i'
theorem zu_same (μ : zM) (a i v : Int) : zu μ a i v a i = v := by simp [zu]
theorem zu_ne {μ : zM} {a i v a' i' : Int} (h : ¬ (a' = a ∧ i' = i)) : zu μ a i v a' i' = μ a' i' := by simp [zu, h]
def zfv (B : Nat) (f : Int → Int) (j : Nat) (t : Int) : Value := if t = -1 then Iv (f j) else if t = -2 then Lv (f j) else if t = -3 then .null else .ref (B + t.toNat)
def zfl (B n ci : Nat) (f : Int → Int) : List Value := (zft n ci).mapIdx (zfv B f)
def zcon (B : Nat) (C : Nat → ClassId) (n k : Nat) (f : Int → Int) : va_E :=
  if zk k = 0 then .inl (C 0, zn k, .inl (fun j => Int32.ofInt (f j)))
  else if zk k = 1 then .inl (C 1, zn k, .inr (.inl (fun j => Int64.ofInt (f j))))
  else if zk k = 2 then .inl (C 2, zn k, .inl (fun j => Int32.ofInt (f j)))
  else if zk k = 3 then .inl (C 3, zn k, .inr (.inr (.inr (.inr (fun j => if j < zn k then some (B + (k + 1 + j)) else none)))))
  else if zk k = 4 then .inl (C 4, zn k, .inr (.inr (.inr (.inr (fun j => if j < zn k then some (B + (k + 1 + j)) else none)))))
  else .inr (zn k, zfl B n (zn k) f)
def zE (G : zG) (n : Nat) (μ : zM) : List va_E := (List.range n).map (fun k => zcon (zB G) (zC G) n k (μ k))
theorem zE_len (G : zG) (n : Nat) (μ : zM) : (zE G n μ).length = n := by simp [zE]
theorem zE_get {G : zG} {n k : Nat} (μ : zM) (h : k < n) : (zE G n μ)[k]? = some (zcon (zB G) (zC G) n k (μ k)) := by
  unfold zE
  rw [List.getElem?_map, List.getElem?_range h]
  rfl
theorem zE_set {G : zG} {n k : Nat} {μ μ' : zM} {e : va_E} (h : k < n) (he : zcon (zB G) (zC G) n k (μ' k) = e) (ho : ∀ k' : Nat, k' ≠ k → μ' (k' : Int) = μ (k' : Int)) : (zE G n μ).set k e = zE G n μ' := by
  apply List.ext_getElem?
  intro i
  by_cases hi : i = k
  · subst hi
    rw [List.getElem?_set_self (by rw [zE_len]; exact h), zE_get μ' h, he]
  · rw [List.getElem?_set_ne (Ne.symm hi)]
    by_cases hl : i < n
    · rw [zE_get μ hl, zE_get μ' hl, ho i hi]
    · rw [List.getElem?_eq_none (by rw [zE_len]; omega), List.getElem?_eq_none (by rw [zE_len]; omega)]
theorem zu_cell_ne {μ : zM} {a i v : Int} {k' : Nat} (h : (k' : Int) ≠ a) : zu μ a i v (k' : Int) = μ (k' : Int) := by
  funext j; simp [zu, h]
theorem zu_cell {μ : zM} {a i v : Int} : zu μ a i v a = fun j => if j = i then v else μ a j := by
  funext j; simp [zu]
theorem zfl_get {B n ci : Nat} {f : Int → Int} {j : Nat} {t : Int} (h : (zft n ci)[j]? = some t) : (zfl B n ci f)[j]? = some (zfv B f j t) := by
  unfold zfl
  rw [List.getElem?_mapIdx, h]
  rfl
theorem zfl_set {B n ci : Nat} {f : Int → Int} {j : Nat} {t v : Int} {w : Value} (h : (zft n ci)[j]? = some t) (ht : t = -1 ∧ w = Iv v ∨ t = -2 ∧ w = Lv v) : (zfl B n ci f).set j w = zfl B n ci (fun i => if i = (j : Int) then v else f i) := by
  apply List.ext_getElem?
  intro i
  have hl : j < (zfl B n ci f).length := by
    unfold zfl; rw [List.length_mapIdx]; exact (List.getElem?_eq_some_iff.mp h).1
  by_cases hi : i = j
  · subst hi
    rw [List.getElem?_set_self hl, zfl_get h]
    rcases ht with ⟨rfl, rfl⟩ | ⟨rfl, rfl⟩ <;> simp [zfv]
  · rw [List.getElem?_set_ne (Ne.symm hi)]
    unfold zfl
    rw [List.getElem?_mapIdx, List.getElem?_mapIdx]
    cases hx : (zft n ci)[i]? with
    | none => rfl
    | some t' =>
      have : ¬ ((i : Int) = (j : Int)) := by omega
      simp [zfv, this]
/-! contracts -/
def zIn (G : zG) (es : List va_E) (U : State) (H : Heap) : Prop := (∀ w ∈ zT, va_Nw w U) ∧ va_K (zD G) vwCl (zty G) U ∧ zSt G U H ∧ H.size = zB G + es.length ∧ va_P (zD G) vwCl (zws (zB G) es) H ∧ zAr U
theorem zIn.warm {G : zG} {es : List va_E} {s U : State} {H : Heap} (hW : s.WarmedH U.vm) (h : zIn G es s H) : zIn G es U H := ⟨ztbl_warm hW h.1, va_K.moved hW.alike h.2.1, h.2.2.1.moved hW.alike, h.2.2.2.1, h.2.2.2.2.1, h.2.2.2.2.2.warm hW⟩
def zQ (G : zG) (Q : Option Value → List va_E → Prop) : Array Value → State → Outcome → State → Prop := fun _ st o t => ∃ (r : Option Value) (es : List va_E), o = .returned r ∧ Q r es ∧ t.heap.size = zB G + es.length ∧ va_P (zD G) vwCl (zws (zB G) es) t.heap ∧ va_F (zA G) st t
def zrm (d mc ms : Nat) : Room := { frames := d, cells := mc, slots := ms, locals := 40 * d }
def zCt (G : zG) (d mc ms : Nat) (y : MethodName) (cc : ByteArray) (nL : Nat) (ret : Option FieldType) (args : List Value) (es : List va_E) (Q : Option Value → List va_E → Prop) : Prop :=
  Met (zl G) y [.code y cc nL ret] (zrm d mc ms) (va_Pc args (fun U => zIn G es U U.heap)) (zQ G Q) mc ms (zA G)
def zPhe (G : zG) (mc ms : Nat) (Q : Option Value → List va_E → Prop) : zPhi := fun below args s => MQ below (zQ G Q) args s mc ms (zA G)
def zent : List Value → List (Option Value)
  | [] => []
  | v :: vs => if v.category = 2 then some v :: none :: zent vs else some v :: zent vs
theorem zent_mem : ∀ (vs : List Value) (i k : Nat) (v : Value), (zent vs)[i]? = some (some v) → (k + i, v) ∈ lv_args k vs
  | [], i, k, v, h => by simp [zent] at h
  | u :: us, i, k, v, h => by
    by_cases hc : u.category = 2
    · simp only [zent, hc, if_true] at h
      simp only [lv_args, hc, if_true]
      match i, h with
      | 0, h => simp at h; subst h; exact List.mem_cons_self
      | 1, h => simp at h
      | j + 2, h =>
        have := zent_mem us j (k + 2) v (by simpa using h)
        rw [show k + (j + 2) = k + 2 + j by omega]
        exact List.mem_cons_of_mem _ this
    · simp only [zent, hc, if_false] at h
      simp only [lv_args, hc, if_false]
      match i, h with
      | 0, h => simp at h; subst h; exact List.mem_cons_self
      | j + 1, h =>
        have := zent_mem us j (k + 1) v (by simpa using h)
        rw [show k + (j + 1) = k + 1 + j by omega]
        exact List.mem_cons_of_mem _ this
theorem zCt_of {G : zG} {d mc ms : Nat} {y : MethodName} {cc : ByteArray} {nL : Nat} {ret : Option FieldType} {args : List Value} {es : List va_E} {Q : Option Value → List va_E → Prop} {lv : List (Option Value)}
    (hy : plainName y.cls = true) (hlv : zent args ++ List.replicate (nL - (zent args).length) none = lv) (hn : (lg_sl args).length ≤ nL)
    (k : Z G (zrm d mc ms) y.cls y.name cc nL ret (zPhe G mc ms Q) 0 0 0 lv [] es) : zCt G d mc ms y cc nL ret args es Q := by
  refine Met.ofW (cc := cc) (maxL := nL) (ret := ret) hy rfl ?_
  intro p e s m argsA below meth c s₁ B hml hv
  obtain ⟨rfl, hw, hK, hS, hsz, hP, hAr⟩ := hv
  have hl := lv_entry args (n := nL) hn
  rw [lg_entry_eq]
  refine k p e s m args.toArray below meth c s.heap [] _ ⟨B.exec, B.bytes, B.returns, hml, findClass_of_methodNamed B.named, hw, hK, hS, B.notSynchronized, (name_of_methodNamed B.named B.method).1, by omega, hAr⟩ ⟨hsz, hP, va_S.rf⟩ ⟨hl.1, hl.2.1, fun i v hv => ?_⟩
  subst hlv
  rcases Nat.lt_or_ge i (zent args).length with q | q
  · rw [List.getElem?_append_left q] at hv
    have := zent_mem args i 0 v hv
    rw [Nat.zero_add] at this
    exact hl.2.2 (i, v) this
  · rw [List.getElem?_append_right q] at hv
    have := List.eq_of_mem_replicate (List.mem_of_getElem? hv)
    cases this
theorem zCt.mono {G : zG} {d mc ms : Nat} {y : MethodName} {cc : ByteArray} {nL : Nat} {ret : Option FieldType} {args : List Value} {es : List va_E} {Q Q' : Option Value → List va_E → Prop} (h : zCt G d mc ms y cc nL ret args es Q) (hq : ∀ r es', Q r es' → Q' r es') : zCt G d mc ms y cc nL ret args es Q' := by
  intro p e ha hc hk s m argsA below hf happ hP hK
  obtain ⟨k, o, h1, h2, h3, ⟨r, es', e1, e2, e3⟩, h5⟩ := h p e ha hc hk s m argsA below hf happ hP hK
  exact ⟨k, o, h1, h2, h3, ⟨r, es', e1, hq r es' e2, e3⟩, h5⟩
end
section
section ZH
variable {G : zG} {R : Room} {own nm : String} {cc : ByteArray} {nL : Nat} {ret : Option FieldType} {Φ : zPhi} {kc ks pc : Nat} {lv : List (Option Value)} {st : List Value} {es : List va_E} {n : Nat} {μ : zM}
theorem zstored {s : State} {H H1 : Heap} {locs : List Loc} {k x : Nat} {e0 e1 : va_E} (hH : zHp G es s H locs) (hk : es[k]? = some e0) (he : va_at (zD G) vwCl (zB G + k, e1) H1) (hz : H1.size = H.size) (oq : ∀ q : Nat, q ≠ zB G + k → H1[q]? = H[q]?) : zHp G (es.set k e1) s H1 (locs ++ [⟨zB G + k, x⟩]) :=
  ⟨by rw [hz, List.length_set]; exact hH.1, by rw [← zws_set]; exact hH.2.1.set (zws_D _ _) (zws_get hk) he oq, hH.2.2.put hz oq (show zB G ≤ zB G + k by omega)⟩
/-! classes and their fields -/
def zCls (ci : Nat) (C : String) (T : u_T) (N : Nat) (ty0 : Nat → FieldType) : Prop := vwCl[ci]? = some (C, T, N) ∧ (∀ w ∈ u_ws C T N, w ∈ zT) ∧ (∀ k, k < N → parseFieldDescriptor (T k).2.2.1 = some (ty0 k)) ∧ (∀ a, a < N → ∀ b, b < N → a ≠ b → (T a).2.1 ≠ (T b).2.1)
def zLf (own : String) (idx : Nat) (T : u_T) (j : Nat) : Prop := Cond.fieldLink own idx (T j).1 (T j).2.1 (T j).2.2.1 ∈ zT ∨ ∃ host, Cond.fieldLinkNest own idx (T j).1 (T j).2.1 (T j).2.2.1 host ∈ zT
theorem Ze_get {ci N j idx k0 : Nat} {C : String} {T : u_T} {ty0 : Nat → FieldType} {fs : List Value} {v : Value} (hc : zCls ci C T N ty0) (hl : zLf own idx T j) (hj : j < N) (he : es[k0]? = some (.inr (ci, fs))) (hv : fs[j]? = some v) (hd : decode cc pc = .ok (.getfield idx, 3))
    (k : Z G R own nm cc nL ret Φ kc ks (pc + 3) lv (v :: st) es) : Z G R own nm cc nL ret Φ kc ks pc lv (.ref (zB G + k0) :: st) es := by
  intro p e s m args below meth c H locs ls hA hH hL
  obtain ⟨hx, hb, hr, hml, hown, hw, hK, hS, hlk, hnm, hB, hAr⟩ := id hA
  have hts := ztbl_use hw args
  rcases hl with hl | ⟨host, hl⟩
  · exact va_get hx hb hts hc.2.1 hown hK hH.2.1 k0 (zws_get he) hc.1 j hj (hts _ hl) (fun x h => h) hv hd (k p e s m args below meth c H locs ls hA hH hL)
  · exact va_getN hx hb hts hc.2.1 hown hK hH.2.1 k0 (zws_get he) hc.1 j hj (hts _ hl) (fun x h => h) hv hd (k p e s m args below meth c H locs ls hA hH hL)
theorem Ze_put {ci N j idx k0 : Nat} {C : String} {T : u_T} {ty0 : Nat → FieldType} {fs : List Value} {v : Value} {ty : FieldType} (hc : zCls ci C T N ty0) (hl : Cond.fieldLink own idx (T j).1 (T j).2.1 (T j).2.2.1 ∈ zT) (hj : j < N) (hfin : (T j).2.2.2 = false) (hty : parseFieldDescriptor (T j).2.2.1 = some ty) (hn : narrow ty v = v) (hfit : fits ty v = true) (he : es[k0]? = some (.inr (ci, fs))) (hlen : j < fs.length) (hd : decode cc pc = .ok (.putfield idx, 3))
    (k : Z G R own nm cc nL ret Φ kc ks (pc + 3) lv st (es.set k0 (.inr (ci, fs.set j v)))) : Z G R own nm cc nL ret Φ kc ks pc lv (v :: .ref (zB G + k0) :: st) es := by
  intro p e s m args below meth c H locs ls hA hH hL
  obtain ⟨hx, hb, hr, hml, hown, hw, hK, hS, hlk, hnm, hB, hAr⟩ := id hA
  have hts := ztbl_use hw args
  have hap := va_apart (own := own) hts hc.2.1 ty0 hc.2.2.1 hc.2.2.2 hK hc.1
  obtain ⟨r, h1, cell, q1, q2, q3, q4⟩ := hH.2.1 k0 _ (zws_get he)
  have hr : r = (C, T, N) := Option.some.inj (h1.symm.trans hc.1)
  subst hr
  obtain ⟨hS2, hfc, kC, hkC, hkind⟩ := hK.1 ci _ hc.1
  obtain ⟨cf, kf, fi, f, hi, hsl⟩ := hS2 j hj
  have hlay := hts _ (hc.2.1 _ (u_in_lay hj))
  unfold u_lay at hlay
  rw [if_neg (by rw [hfin]; decide)] at hlay
  have hst := (u_facts hfc hkC (u_lays hts hc.2.1 hj) hi).1
  have h6 := u_store hfc hkC hkind hlay hi hty hn hfit
  refine W.putK hx hb (f := f) ⟨hown, hts _ hl, ⟨_, _, _, hi⟩, hst⟩ (by rw [q2]; exact h6) q1 q3 (by rw [hsl]; exact k2_hasslot (q4 j hj)) rfl rfl hd fun H' e1 e2 e3 => ?_
  rw [hsl] at e1 ⊢
  exact k p e s m args below meth c H' _ ls hA (zstored hH he ⟨_, hc.1, t_OB.to (V := updV (vp_V fs) j v) ⟨_, e1, q2, q3, t_set q4 hap hj v⟩ (fun j' _ => vp_updV_set hlen v j')⟩ e2 e3) hL
theorem Ze_putF {ci N j idx k0 : Nat} {C : String} {T : u_T} {ty0 : Nat → FieldType} {fs : List Value} {v : Value} {ty : FieldType} (hc : zCls ci C T N ty0) (hl : Cond.fieldLink own idx (T j).1 (T j).2.1 (T j).2.2.1 ∈ zT) (hj : j < N) (hfin : (T j).2.2.2 = true) (hin2 : nm = "<init>") (hdecl : (T j).1 = own) (hty : parseFieldDescriptor (T j).2.2.1 = some ty) (hn : narrow ty v = v) (hfit : fits ty v = true) (he : es[k0]? = some (.inr (ci, fs))) (hlen : j < fs.length) (hd : decode cc pc = .ok (.putfield idx, 3))
    (k : Z G R own nm cc nL ret Φ kc ks (pc + 3) lv st (es.set k0 (.inr (ci, fs.set j v)))) : Z G R own nm cc nL ret Φ kc ks pc lv (v :: .ref (zB G + k0) :: st) es := by
  intro p e s m args below meth c H locs ls hA hH hL
  obtain ⟨hx, hb, hr, hml, hown, hw, hK, hS, hlk, hnm, hB, hAr⟩ := id hA
  have hts := ztbl_use hw args
  have hap := va_apart (own := own) hts hc.2.1 ty0 hc.2.2.1 hc.2.2.2 hK hc.1
  obtain ⟨r, h1, cell, q1, q2, q3, q4⟩ := hH.2.1 k0 _ (zws_get he)
  have hr : r = (C, T, N) := Option.some.inj (h1.symm.trans hc.1)
  subst hr
  obtain ⟨hS2, hfc, kC, hkC, hkind⟩ := hK.1 ci _ hc.1
  obtain ⟨cf, kf, fi, f, hi, hsl⟩ := hS2 j hj
  have hlay := hts _ (hc.2.1 _ (u_in_lay hj))
  unfold u_lay at hlay
  rw [if_pos hfin] at hlay
  have hst := (u_facts hfc hkC (u_lays hts hc.2.1 hj) hi).1
  have hcf : m.cls = cf := by
    obtain ⟨_, _, c', _, _, _, -, -, hf', -, -, -, hown2, -⟩ := Cond.laysFinal_spec hlay
    have e1 : c' = cf := by have := hi.symm.trans hf'; simp at this; exact this.1.symm
    rw [hdecl] at hown2
    rw [← e1]; exact Option.some.inj (hown.symm.trans hown2)
  have h6 := u_fits hfc hkC hkind (Or.inr hlay) hi hty hn hfit
  refine W.putFinK hx hb hown (hts _ hl) hi hst hcf (hnm.trans hin2) (by rw [q2]; exact h6) q1 q3 (by rw [hsl]; exact k2_hasslot (q4 j hj)) rfl rfl hd fun H' e1 e2 e3 => ?_
  rw [hsl] at e1 ⊢
  exact k p e s m args below meth c H' _ ls hA (zstored hH he ⟨_, hc.1, t_OB.to (V := updV (vp_V fs) j v) ⟨_, e1, q2, q3, t_set q4 hap hj v⟩ (fun j' _ => vp_updV_set hlen v j')⟩ e2 e3) hL
/-! typed cells -/
theorem zE_at (μ : zM) {a : Int} (h0 : 0 ≤ a) (hn : a < n) : (zE G n μ)[a.toNat]? = some (zcon (zB G) (zC G) n a.toNat (μ a)) := by
  have h := zE_get (G := G) μ (k := a.toNat) (n := n) (by omega)
  rw [show ((a.toNat : Nat) : Int) = a by omega] at h
  exact h
theorem zcon_0 {B : Nat} {C : Nat → ClassId} {a : Int} {f : Int → Int} (h0 : 0 ≤ a) (h : zk a = 0) : zcon B C n a.toNat f = .inl (C 0, zn a, .inl (fun j => Int32.ofInt (f j))) := by
  unfold zcon; rw [show ((a.toNat : Nat) : Int) = a by omega]; simp [h]
theorem zcon_1 {B : Nat} {C : Nat → ClassId} {a : Int} {f : Int → Int} (h0 : 0 ≤ a) (h : zk a = 1) : zcon B C n a.toNat f = .inl (C 1, zn a, .inr (.inl (fun j => Int64.ofInt (f j)))) := by
  unfold zcon; rw [show ((a.toNat : Nat) : Int) = a by omega]; simp [h]
theorem zcon_2 {B : Nat} {C : Nat → ClassId} {a : Int} {f : Int → Int} (h0 : 0 ≤ a) (h : zk a = 2) : zcon B C n a.toNat f = .inl (C 2, zn a, .inl (fun j => Int32.ofInt (f j))) := by
  unfold zcon; rw [show ((a.toNat : Nat) : Int) = a by omega]; simp [h]
theorem zcon_3 {B : Nat} {C : Nat → ClassId} {a : Int} {f : Int → Int} (h0 : 0 ≤ a) (h : zk a = 3) : zcon B C n a.toNat f = .inl (C 3, zn a, .inr (.inr (.inr (.inr (fun j => if j < zn a then some (B + (a.toNat + 1 + j)) else none))))) := by
  unfold zcon; rw [show ((a.toNat : Nat) : Int) = a by omega]; simp [h]
theorem zcon_4 {B : Nat} {C : Nat → ClassId} {a : Int} {f : Int → Int} (h0 : 0 ≤ a) (h : zk a = 4) : zcon B C n a.toNat f = .inl (C 4, zn a, .inr (.inr (.inr (.inr (fun j => if j < zn a then some (B + (a.toNat + 1 + j)) else none))))) := by
  unfold zcon; rw [show ((a.toNat : Nat) : Int) = a by omega]; simp [h]
theorem zcon_5 {B : Nat} {C : Nat → ClassId} {a : Int} {f : Int → Int} (h0 : 0 ≤ a) (h : zk a = 5) : zcon B C n a.toNat f = .inr (zn a, zfl B n (zn a) f) := by
  unfold zcon; rw [show ((a.toNat : Nat) : Int) = a by omega]; simp [h]
def zin (q n : Nat) (a i : Int) : Prop := (0 ≤ a ∧ a < n ∧ zk a = q) ∧ 0 ≤ wr i ∧ wr i < zn a
theorem zin_vp {q : Nat} {a i : Int} (h : zin q n a i) : vp_in (Int32.ofInt i) (zn a) := by
  rintro (h1 | h1)
  · have := zi_lt0.mp h1
    have := h.2.1
    omega
  · have h2 : zn a ≤ (wr i).toNat := h1
    have := h.2
    omega
theorem zin_ix {q : Nat} {a i : Int} (h : zin q n a i) : (((Int32.ofInt i).toNatClampNeg : Nat) : Int) = wr i := by
  show (((wr i).toNat : Nat) : Int) = wr i
  have := h.2.1
  omega

theorem Z_iald {a i : Int} (h : zin 0 n a i) (hd : decode cc pc = .ok (.iaload, 1)) (k : Z G R own nm cc nL ret Φ kc ks (pc + 1) lv (Iv (μ a (wr i)) :: st) (zE G n μ)) : Z G R own nm cc nL ret Φ kc ks pc lv (Iv i :: Rv G a :: st) (zE G n μ) := by
  intro p e s m args below meth c H locs ls hA hH hL
  obtain ⟨hx, hb, hr, hml, hown, hw, hK, hS, hlk, hnm, hB, hAr⟩ := id hA
  have hg := zE_at (G := G) μ h.1.1 h.1.2.1
  rw [zcon_0 h.1.1 h.1.2.2] at hg
  refine va_iald hx hb hK hH.2.1 a.toNat 0 (zws_get hg) rfl (zin_vp h) hd ?_
  have h2 := k p e s m args below meth c H locs ls hA hH hL
  rw [← zin_ix h] at h2
  exact h2
theorem Z_lald {a i : Int} (h : zin 1 n a i) (hd : decode cc pc = .ok (.laload, 1)) (k : Z G R own nm cc nL ret Φ kc ks (pc + 1) lv (Lv (μ a (wr i)) :: st) (zE G n μ)) : Z G R own nm cc nL ret Φ kc ks pc lv (Iv i :: Rv G a :: st) (zE G n μ) := by
  intro p e s m args below meth c H locs ls hA hH hL
  obtain ⟨hx, hb, hr, hml, hown, hw, hK, hS, hlk, hnm, hB, hAr⟩ := id hA
  have hg := zE_at (G := G) μ h.1.1 h.1.2.1
  rw [zcon_1 h.1.1 h.1.2.2] at hg
  refine va_lald hx hb hK hH.2.1 a.toNat 1 (zws_get hg) rfl (zin_vp h) hd ?_
  have h2 := k p e s m args below meth c H locs ls hA hH hL
  rw [← zin_ix h] at h2
  exact h2
theorem Z_zald {a i : Int} (h : zin 2 n a i) (hd : decode cc pc = .ok (.baload, 1)) (k : Z G R own nm cc nL ret Φ kc ks (pc + 1) lv (Iv (μ a (wr i)) :: st) (zE G n μ)) : Z G R own nm cc nL ret Φ kc ks pc lv (Iv i :: Rv G a :: st) (zE G n μ) := by
  intro p e s m args below meth c H locs ls hA hH hL
  obtain ⟨hx, hb, hr, hml, hown, hw, hK, hS, hlk, hnm, hB, hAr⟩ := id hA
  have hg := zE_at (G := G) μ h.1.1 h.1.2.1
  rw [zcon_2 h.1.1 h.1.2.2] at hg
  refine va_zald hx hb hK hH.2.1 a.toNat 2 (zws_get hg) rfl (zin_vp h) hd ?_
  have h2 := k p e s m args below meth c H locs ls hA hH hL
  rw [← zin_ix h] at h2
  exact h2
theorem zbool {v : Int} (h : wr v = 0 ∨ wr v = 1) : narrow .boolean (.int (Int32.ofInt v)) = .int (Int32.ofInt v) := by
  rcases h with h | h
  · rw [show Int32.ofInt v = 0 from Int32.toInt_inj.mp h]; rfl
  · rw [show Int32.ofInt v = 1 from Int32.toInt_inj.mp h]; rfl
theorem Z_iast {a i v : Int} (h : zin 0 n a i) (hd : decode cc pc = .ok (.iastore, 1)) (k : Z G R own nm cc nL ret Φ kc ks (pc + 1) lv st (zE G n (zu μ a (wr i) v))) : Z G R own nm cc nL ret Φ kc ks pc lv (Iv v :: Iv i :: Rv G a :: st) (zE G n μ) := by
  intro p e s m args below meth c H locs ls hA hH hL
  obtain ⟨hx, hb, hr, hml, hown, hw, hK, hS, hlk, hnm, hB, hAr⟩ := id hA
  have hg := zE_at (G := G) μ h.1.1 h.1.2.1
  have hg2 := hg
  rw [zcon_0 h.1.1 h.1.2.2] at hg
  have hcell := hH.2.1 a.toNat _ (zws_get hg)
  have hin := zin_vp h
  refine W.iast hx hb hcell ((hK.2 0 _ rfl).1 _ _) (fun q => by cases q) (by show ¬ (_ ∨ (arrV _ _ _).slots.size ≤ _); rw [arrV_size]; exact hin) rfl rfl hd fun H1 e1 z oq => ?_
  have e2 : va_at (zD G) vwCl (zB G + a.toNat, zcon (zB G) (zC G) n a.toNat (zu μ a (wr i) v a)) H1 := by
    rw [zcon_0 h.1.1 h.1.2.2]
    show H1[_]? = some (vp_cell _ _)
    rw [e1]
    skip
    show some ((arrV (zC G 0) (zn a) (fun j : Nat => Value.int (Int32.ofInt (μ a j)))).setSlot _ _) = some (arrV (zC G 0) (zn a) (fun j : Nat => Value.int (Int32.ofInt (zu μ a (wr i) v a j))))
    rw [arrV_store]
    congr 2
    funext j
    have hix := zin_ix h
    by_cases hj : j = (Int32.ofInt i).toNatClampNeg
    · have : (j : Int) = wr i := by rw [hj]; exact hix
      simp [updV, hj, zu, hix]
    · have : ¬ ((j : Int) = wr i) := by omega
      simp [updV, hj, zu, this]
  have hst := zstored (x := (Int32.ofInt i).toNatClampNeg) hH hg2 e2 z oq
  rw [zE_set (G := G) (μ := μ) (μ' := zu μ a (wr i) v) (k := a.toNat) (by have := h.1; omega) (by rw [show ((a.toNat : Nat) : Int) = a by have := h.1; omega]) (fun k' hk' => zu_cell_ne (by have := h.1; omega))] at hst
  exact k p e s m args below meth c H1 _ ls hA hst hL
theorem Z_last {a i v : Int} (h : zin 1 n a i) (hd : decode cc pc = .ok (.lastore, 1)) (k : Z G R own nm cc nL ret Φ kc ks (pc + 1) lv st (zE G n (zu μ a (wr i) v))) : Z G R own nm cc nL ret Φ kc ks pc lv (Lv v :: Iv i :: Rv G a :: st) (zE G n μ) := by
  intro p e s m args below meth c H locs ls hA hH hL
  obtain ⟨hx, hb, hr, hml, hown, hw, hK, hS, hlk, hnm, hB, hAr⟩ := id hA
  have hg := zE_at (G := G) μ h.1.1 h.1.2.1
  have hg2 := hg
  rw [zcon_1 h.1.1 h.1.2.2] at hg
  have hcell := hH.2.1 a.toNat _ (zws_get hg)
  have hin := zin_vp h
  refine W.last hx hb hcell ((hK.2 1 _ rfl).1 _ _) (fun q => by cases q) (by show ¬ (_ ∨ (arrV _ _ _).slots.size ≤ _); rw [arrV_size]; exact hin) rfl rfl hd fun H1 e1 z oq => ?_
  have e2 : va_at (zD G) vwCl (zB G + a.toNat, zcon (zB G) (zC G) n a.toNat (zu μ a (wr i) v a)) H1 := by
    rw [zcon_1 h.1.1 h.1.2.2]
    show H1[_]? = some (vp_cell _ _)
    rw [e1]
    skip
    show some ((arrV (zC G 1) (zn a) (fun j : Nat => Value.long (Int64.ofInt (μ a j)))).setSlot _ _) = some (arrV (zC G 1) (zn a) (fun j : Nat => Value.long (Int64.ofInt (zu μ a (wr i) v a j))))
    rw [arrV_store]
    congr 2
    funext j
    have hix := zin_ix h
    by_cases hj : j = (Int32.ofInt i).toNatClampNeg
    · have : (j : Int) = wr i := by rw [hj]; exact hix
      simp [updV, hj, zu, hix]
    · have : ¬ ((j : Int) = wr i) := by omega
      simp [updV, hj, zu, this]
  have hst := zstored (x := (Int32.ofInt i).toNatClampNeg) hH hg2 e2 z oq
  rw [zE_set (G := G) (μ := μ) (μ' := zu μ a (wr i) v) (k := a.toNat) (by have := h.1; omega) (by rw [show ((a.toNat : Nat) : Int) = a by have := h.1; omega]) (fun k' hk' => zu_cell_ne (by have := h.1; omega))] at hst
  exact k p e s m args below meth c H1 _ ls hA hst hL
theorem Z_zast {a i v : Int} (h : zin 2 n a i) (hbv : wr v = 0 ∨ wr v = 1) (hd : decode cc pc = .ok (.bastore, 1)) (k : Z G R own nm cc nL ret Φ kc ks (pc + 1) lv st (zE G n (zu μ a (wr i) v))) : Z G R own nm cc nL ret Φ kc ks pc lv (Iv v :: Iv i :: Rv G a :: st) (zE G n μ) := by
  intro p e s m args below meth c H locs ls hA hH hL
  obtain ⟨hx, hb, hr, hml, hown, hw, hK, hS, hlk, hnm, hB, hAr⟩ := id hA
  have hg := zE_at (G := G) μ h.1.1 h.1.2.1
  have hg2 := hg
  rw [zcon_2 h.1.1 h.1.2.2] at hg
  have hcell := hH.2.1 a.toNat _ (zws_get hg)
  have hin := zin_vp h
  refine W.zast hx hb hcell ((hK.2 2 _ rfl).1 _ _) (fun q => by cases q) (by show ¬ (_ ∨ (arrV _ _ _).slots.size ≤ _); rw [arrV_size]; exact hin) rfl rfl hd fun H1 e1 z oq => ?_
  have e2 : va_at (zD G) vwCl (zB G + a.toNat, zcon (zB G) (zC G) n a.toNat (zu μ a (wr i) v a)) H1 := by
    rw [zcon_2 h.1.1 h.1.2.2]
    show H1[_]? = some (vp_cell _ _)
    rw [e1]
    rw [zbool hbv]
    show some ((arrV (zC G 2) (zn a) (fun j : Nat => Value.int (Int32.ofInt (μ a j)))).setSlot _ _) = some (arrV (zC G 2) (zn a) (fun j : Nat => Value.int (Int32.ofInt (zu μ a (wr i) v a j))))
    rw [arrV_store]
    congr 2
    funext j
    have hix := zin_ix h
    by_cases hj : j = (Int32.ofInt i).toNatClampNeg
    · have : (j : Int) = wr i := by rw [hj]; exact hix
      simp [updV, hj, zu, hix]
    · have : ¬ ((j : Int) = wr i) := by omega
      simp [updV, hj, zu, this]
  have hst := zstored (x := (Int32.ofInt i).toNatClampNeg) hH hg2 e2 z oq
  rw [zE_set (G := G) (μ := μ) (μ' := zu μ a (wr i) v) (k := a.toNat) (by have := h.1; omega) (by rw [show ((a.toNat : Nat) : Int) = a by have := h.1; omega]) (fun k' hk' => zu_cell_ne (by have := h.1; omega))] at hst
  exact k p e s m args below meth c H1 _ ls hA hst hL
theorem Z_aald3 {a i : Int} (h : zin 3 n a i) (hd : decode cc pc = .ok (.aaload, 1)) (k : Z G R own nm cc nL ret Φ kc ks (pc + 1) lv (Rv G (a + 1 + wr i) :: st) (zE G n μ)) : Z G R own nm cc nL ret Φ kc ks pc lv (Iv i :: Rv G a :: st) (zE G n μ) := by
  intro p e s m args below meth c H locs ls hA hH hL
  obtain ⟨hx, hb, hr, hml, hown, hw, hK, hS, hlk, hnm, hB, hAr⟩ := id hA
  have hg := zE_at (G := G) μ h.1.1 h.1.2.1
  rw [zcon_3 h.1.1 h.1.2.2] at hg
  have hcell := hH.2.1 a.toNat _ (zws_get hg)
  have hin := zin_vp h
  have hlt : (Int32.ofInt i).toNatClampNeg < zn a := Nat.not_le.mp fun q => hin (Or.inr q)
  refine W.aald (v := Rv G (a + 1 + wr i)) (ty := .array .int) hx hb hcell ((hK.2 3 _ rfl).1 _ _) rfl (fun q => by cases q) (by show ¬ (_ ∨ (arrV _ _ _).slots.size ≤ _); rw [arrV_size]; exact hin) ?_ rfl rfl hd (k p e s m args below meth c H locs ls hA hH hL)
  show (arrV _ _ _).slots[_]? = _
  rw [arrV_read _ _ hlt]
  dsimp only
  rw [if_pos hlt]
  have hix := zin_ix h
  have h0 := h.1.1
  have e3 : zB G + (a.toNat + 1 + (Int32.ofInt i).toNatClampNeg) = zB G + (a + 1 + wr i).toNat := by omega
  show some (Value.ref _) = some (Value.ref _)
  rw [e3]
theorem Z_aald4 {a i : Int} (h : zin 4 n a i) (hd : decode cc pc = .ok (.aaload, 1)) (k : Z G R own nm cc nL ret Φ kc ks (pc + 1) lv (Rv G (a + 1 + wr i) :: st) (zE G n μ)) : Z G R own nm cc nL ret Φ kc ks pc lv (Iv i :: Rv G a :: st) (zE G n μ) := by
  intro p e s m args below meth c H locs ls hA hH hL
  obtain ⟨hx, hb, hr, hml, hown, hw, hK, hS, hlk, hnm, hB, hAr⟩ := id hA
  have hg := zE_at (G := G) μ h.1.1 h.1.2.1
  rw [zcon_4 h.1.1 h.1.2.2] at hg
  have hcell := hH.2.1 a.toNat _ (zws_get hg)
  have hin := zin_vp h
  have hlt : (Int32.ofInt i).toNatClampNeg < zn a := Nat.not_le.mp fun q => hin (Or.inr q)
  refine W.aald (v := Rv G (a + 1 + wr i)) (ty := .array .long) hx hb hcell ((hK.2 4 _ rfl).1 _ _) rfl (fun q => by cases q) (by show ¬ (_ ∨ (arrV _ _ _).slots.size ≤ _); rw [arrV_size]; exact hin) ?_ rfl rfl hd (k p e s m args below meth c H locs ls hA hH hL)
  show (arrV _ _ _).slots[_]? = _
  rw [arrV_read _ _ hlt]
  dsimp only
  rw [if_pos hlt]
  have hix := zin_ix h
  have h0 := h.1.1
  have e3 : zB G + (a.toNat + 1 + (Int32.ofInt i).toNatClampNeg) = zB G + (a + 1 + wr i).toNat := by omega
  show some (Value.ref _) = some (Value.ref _)
  rw [e3]
/-! fields of the typed cells -/
theorem Z_gi {a : Int} {ci N j idx : Nat} {C : String} {T : u_T} {ty0 : Nat → FieldType} (hc : zCls ci C T N ty0) (hl : zLf own idx T j) (ha : 0 ≤ a ∧ a < n) (hk : zk a = 5) (hn : zn a = ci) (ht : (zft n ci)[j]? = some (-1)) (hj : j < N) (hd : decode cc pc = .ok (.getfield idx, 3)) (k : Z G R own nm cc nL ret Φ kc ks (pc + 3) lv (Iv (μ a j) :: st) (zE G n μ)) : Z G R own nm cc nL ret Φ kc ks pc lv (Rv G a :: st) (zE G n μ) := by
  have hg := zE_at (G := G) μ ha.1 ha.2
  rw [zcon_5 ha.1 hk, hn] at hg
  exact Ze_get hc hl hj hg (zfl_get ht) hd k
theorem Z_gl {a : Int} {ci N j idx : Nat} {C : String} {T : u_T} {ty0 : Nat → FieldType} (hc : zCls ci C T N ty0) (hl : zLf own idx T j) (ha : 0 ≤ a ∧ a < n) (hk : zk a = 5) (hn : zn a = ci) (ht : (zft n ci)[j]? = some (-2)) (hj : j < N) (hd : decode cc pc = .ok (.getfield idx, 3)) (k : Z G R own nm cc nL ret Φ kc ks (pc + 3) lv (Lv (μ a j) :: st) (zE G n μ)) : Z G R own nm cc nL ret Φ kc ks pc lv (Rv G a :: st) (zE G n μ) := by
  have hg := zE_at (G := G) μ ha.1 ha.2
  rw [zcon_5 ha.1 hk, hn] at hg
  exact Ze_get hc hl hj hg (zfl_get ht) hd k
theorem Z_gr {a t : Int} {ci N j idx : Nat} {C : String} {T : u_T} {ty0 : Nat → FieldType} (hc : zCls ci C T N ty0) (hl : zLf own idx T j) (ha : 0 ≤ a ∧ a < n) (hk : zk a = 5) (hn : zn a = ci) (ht : (zft n ci)[j]? = some t) (h0 : 0 ≤ t) (hj : j < N) (hd : decode cc pc = .ok (.getfield idx, 3)) (k : Z G R own nm cc nL ret Φ kc ks (pc + 3) lv (Rv G t :: st) (zE G n μ)) : Z G R own nm cc nL ret Φ kc ks pc lv (Rv G a :: st) (zE G n μ) := by
  have hg := zE_at (G := G) μ ha.1 ha.2
  rw [zcon_5 ha.1 hk, hn] at hg
  have hv := zfl_get (B := zB G) (f := μ a) ht
  have e : zfv (zB G) (μ a) j t = Rv G t := by
    unfold zfv Rv
    rw [if_neg (by omega), if_neg (by omega), if_neg (by omega)]
  rw [e] at hv
  exact Ze_get hc hl hj hg hv hd k
theorem zput {a v : Int} {j : Nat} (ha : 0 ≤ a ∧ a < n) (hk : zk a = 5) {t : Int} {w : Value} (ht : (zft n (zn a))[j]? = some t) (htw : t = -1 ∧ w = Iv v ∨ t = -2 ∧ w = Lv v) : (zE G n μ).set a.toNat (.inr (zn a, (zfl (zB G) n (zn a) (μ a)).set j w)) = zE G n (zu μ a j v) := by
  apply zE_set (by omega)
  · rw [show ((a.toNat : Nat) : Int) = a by omega, zcon_5 ha.1 hk, zfl_set ht htw, zu_cell]
  · intro k' hk'
    exact zu_cell_ne (by omega)
theorem Z_pi {a v : Int} {ci N j idx : Nat} {C : String} {T : u_T} {ty0 : Nat → FieldType} (hc : zCls ci C T N ty0) (hl : Cond.fieldLink own idx (T j).1 (T j).2.1 (T j).2.2.1 ∈ zT) (ha : 0 ≤ a ∧ a < n) (hk : zk a = 5) (hn : zn a = ci) (ht : (zft n ci)[j]? = some (-1)) (hj : j < N) (hfin : (T j).2.2.2 = false) (hty : parseFieldDescriptor (T j).2.2.1 = some .int) (hd : decode cc pc = .ok (.putfield idx, 3)) (k : Z G R own nm cc nL ret Φ kc ks (pc + 3) lv st (zE G n (zu μ a j v))) : Z G R own nm cc nL ret Φ kc ks pc lv (Iv v :: Rv G a :: st) (zE G n μ) := by
  subst hn
  have hg := zE_at (G := G) μ ha.1 ha.2
  rw [zcon_5 ha.1 hk] at hg
  refine Ze_put hc hl hj hfin hty rfl rfl hg (List.getElem?_eq_some_iff.mp (zfl_get ht)).1 hd ?_
  rw [zput ha hk ht (Or.inl ⟨rfl, rfl⟩)]
  exact k
theorem Z_pz {a v : Int} {ci N j idx : Nat} {C : String} {T : u_T} {ty0 : Nat → FieldType} (hc : zCls ci C T N ty0) (hl : Cond.fieldLink own idx (T j).1 (T j).2.1 (T j).2.2.1 ∈ zT) (ha : 0 ≤ a ∧ a < n) (hk : zk a = 5) (hn : zn a = ci) (ht : (zft n ci)[j]? = some (-1)) (hj : j < N) (hfin : (T j).2.2.2 = false) (hty : parseFieldDescriptor (T j).2.2.1 = some .boolean) (hbv : wr v = 0 ∨ wr v = 1) (hd : decode cc pc = .ok (.putfield idx, 3)) (k : Z G R own nm cc nL ret Φ kc ks (pc + 3) lv st (zE G n (zu μ a j v))) : Z G R own nm cc nL ret Φ kc ks pc lv (Iv v :: Rv G a :: st) (zE G n μ) := by
  subst hn
  have hg := zE_at (G := G) μ ha.1 ha.2
  rw [zcon_5 ha.1 hk] at hg
  refine Ze_put hc hl hj hfin hty (zbool hbv) ?_ hg (List.getElem?_eq_some_iff.mp (zfl_get ht)).1 hd ?_
  · rcases hbv with h | h
    · show fits .boolean (.int (Int32.ofInt v)) = true
      rw [show Int32.ofInt v = 0 from Int32.toInt_inj.mp h]; rfl
    · show fits .boolean (.int (Int32.ofInt v)) = true
      rw [show Int32.ofInt v = 1 from Int32.toInt_inj.mp h]; rfl
  rw [zput ha hk ht (Or.inl ⟨rfl, rfl⟩)]
  exact k
theorem Z_pl {a v : Int} {ci N j idx : Nat} {C : String} {T : u_T} {ty0 : Nat → FieldType} (hc : zCls ci C T N ty0) (hl : Cond.fieldLink own idx (T j).1 (T j).2.1 (T j).2.2.1 ∈ zT) (ha : 0 ≤ a ∧ a < n) (hk : zk a = 5) (hn : zn a = ci) (ht : (zft n ci)[j]? = some (-2)) (hj : j < N) (hfin : (T j).2.2.2 = false) (hty : parseFieldDescriptor (T j).2.2.1 = some .long) (hd : decode cc pc = .ok (.putfield idx, 3)) (k : Z G R own nm cc nL ret Φ kc ks (pc + 3) lv st (zE G n (zu μ a j v))) : Z G R own nm cc nL ret Φ kc ks pc lv (Lv v :: Rv G a :: st) (zE G n μ) := by
  subst hn
  have hg := zE_at (G := G) μ ha.1 ha.2
  rw [zcon_5 ha.1 hk] at hg
  refine Ze_put hc hl hj hfin hty rfl rfl hg (List.getElem?_eq_some_iff.mp (zfl_get ht)).1 hd ?_
  rw [zput ha hk ht (Or.inr ⟨rfl, rfl⟩)]
  exact k
/-! statics and the script -/
theorem Z_gsP {idx : Nat} (hl : Cond.fieldLink own idx "CallStages$CrossedNet" "PAIRS" "[I" ∈ zT ∨ ∃ host, Cond.fieldLinkNest own idx "CallStages$CrossedNet" "PAIRS" "[I" host ∈ zT) (hd : decode cc pc = .ok (.getstatic idx, 3)) (k : Z G R own nm cc nL ret Φ kc ks (pc + 3) lv (.ref (zsP G) :: st) es) : Z G R own nm cc nL ret Φ kc ks pc lv st es := by
  intro p e s m args below meth c H locs ls hA hH hL
  obtain ⟨hx, hb, hr, hml, hown, hw, hK, hS, hlk, hnm, hB, hAr⟩ := id hA
  rcases hl with hl | ⟨host, hl⟩
  · exact va_gets hx hb hS.1.1 hH.2.2 hown (ztbl_use hw args _ hl) (fun x h => h) hd (k p e s m args below meth c H locs ls hA hH hL)
  · exact va_getsN hx hb hS.1.1 hH.2.2 hown (ztbl_use hw args _ hl) (fun x h => h) hd (k p e s m args below meth c H locs ls hA hH hL)
theorem Z_gsR {idx : Nat} (hl : Cond.fieldLink own idx "CallStages$Comparers" "ROWS_IN_WORD" "[J" ∈ zT) (hd : decode cc pc = .ok (.getstatic idx, 3)) (k : Z G R own nm cc nL ret Φ kc ks (pc + 3) lv (.ref (zsR G) :: st) es) : Z G R own nm cc nL ret Φ kc ks pc lv st es := by
  intro p e s m args below meth c H locs ls hA hH hL
  obtain ⟨hx, hb, hr, hml, hown, hw, hK, hS, hlk, hnm, hB, hAr⟩ := id hA
  exact va_gets hx hb hS.2.1.1 hH.2.2 hown (ztbl_use hw args _ hl) (fun x h => h) hd (k p e s m args below meth c H locs ls hA hH hL)
theorem z_vp {i : Int} {N : Nat} (h : 0 ≤ wr i ∧ wr i < N) : vp_in (Int32.ofInt i) N := by
  rintro (h1 | h1)
  · have := zi_lt0.mp h1
    omega
  · have h2 : N ≤ (wr i).toNat := h1
    omega
theorem Z_ialdP {i : Int} (h : 0 ≤ wr i ∧ wr i < 4) (hd : decode cc pc = .ok (.iaload, 1)) (k : Z G R own nm cc nL ret Φ kc ks (pc + 1) lv (Iv (zpairs (wr i).toNat) :: st) es) : Z G R own nm cc nL ret Φ kc ks pc lv (Iv i :: .ref (zsP G) :: st) es := by
  intro p e s m args below meth c H locs ls hA hH hL
  obtain ⟨hx, hb, hr, hml, hown, hw, hK, hS, hlk, hnm, hB, hAr⟩ := id hA
  exact va_ti hx hb hS.1.2 hH.2.2 (z_vp h) rfl hd (k p e s m args below meth c H locs ls hA hH hL)
theorem Z_laldR {i : Int} (h : 0 ≤ wr i ∧ wr i < 6) (hd : decode cc pc = .ok (.laload, 1)) (k : Z G R own nm cc nL ret Φ kc ks (pc + 1) lv (Lv (zrows (wr i).toNat) :: st) es) : Z G R own nm cc nL ret Φ kc ks pc lv (Iv i :: .ref (zsR G) :: st) es := by
  intro p e s m args below meth c H locs ls hA hH hL
  obtain ⟨hx, hb, hr, hml, hown, hw, hK, hS, hlk, hnm, hB, hAr⟩ := id hA
  exact va_tl hx hb hS.2.1.2 hH.2.2 (z_vp h) rfl hd (k p e s m args below meth c H locs ls hA hH hL)
theorem Z_lenR (hd : decode cc pc = .ok (.arraylength, 1)) (k : Z G R own nm cc nL ret Φ kc ks (pc + 1) lv (Iv 6 :: st) es) : Z G R own nm cc nL ret Φ kc ks pc lv (.ref (zsR G) :: st) es := by
  intro p e s m args below meth c H locs ls hA hH hL
  obtain ⟨hx, hb, hr, hml, hown, hw, hK, hS, hlk, hnm, hB, hAr⟩ := id hA
  exact va_tlen hx hb hS.2.1.2 hH.2.2 rfl hd (k p e s m args below meth c H locs ls hA hH hL)
theorem Z_sld {i : Int} (h : 0 ≤ wr i ∧ wr i < zsL G) (hd : decode cc pc = .ok (.iaload, 1)) (k : Z G R own nm cc nL ret Φ kc ks (pc + 1) lv (Iv (zsx G (wr i).toNat).toInt :: st) es) : Z G R own nm cc nL ret Φ kc ks pc lv (Iv i :: .ref (zsb G) :: st) es := by
  intro p e s m args below meth c H locs ls hA hH hL
  obtain ⟨hx, hb, hr, hml, hown, hw, hK, hS, hlk, hnm, hB, hAr⟩ := id hA
  have h2 := k p e s m args below meth c H locs ls hA hH hL
  rw [← Iv_of] at h2
  exact va_sld hx hb hS.2.2.1 hS.2.2.2.2 (Nat.not_le.mpr hS.2.2.2.1) hH.2.2 (z_vp h) hd h2
theorem Z_slen (hd : decode cc pc = .ok (.arraylength, 1)) (k : Z G R own nm cc nL ret Φ kc ks (pc + 1) lv (Iv (zsL G) :: st) es) : Z G R own nm cc nL ret Φ kc ks pc lv (.ref (zsb G) :: st) es := by
  intro p e s m args below meth c H locs ls hA hH hL
  obtain ⟨hx, hb, hr, hml, hown, hw, hK, hS, hlk, hnm, hB, hAr⟩ := id hA
  have h2 := k p e s m args below meth c H locs ls hA hH hL
  unfold Iv at h2
  rw [show Int32.ofInt ((zsL G : Nat) : Int) = Int32.ofNat (zsL G) from Int32.ofInt_eq_ofNat] at h2
  exact va_slen hx hb hS.2.2.1 hS.2.2.2.2 (Nat.not_le.mpr hS.2.2.2.1) hH.2.2 hd h2
theorem Z_len {a : Int} (h : 0 ≤ a ∧ a < n) (hk : zk a = 0) (hd : decode cc pc = .ok (.arraylength, 1)) (k : Z G R own nm cc nL ret Φ kc ks (pc + 1) lv (Iv (zn a) :: st) (zE G n μ)) : Z G R own nm cc nL ret Φ kc ks pc lv (Rv G a :: st) (zE G n μ) := by
  intro p e s m args below meth c H locs ls hA hH hL
  obtain ⟨hx, hb, hr, hml, hown, hw, hK, hS, hlk, hnm, hB, hAr⟩ := id hA
  have hg := zE_at (G := G) μ h.1 h.2
  rw [zcon_0 h.1 hk] at hg
  have h2 := k p e s m args below meth c H locs ls hA hH hL
  unfold Iv at h2
  rw [show Int32.ofInt ((zn a : Nat) : Int) = Int32.ofNat (zn a) from Int32.ofInt_eq_ofNat] at h2
  exact va_alen hx hb hK hH.2.1 a.toNat 0 (zws_get hg) rfl rfl hd h2
/-! ends -/
def zPh (G : zG) (n : Nat) (Q : Option Value → zM → Prop) : zPhi := zPhe G 0 0 (fun r es => ∃ μ', es = zE G n μ' ∧ Q r μ')
def zMt (G : zG) (n d : Nat) (y : MethodName) (cc : ByteArray) (nL : Nat) (ret : Option FieldType) (args : List Value) (μ : zM) (Q : Option Value → zM → Prop) : Prop := zCt G d 0 0 y cc nL ret args (zE G n μ) (fun r es => ∃ μ', es = zE G n μ' ∧ Q r μ')
theorem zMt.mono {d : Nat} {y : MethodName} {args : List Value} {Q Q' : Option Value → zM → Prop} (h : zMt G n d y cc nL ret args μ Q) (hq : ∀ r μ', Q r μ' → Q' r μ') : zMt G n d y cc nL ret args μ Q' := zCt.mono h (fun r es ⟨μ', e, q⟩ => ⟨μ', e, hq r μ' q⟩)
theorem zMt_of {d : Nat} {y : MethodName} {args : List Value} {Q : Option Value → zM → Prop} (hy : plainName y.cls = true) (hlv : zent args ++ List.replicate (nL - (zent args).length) none = lv) (hn : (lg_sl args).length ≤ nL)
    (k : Z G (zrm d 0 0) y.cls y.name cc nL ret (zPh G n Q) 0 0 0 lv [] (zE G n μ)) : zMt G n d y cc nL ret args μ Q := zCt_of hy hlv hn k
theorem Z_ireturn {Q : Option Value → zM → Prop} {a : Int} (hd : decode cc pc = .ok (.ireturn, 1)) (k : Q (some (Iv a)) μ) : Z G R own nm cc nL (some .int) (zPh G n Q) 0 0 pc lv [Iv a] (zE G n μ) := by
  intro p e s m args below meth c H locs ls hA hH hL
  obtain ⟨hx, hb, hr, hml, hown, hw, hK, hS, hlk, hnm, hB, hAr⟩ := id hA
  exact W.iret hx hb hr (fun t ht hwm => ⟨_, _, rfl, ⟨μ, rfl, k⟩, by rw [ht]; exact hH.1, by rw [ht]; exact hH.2.1, hH.2.2.F ht⟩) (fun q hq => hH.2.2.2.2 q hq) hd hlk
theorem Z_zreturn {Q : Option Value → zM → Prop} {a : Int} (hd : decode cc pc = .ok (.ireturn, 1)) (hbv : wr a = 0 ∨ wr a = 1) (k : Q (some (Iv a)) μ) : Z G R own nm cc nL (some .boolean) (zPh G n Q) 0 0 pc lv [Iv a] (zE G n μ) := by
  intro p e s m args below meth c H locs ls hA hH hL
  obtain ⟨hx, hb, hr, hml, hown, hw, hK, hS, hlk, hnm, hB, hAr⟩ := id hA
  exact W.zret hx hb hr (zbool hbv) (fun t ht hwm => ⟨_, _, rfl, ⟨μ, rfl, k⟩, by rw [ht]; exact hH.1, by rw [ht]; exact hH.2.1, hH.2.2.F ht⟩) (fun q hq => hH.2.2.2.2 q hq) hd hlk
theorem Z_lreturn {Q : Option Value → zM → Prop} {a : Int} (hd : decode cc pc = .ok (.lreturn, 1)) (k : Q (some (Lv a)) μ) : Z G R own nm cc nL (some .long) (zPh G n Q) 0 0 pc lv [Lv a] (zE G n μ) := by
  intro p e s m args below meth c H locs ls hA hH hL
  obtain ⟨hx, hb, hr, hml, hown, hw, hK, hS, hlk, hnm, hB, hAr⟩ := id hA
  exact W.lret hx hb hr (fun t ht hwm => ⟨_, _, rfl, ⟨μ, rfl, k⟩, by rw [ht]; exact hH.1, by rw [ht]; exact hH.2.1, hH.2.2.F ht⟩) (fun q hq => hH.2.2.2.2 q hq) hd hlk
theorem Z_return {Q : Option Value → zM → Prop} (hd : decode cc pc = .ok (.return_, 1)) (k : Q none μ) : Z G R own nm cc nL none (zPh G n Q) 0 0 pc lv [] (zE G n μ) := by
  intro p e s m args below meth c H locs ls hA hH hL
  obtain ⟨hx, hb, hr, hml, hown, hw, hK, hS, hlk, hnm, hB, hAr⟩ := id hA
  exact W.vret hx hb hr (fun t ht hwm => ⟨_, _, rfl, ⟨μ, rfl, k⟩, by rw [ht]; exact hH.1, by rw [ht]; exact hH.2.1, hH.2.2.F ht⟩) (fun q hq => hH.2.2.2.2 q hq) hd hlk
end ZH
end
