section
-- ===== PART A: goes FIRST, ahead of the names: the tables' words, and 'selects' of the private methods out of them =====
/-- a private method of a class that the tables say can be made, by its rows of tables_1 -/
def lw_okq (q : MethodName × Nat) : Prop := (q.1.cls ≠ "java/lang/invoke/MethodHandle" ∧ q.1.cls ≠ "java/lang/invoke/VarHandle") ∧ Cond.instantiable q.1.cls q.2 ∈ tables_1 ∧ Cond.privateMethod q.1 ∈ tables_1 ∧ Cond.instanceMethod q.1 ∈ tables_1
theorem lw_p0 : lw_okq (⟨"ElectingWind", "retell", "(I)V"⟩, 13) := ⟨⟨by decide +kernel, by decide +kernel⟩, List.mem_of_getElem? (i := 13) (by decide +kernel), List.mem_of_getElem? (i := 231) (by decide +kernel), List.mem_of_getElem? (i := 232) (by decide +kernel)⟩
theorem lw_p1 : lw_okq (⟨"ElectingWind$Scene", "readRows", "(LElectingWind$Script;)I"⟩, 12) := ⟨⟨by decide +kernel, by decide +kernel⟩, List.mem_of_getElem? (i := 29) (by decide +kernel), List.mem_of_getElem? (i := 243) (by decide +kernel), List.mem_of_getElem? (i := 244) (by decide +kernel)⟩
theorem lw_p2 : lw_okq (⟨"ElectingWind$Scene", "addCell", "(I)V"⟩, 12) := ⟨⟨by decide +kernel, by decide +kernel⟩, List.mem_of_getElem? (i := 29) (by decide +kernel), List.mem_of_getElem? (i := 251) (by decide +kernel), List.mem_of_getElem? (i := 252) (by decide +kernel)⟩
theorem lw_p3 : lw_okq (⟨"ElectingWind$Scene", "layOf", "(II)I"⟩, 12) := ⟨⟨by decide +kernel, by decide +kernel⟩, List.mem_of_getElem? (i := 29) (by decide +kernel), List.mem_of_getElem? (i := 267) (by decide +kernel), List.mem_of_getElem? (i := 268) (by decide +kernel)⟩
theorem lw_p4 : lw_okq (⟨"ElectingWind$Scene", "readOfCandidate", "(III)Z"⟩, 12) := ⟨⟨by decide +kernel, by decide +kernel⟩, List.mem_of_getElem? (i := 29) (by decide +kernel), List.mem_of_getElem? (i := 290) (by decide +kernel), List.mem_of_getElem? (i := 291) (by decide +kernel)⟩
theorem lw_p5 : lw_okq (⟨"ElectingWind$Course", "elect", "(II)V"⟩, 8) := ⟨⟨by decide +kernel, by decide +kernel⟩, List.mem_of_getElem? (i := 23) (by decide +kernel), List.mem_of_getElem? (i := 331) (by decide +kernel), List.mem_of_getElem? (i := 332) (by decide +kernel)⟩
theorem lw_p6 : lw_okq (⟨"ElectingWind", "isMinute", "(I)Z"⟩, 13) := ⟨⟨by decide +kernel, by decide +kernel⟩, List.mem_of_getElem? (i := 13) (by decide +kernel), List.mem_of_getElem? (i := 367) (by decide +kernel), List.mem_of_getElem? (i := 368) (by decide +kernel)⟩
theorem lw_p7 : lw_okq (⟨"ElectingWind", "isCandidate", "(I)Z"⟩, 13) := ⟨⟨by decide +kernel, by decide +kernel⟩, List.mem_of_getElem? (i := 13) (by decide +kernel), List.mem_of_getElem? (i := 375) (by decide +kernel), List.mem_of_getElem? (i := 376) (by decide +kernel)⟩
theorem lw_p8 : lw_okq (⟨"ElectingWind", "placeToShield", "(II)I"⟩, 13) := ⟨⟨by decide +kernel, by decide +kernel⟩, List.mem_of_getElem? (i := 13) (by decide +kernel), List.mem_of_getElem? (i := 457) (by decide +kernel), List.mem_of_getElem? (i := 458) (by decide +kernel)⟩
theorem lw_p9 : lw_okq (⟨"ElectingWind", "movesAnotherIn", "(II)Z"⟩, 13) := ⟨⟨by decide +kernel, by decide +kernel⟩, List.mem_of_getElem? (i := 13) (by decide +kernel), List.mem_of_getElem? (i := 469) (by decide +kernel), List.mem_of_getElem? (i := 470) (by decide +kernel)⟩
theorem lw_p10 : lw_okq (⟨"ElectingWind", "finding", "(I)I"⟩, 13) := ⟨⟨by decide +kernel, by decide +kernel⟩, List.mem_of_getElem? (i := 13) (by decide +kernel), List.mem_of_getElem? (i := 514) (by decide +kernel), List.mem_of_getElem? (i := 515) (by decide +kernel)⟩
theorem lw_p11 : lw_okq (⟨"ElectingWind", "inquire", "(I)V"⟩, 13) := ⟨⟨by decide +kernel, by decide +kernel⟩, List.mem_of_getElem? (i := 13) (by decide +kernel), List.mem_of_getElem? (i := 527) (by decide +kernel), List.mem_of_getElem? (i := 528) (by decide +kernel)⟩
theorem lw_p12 : lw_okq (⟨"ElectingWind", "tallyTrial", "()V"⟩, 13) := ⟨⟨by decide +kernel, by decide +kernel⟩, List.mem_of_getElem? (i := 13) (by decide +kernel), List.mem_of_getElem? (i := 539) (by decide +kernel), List.mem_of_getElem? (i := 540) (by decide +kernel)⟩
theorem lw_p13 : lw_okq (⟨"ElectingWind", "greatestTally", "(I)I"⟩, 13) := ⟨⟨by decide +kernel, by decide +kernel⟩, List.mem_of_getElem? (i := 13) (by decide +kernel), List.mem_of_getElem? (i := 551) (by decide +kernel), List.mem_of_getElem? (i := 552) (by decide +kernel)⟩
theorem lw_p14 : lw_okq (⟨"ElectingWind", "weighCalms", "(I)V"⟩, 13) := ⟨⟨by decide +kernel, by decide +kernel⟩, List.mem_of_getElem? (i := 13) (by decide +kernel), List.mem_of_getElem? (i := 561) (by decide +kernel), List.mem_of_getElem? (i := 562) (by decide +kernel)⟩
theorem lw_p15 : lw_okq (⟨"ElectingWind", "digestMinute", "(JI)J"⟩, 13) := ⟨⟨by decide +kernel, by decide +kernel⟩, List.mem_of_getElem? (i := 13) (by decide +kernel), List.mem_of_getElem? (i := 659) (by decide +kernel), List.mem_of_getElem? (i := 660) (by decide +kernel)⟩
def lw_privs_1 : List (MethodName × Nat) := [(⟨"ElectingWind", "retell", "(I)V"⟩, 13), (⟨"ElectingWind$Scene", "readRows", "(LElectingWind$Script;)I"⟩, 12), (⟨"ElectingWind$Scene", "addCell", "(I)V"⟩, 12), (⟨"ElectingWind$Scene", "layOf", "(II)I"⟩, 12), (⟨"ElectingWind$Scene", "readOfCandidate", "(III)Z"⟩, 12), (⟨"ElectingWind$Course", "elect", "(II)V"⟩, 8), (⟨"ElectingWind", "isMinute", "(I)Z"⟩, 13), (⟨"ElectingWind", "isCandidate", "(I)Z"⟩, 13), (⟨"ElectingWind", "placeToShield", "(II)I"⟩, 13), (⟨"ElectingWind", "movesAnotherIn", "(II)Z"⟩, 13), (⟨"ElectingWind", "finding", "(I)I"⟩, 13), (⟨"ElectingWind", "inquire", "(I)V"⟩, 13), (⟨"ElectingWind", "tallyTrial", "()V"⟩, 13), (⟨"ElectingWind", "greatestTally", "(I)I"⟩, 13), (⟨"ElectingWind", "weighCalms", "(I)V"⟩, 13), (⟨"ElectingWind", "digestMinute", "(JI)J"⟩, 13)]
theorem lw_r1 : ∀ q ∈ lw_privs_1, lw_okq q := List.forall_mem_cons.mpr ⟨lw_p0, List.forall_mem_cons.mpr ⟨lw_p1, List.forall_mem_cons.mpr ⟨lw_p2, List.forall_mem_cons.mpr ⟨lw_p3, List.forall_mem_cons.mpr ⟨lw_p4, List.forall_mem_cons.mpr ⟨lw_p5, List.forall_mem_cons.mpr ⟨lw_p6, List.forall_mem_cons.mpr ⟨lw_p7, List.forall_mem_cons.mpr ⟨lw_p8, List.forall_mem_cons.mpr ⟨lw_p9, List.forall_mem_cons.mpr ⟨lw_p10, List.forall_mem_cons.mpr ⟨lw_p11, List.forall_mem_cons.mpr ⟨lw_p12, List.forall_mem_cons.mpr ⟨lw_p13, List.forall_mem_cons.mpr ⟨lw_p14, List.forall_mem_cons.mpr ⟨lw_p15, fun _ h => absurd h List.not_mem_nil⟩⟩⟩⟩⟩⟩⟩⟩⟩⟩⟩⟩⟩⟩⟩⟩
theorem lw_p16 : lw_okq (⟨"ElectingWind", "digestCandidate", "(JI)J"⟩, 13) := ⟨⟨by decide +kernel, by decide +kernel⟩, List.mem_of_getElem? (i := 13) (by decide +kernel), List.mem_of_getElem? (i := 669) (by decide +kernel), List.mem_of_getElem? (i := 670) (by decide +kernel)⟩
theorem lw_p17 : lw_okq (⟨"ElectingWindModel", "faultOf", "(I)I"⟩, 29) := ⟨⟨by decide +kernel, by decide +kernel⟩, List.mem_of_getElem? (i := 684) (by decide +kernel), List.mem_of_getElem? (i := 801) (by decide +kernel), List.mem_of_getElem? (i := 802) (by decide +kernel)⟩
theorem lw_p18 : lw_okq (⟨"ElectingWindModel", "readsCorner", "()I"⟩, 29) := ⟨⟨by decide +kernel, by decide +kernel⟩, List.mem_of_getElem? (i := 684) (by decide +kernel), List.mem_of_getElem? (i := 805) (by decide +kernel), List.mem_of_getElem? (i := 806) (by decide +kernel)⟩
theorem lw_p19 : lw_okq (⟨"ElectingWindModel", "byteAt", "(II)I"⟩, 29) := ⟨⟨by decide +kernel, by decide +kernel⟩, List.mem_of_getElem? (i := 684) (by decide +kernel), List.mem_of_getElem? (i := 809) (by decide +kernel), List.mem_of_getElem? (i := 810) (by decide +kernel)⟩
theorem lw_p20 : lw_okq (⟨"ElectingWindModel", "readsGusts", "()I"⟩, 29) := ⟨⟨by decide +kernel, by decide +kernel⟩, List.mem_of_getElem? (i := 684) (by decide +kernel), List.mem_of_getElem? (i := 813) (by decide +kernel), List.mem_of_getElem? (i := 814) (by decide +kernel)⟩
theorem lw_p21 : lw_okq (⟨"ElectingWindModel", "figureAt", "(IIII)I"⟩, 29) := ⟨⟨by decide +kernel, by decide +kernel⟩, List.mem_of_getElem? (i := 684) (by decide +kernel), List.mem_of_getElem? (i := 820) (by decide +kernel), List.mem_of_getElem? (i := 821) (by decide +kernel)⟩
theorem lw_p22 : lw_okq (⟨"ElectingWindModel", "readsCandidates", "()I"⟩, 29) := ⟨⟨by decide +kernel, by decide +kernel⟩, List.mem_of_getElem? (i := 684) (by decide +kernel), List.mem_of_getElem? (i := 824) (by decide +kernel), List.mem_of_getElem? (i := 825) (by decide +kernel)⟩
theorem lw_p23 : lw_okq (⟨"ElectingWindModel", "readsCandidate", "(II)I"⟩, 29) := ⟨⟨by decide +kernel, by decide +kernel⟩, List.mem_of_getElem? (i := 684) (by decide +kernel), List.mem_of_getElem? (i := 828) (by decide +kernel), List.mem_of_getElem? (i := 829) (by decide +kernel)⟩
theorem lw_p24 : lw_okq (⟨"ElectingWindModel", "isCell", "(I)Z"⟩, 29) := ⟨⟨by decide +kernel, by decide +kernel⟩, List.mem_of_getElem? (i := 684) (by decide +kernel), List.mem_of_getElem? (i := 836) (by decide +kernel), List.mem_of_getElem? (i := 837) (by decide +kernel)⟩
theorem lw_p25 : lw_okq (⟨"ElectingWindModel", "reads", "()V"⟩, 29) := ⟨⟨by decide +kernel, by decide +kernel⟩, List.mem_of_getElem? (i := 684) (by decide +kernel), List.mem_of_getElem? (i := 840) (by decide +kernel), List.mem_of_getElem? (i := 841) (by decide +kernel)⟩
theorem lw_p26 : lw_okq (⟨"ElectingWindModel", "isMinute", "(I)Z"⟩, 29) := ⟨⟨by decide +kernel, by decide +kernel⟩, List.mem_of_getElem? (i := 684) (by decide +kernel), List.mem_of_getElem? (i := 848) (by decide +kernel), List.mem_of_getElem? (i := 849) (by decide +kernel)⟩
theorem lw_p27 : lw_okq (⟨"ElectingWindModel", "isCandidate", "(I)Z"⟩, 29) := ⟨⟨by decide +kernel, by decide +kernel⟩, List.mem_of_getElem? (i := 684) (by decide +kernel), List.mem_of_getElem? (i := 856) (by decide +kernel), List.mem_of_getElem? (i := 857) (by decide +kernel)⟩
theorem lw_p28 : lw_okq (⟨"ElectingWindModel", "candidateOf", "(II)I"⟩, 29) := ⟨⟨by decide +kernel, by decide +kernel⟩, List.mem_of_getElem? (i := 684) (by decide +kernel), List.mem_of_getElem? (i := 860) (by decide +kernel), List.mem_of_getElem? (i := 861) (by decide +kernel)⟩
theorem lw_p29 : lw_okq (⟨"ElectingWindModel", "isSomewhere", "(I)Z"⟩, 29) := ⟨⟨by decide +kernel, by decide +kernel⟩, List.mem_of_getElem? (i := 684) (by decide +kernel), List.mem_of_getElem? (i := 864) (by decide +kernel), List.mem_of_getElem? (i := 865) (by decide +kernel)⟩
theorem lw_p30 : lw_okq (⟨"ElectingWindModel", "windOf", "(II)I"⟩, 29) := ⟨⟨by decide +kernel, by decide +kernel⟩, List.mem_of_getElem? (i := 684) (by decide +kernel), List.mem_of_getElem? (i := 872) (by decide +kernel), List.mem_of_getElem? (i := 873) (by decide +kernel)⟩
theorem lw_p31 : lw_okq (⟨"ElectingWindModel", "runsTold", "()V"⟩, 29) := ⟨⟨by decide +kernel, by decide +kernel⟩, List.mem_of_getElem? (i := 684) (by decide +kernel), List.mem_of_getElem? (i := 876) (by decide +kernel), List.mem_of_getElem? (i := 877) (by decide +kernel)⟩
def lw_privs_2 : List (MethodName × Nat) := [(⟨"ElectingWind", "digestCandidate", "(JI)J"⟩, 13), (⟨"ElectingWindModel", "faultOf", "(I)I"⟩, 29), (⟨"ElectingWindModel", "readsCorner", "()I"⟩, 29), (⟨"ElectingWindModel", "byteAt", "(II)I"⟩, 29), (⟨"ElectingWindModel", "readsGusts", "()I"⟩, 29), (⟨"ElectingWindModel", "figureAt", "(IIII)I"⟩, 29), (⟨"ElectingWindModel", "readsCandidates", "()I"⟩, 29), (⟨"ElectingWindModel", "readsCandidate", "(II)I"⟩, 29), (⟨"ElectingWindModel", "isCell", "(I)Z"⟩, 29), (⟨"ElectingWindModel", "reads", "()V"⟩, 29), (⟨"ElectingWindModel", "isMinute", "(I)Z"⟩, 29), (⟨"ElectingWindModel", "isCandidate", "(I)Z"⟩, 29), (⟨"ElectingWindModel", "candidateOf", "(II)I"⟩, 29), (⟨"ElectingWindModel", "isSomewhere", "(I)Z"⟩, 29), (⟨"ElectingWindModel", "windOf", "(II)I"⟩, 29), (⟨"ElectingWindModel", "runsTold", "()V"⟩, 29)]
theorem lw_r2 : ∀ q ∈ lw_privs_2, lw_okq q := List.forall_mem_cons.mpr ⟨lw_p16, List.forall_mem_cons.mpr ⟨lw_p17, List.forall_mem_cons.mpr ⟨lw_p18, List.forall_mem_cons.mpr ⟨lw_p19, List.forall_mem_cons.mpr ⟨lw_p20, List.forall_mem_cons.mpr ⟨lw_p21, List.forall_mem_cons.mpr ⟨lw_p22, List.forall_mem_cons.mpr ⟨lw_p23, List.forall_mem_cons.mpr ⟨lw_p24, List.forall_mem_cons.mpr ⟨lw_p25, List.forall_mem_cons.mpr ⟨lw_p26, List.forall_mem_cons.mpr ⟨lw_p27, List.forall_mem_cons.mpr ⟨lw_p28, List.forall_mem_cons.mpr ⟨lw_p29, List.forall_mem_cons.mpr ⟨lw_p30, List.forall_mem_cons.mpr ⟨lw_p31, fun _ h => absurd h List.not_mem_nil⟩⟩⟩⟩⟩⟩⟩⟩⟩⟩⟩⟩⟩⟩⟩⟩
theorem lw_p32 : lw_okq (⟨"ElectingWindModel", "runs", "()V"⟩, 29) := ⟨⟨by decide +kernel, by decide +kernel⟩, List.mem_of_getElem? (i := 684) (by decide +kernel), List.mem_of_getElem? (i := 880) (by decide +kernel), List.mem_of_getElem? (i := 881) (by decide +kernel)⟩
theorem lw_p33 : lw_okq (⟨"ElectingWindModel", "goesBy", "(I)V"⟩, 29) := ⟨⟨by decide +kernel, by decide +kernel⟩, List.mem_of_getElem? (i := 684) (by decide +kernel), List.mem_of_getElem? (i := 884) (by decide +kernel), List.mem_of_getElem? (i := 885) (by decide +kernel)⟩
theorem lw_p34 : lw_okq (⟨"ElectingWindModel", "windNow", "(II)I"⟩, 29) := ⟨⟨by decide +kernel, by decide +kernel⟩, List.mem_of_getElem? (i := 684) (by decide +kernel), List.mem_of_getElem? (i := 888) (by decide +kernel), List.mem_of_getElem? (i := 889) (by decide +kernel)⟩
theorem lw_p35 : lw_okq (⟨"ElectingWindModel", "beside", "(II)I"⟩, 29) := ⟨⟨by decide +kernel, by decide +kernel⟩, List.mem_of_getElem? (i := 684) (by decide +kernel), List.mem_of_getElem? (i := 892) (by decide +kernel), List.mem_of_getElem? (i := 893) (by decide +kernel)⟩
theorem lw_p36 : lw_okq (⟨"ElectingWindModel", "isWallAt", "(I)Z"⟩, 29) := ⟨⟨by decide +kernel, by decide +kernel⟩, List.mem_of_getElem? (i := 684) (by decide +kernel), List.mem_of_getElem? (i := 896) (by decide +kernel), List.mem_of_getElem? (i := 897) (by decide +kernel)⟩
theorem lw_p37 : lw_okq (⟨"ElectingWindModel", "isLee", "(II)Z"⟩, 29) := ⟨⟨by decide +kernel, by decide +kernel⟩, List.mem_of_getElem? (i := 684) (by decide +kernel), List.mem_of_getElem? (i := 900) (by decide +kernel), List.mem_of_getElem? (i := 901) (by decide +kernel)⟩
theorem lw_p38 : lw_okq (⟨"ElectingWindModel", "strain", "(II)I"⟩, 29) := ⟨⟨by decide +kernel, by decide +kernel⟩, List.mem_of_getElem? (i := 684) (by decide +kernel), List.mem_of_getElem? (i := 904) (by decide +kernel), List.mem_of_getElem? (i := 905) (by decide +kernel)⟩
theorem lw_p39 : lw_okq (⟨"ElectingWindModel", "elects", "(I)V"⟩, 29) := ⟨⟨by decide +kernel, by decide +kernel⟩, List.mem_of_getElem? (i := 684) (by decide +kernel), List.mem_of_getElem? (i := 908) (by decide +kernel), List.mem_of_getElem? (i := 909) (by decide +kernel)⟩
theorem lw_p40 : lw_okq (⟨"ElectingWindModel", "ribsOf", "(II)I"⟩, 29) := ⟨⟨by decide +kernel, by decide +kernel⟩, List.mem_of_getElem? (i := 684) (by decide +kernel), List.mem_of_getElem? (i := 916) (by decide +kernel), List.mem_of_getElem? (i := 917) (by decide +kernel)⟩
theorem lw_p41 : lw_okq (⟨"ElectingWindModel", "turnsOf", "(II)I"⟩, 29) := ⟨⟨by decide +kernel, by decide +kernel⟩, List.mem_of_getElem? (i := 684) (by decide +kernel), List.mem_of_getElem? (i := 924) (by decide +kernel), List.mem_of_getElem? (i := 925) (by decide +kernel)⟩
theorem lw_p42 : lw_okq (⟨"ElectingWindModel", "inOf", "(I)I"⟩, 29) := ⟨⟨by decide +kernel, by decide +kernel⟩, List.mem_of_getElem? (i := 684) (by decide +kernel), List.mem_of_getElem? (i := 932) (by decide +kernel), List.mem_of_getElem? (i := 933) (by decide +kernel)⟩
theorem lw_p43 : lw_okq (⟨"ElectingWindModel", "firstOf", "(I)I"⟩, 29) := ⟨⟨by decide +kernel, by decide +kernel⟩, List.mem_of_getElem? (i := 684) (by decide +kernel), List.mem_of_getElem? (i := 940) (by decide +kernel), List.mem_of_getElem? (i := 941) (by decide +kernel)⟩
theorem lw_p44 : lw_okq (⟨"ElectingWindModel", "lullsNow", "()I"⟩, 29) := ⟨⟨by decide +kernel, by decide +kernel⟩, List.mem_of_getElem? (i := 684) (by decide +kernel), List.mem_of_getElem? (i := 948) (by decide +kernel), List.mem_of_getElem? (i := 949) (by decide +kernel)⟩
theorem lw_p45 : lw_okq (⟨"ElectingWindModel", "standOf", "(II)I"⟩, 29) := ⟨⟨by decide +kernel, by decide +kernel⟩, List.mem_of_getElem? (i := 684) (by decide +kernel), List.mem_of_getElem? (i := 956) (by decide +kernel), List.mem_of_getElem? (i := 957) (by decide +kernel)⟩
theorem lw_p46 : lw_okq (⟨"ElectingWindModel", "isTaken", "(II)Z"⟩, 29) := ⟨⟨by decide +kernel, by decide +kernel⟩, List.mem_of_getElem? (i := 684) (by decide +kernel), List.mem_of_getElem? (i := 960) (by decide +kernel), List.mem_of_getElem? (i := 961) (by decide +kernel)⟩
theorem lw_p47 : lw_okq (⟨"ElectingWindModel", "shieldOf", "(I)I"⟩, 29) := ⟨⟨by decide +kernel, by decide +kernel⟩, List.mem_of_getElem? (i := 684) (by decide +kernel), List.mem_of_getElem? (i := 968) (by decide +kernel), List.mem_of_getElem? (i := 969) (by decide +kernel)⟩
def lw_privs_3 : List (MethodName × Nat) := [(⟨"ElectingWindModel", "runs", "()V"⟩, 29), (⟨"ElectingWindModel", "goesBy", "(I)V"⟩, 29), (⟨"ElectingWindModel", "windNow", "(II)I"⟩, 29), (⟨"ElectingWindModel", "beside", "(II)I"⟩, 29), (⟨"ElectingWindModel", "isWallAt", "(I)Z"⟩, 29), (⟨"ElectingWindModel", "isLee", "(II)Z"⟩, 29), (⟨"ElectingWindModel", "strain", "(II)I"⟩, 29), (⟨"ElectingWindModel", "elects", "(I)V"⟩, 29), (⟨"ElectingWindModel", "ribsOf", "(II)I"⟩, 29), (⟨"ElectingWindModel", "turnsOf", "(II)I"⟩, 29), (⟨"ElectingWindModel", "inOf", "(I)I"⟩, 29), (⟨"ElectingWindModel", "firstOf", "(I)I"⟩, 29), (⟨"ElectingWindModel", "lullsNow", "()I"⟩, 29), (⟨"ElectingWindModel", "standOf", "(II)I"⟩, 29), (⟨"ElectingWindModel", "isTaken", "(II)Z"⟩, 29), (⟨"ElectingWindModel", "shieldOf", "(I)I"⟩, 29)]
theorem lw_r3 : ∀ q ∈ lw_privs_3, lw_okq q := List.forall_mem_cons.mpr ⟨lw_p32, List.forall_mem_cons.mpr ⟨lw_p33, List.forall_mem_cons.mpr ⟨lw_p34, List.forall_mem_cons.mpr ⟨lw_p35, List.forall_mem_cons.mpr ⟨lw_p36, List.forall_mem_cons.mpr ⟨lw_p37, List.forall_mem_cons.mpr ⟨lw_p38, List.forall_mem_cons.mpr ⟨lw_p39, List.forall_mem_cons.mpr ⟨lw_p40, List.forall_mem_cons.mpr ⟨lw_p41, List.forall_mem_cons.mpr ⟨lw_p42, List.forall_mem_cons.mpr ⟨lw_p43, List.forall_mem_cons.mpr ⟨lw_p44, List.forall_mem_cons.mpr ⟨lw_p45, List.forall_mem_cons.mpr ⟨lw_p46, List.forall_mem_cons.mpr ⟨lw_p47, fun _ h => absurd h List.not_mem_nil⟩⟩⟩⟩⟩⟩⟩⟩⟩⟩⟩⟩⟩⟩⟩⟩
theorem lw_p48 : lw_okq (⟨"ElectingWindModel", "doesStay", "(III)Z"⟩, 29) := ⟨⟨by decide +kernel, by decide +kernel⟩, List.mem_of_getElem? (i := 684) (by decide +kernel), List.mem_of_getElem? (i := 972) (by decide +kernel), List.mem_of_getElem? (i := 973) (by decide +kernel)⟩
theorem lw_p49 : lw_okq (⟨"ElectingWindModel", "moveOf", "(I)I"⟩, 29) := ⟨⟨by decide +kernel, by decide +kernel⟩, List.mem_of_getElem? (i := 684) (by decide +kernel), List.mem_of_getElem? (i := 980) (by decide +kernel), List.mem_of_getElem? (i := 981) (by decide +kernel)⟩
theorem lw_p50 : lw_okq (⟨"ElectingWindModel", "lastIn", "()I"⟩, 29) := ⟨⟨by decide +kernel, by decide +kernel⟩, List.mem_of_getElem? (i := 684) (by decide +kernel), List.mem_of_getElem? (i := 984) (by decide +kernel), List.mem_of_getElem? (i := 985) (by decide +kernel)⟩
theorem lw_p51 : lw_okq (⟨"ElectingWindModel", "bribeOf", "(I)I"⟩, 29) := ⟨⟨by decide +kernel, by decide +kernel⟩, List.mem_of_getElem? (i := 684) (by decide +kernel), List.mem_of_getElem? (i := 992) (by decide +kernel), List.mem_of_getElem? (i := 993) (by decide +kernel)⟩
theorem lw_p52 : lw_okq (⟨"ElectingWindModel", "meets", "(I)I"⟩, 29) := ⟨⟨by decide +kernel, by decide +kernel⟩, List.mem_of_getElem? (i := 684) (by decide +kernel), List.mem_of_getElem? (i := 1011) (by decide +kernel), List.mem_of_getElem? (i := 1012) (by decide +kernel)⟩
theorem lw_p53 : lw_okq (⟨"ElectingWindModel", "blewOf", "(II)I"⟩, 29) := ⟨⟨by decide +kernel, by decide +kernel⟩, List.mem_of_getElem? (i := 684) (by decide +kernel), List.mem_of_getElem? (i := 1020) (by decide +kernel), List.mem_of_getElem? (i := 1021) (by decide +kernel)⟩
theorem lw_p54 : lw_okq (⟨"ElectingWindModel", "blows", "(I)I"⟩, 29) := ⟨⟨by decide +kernel, by decide +kernel⟩, List.mem_of_getElem? (i := 684) (by decide +kernel), List.mem_of_getElem? (i := 1024) (by decide +kernel), List.mem_of_getElem? (i := 1025) (by decide +kernel)⟩
theorem lw_p55 : lw_okq (⟨"ElectingWindModel", "isSeen", "()Z"⟩, 29) := ⟨⟨by decide +kernel, by decide +kernel⟩, List.mem_of_getElem? (i := 684) (by decide +kernel), List.mem_of_getElem? (i := 1028) (by decide +kernel), List.mem_of_getElem? (i := 1029) (by decide +kernel)⟩
theorem lw_p56 : lw_okq (⟨"ElectingWindModel", "hadOf", "(I)I"⟩, 29) := ⟨⟨by decide +kernel, by decide +kernel⟩, List.mem_of_getElem? (i := 684) (by decide +kernel), List.mem_of_getElem? (i := 1036) (by decide +kernel), List.mem_of_getElem? (i := 1037) (by decide +kernel)⟩
theorem lw_p57 : lw_okq (⟨"ElectingWindModel", "askOf", "(I)I"⟩, 29) := ⟨⟨by decide +kernel, by decide +kernel⟩, List.mem_of_getElem? (i := 684) (by decide +kernel), List.mem_of_getElem? (i := 1044) (by decide +kernel), List.mem_of_getElem? (i := 1045) (by decide +kernel)⟩
theorem lw_p58 : lw_okq (⟨"ElectingWindModel", "calmOf", "(III)J"⟩, 29) := ⟨⟨by decide +kernel, by decide +kernel⟩, List.mem_of_getElem? (i := 684) (by decide +kernel), List.mem_of_getElem? (i := 1052) (by decide +kernel), List.mem_of_getElem? (i := 1053) (by decide +kernel)⟩
theorem lw_p59 : lw_okq (⟨"ElectingWindModel", "weatherOf", "(III)I"⟩, 29) := ⟨⟨by decide +kernel, by decide +kernel⟩, List.mem_of_getElem? (i := 684) (by decide +kernel), List.mem_of_getElem? (i := 1070) (by decide +kernel), List.mem_of_getElem? (i := 1071) (by decide +kernel)⟩
theorem lw_p60 : lw_okq (⟨"ElectingWindModel", "turnedNow", "()I"⟩, 29) := ⟨⟨by decide +kernel, by decide +kernel⟩, List.mem_of_getElem? (i := 684) (by decide +kernel), List.mem_of_getElem? (i := 1075) (by decide +kernel), List.mem_of_getElem? (i := 1076) (by decide +kernel)⟩
theorem lw_p61 : lw_okq (⟨"ElectingWindModel", "lacks", "(III)I"⟩, 29) := ⟨⟨by decide +kernel, by decide +kernel⟩, List.mem_of_getElem? (i := 684) (by decide +kernel), List.mem_of_getElem? (i := 1091) (by decide +kernel), List.mem_of_getElem? (i := 1092) (by decide +kernel)⟩
theorem lw_p62 : lw_okq (⟨"ElectingWindModel", "keep", "(III)V"⟩, 29) := ⟨⟨by decide +kernel, by decide +kernel⟩, List.mem_of_getElem? (i := 684) (by decide +kernel), List.mem_of_getElem? (i := 1095) (by decide +kernel), List.mem_of_getElem? (i := 1096) (by decide +kernel)⟩
theorem lw_p63 : lw_okq (⟨"ElectingWindModel", "sumOf", "(I)I"⟩, 29) := ⟨⟨by decide +kernel, by decide +kernel⟩, List.mem_of_getElem? (i := 684) (by decide +kernel), List.mem_of_getElem? (i := 1116) (by decide +kernel), List.mem_of_getElem? (i := 1117) (by decide +kernel)⟩
def lw_privs_4 : List (MethodName × Nat) := [(⟨"ElectingWindModel", "doesStay", "(III)Z"⟩, 29), (⟨"ElectingWindModel", "moveOf", "(I)I"⟩, 29), (⟨"ElectingWindModel", "lastIn", "()I"⟩, 29), (⟨"ElectingWindModel", "bribeOf", "(I)I"⟩, 29), (⟨"ElectingWindModel", "meets", "(I)I"⟩, 29), (⟨"ElectingWindModel", "blewOf", "(II)I"⟩, 29), (⟨"ElectingWindModel", "blows", "(I)I"⟩, 29), (⟨"ElectingWindModel", "isSeen", "()Z"⟩, 29), (⟨"ElectingWindModel", "hadOf", "(I)I"⟩, 29), (⟨"ElectingWindModel", "askOf", "(I)I"⟩, 29), (⟨"ElectingWindModel", "calmOf", "(III)J"⟩, 29), (⟨"ElectingWindModel", "weatherOf", "(III)I"⟩, 29), (⟨"ElectingWindModel", "turnedNow", "()I"⟩, 29), (⟨"ElectingWindModel", "lacks", "(III)I"⟩, 29), (⟨"ElectingWindModel", "keep", "(III)V"⟩, 29), (⟨"ElectingWindModel", "sumOf", "(I)I"⟩, 29)]
theorem lw_r4 : ∀ q ∈ lw_privs_4, lw_okq q := List.forall_mem_cons.mpr ⟨lw_p48, List.forall_mem_cons.mpr ⟨lw_p49, List.forall_mem_cons.mpr ⟨lw_p50, List.forall_mem_cons.mpr ⟨lw_p51, List.forall_mem_cons.mpr ⟨lw_p52, List.forall_mem_cons.mpr ⟨lw_p53, List.forall_mem_cons.mpr ⟨lw_p54, List.forall_mem_cons.mpr ⟨lw_p55, List.forall_mem_cons.mpr ⟨lw_p56, List.forall_mem_cons.mpr ⟨lw_p57, List.forall_mem_cons.mpr ⟨lw_p58, List.forall_mem_cons.mpr ⟨lw_p59, List.forall_mem_cons.mpr ⟨lw_p60, List.forall_mem_cons.mpr ⟨lw_p61, List.forall_mem_cons.mpr ⟨lw_p62, List.forall_mem_cons.mpr ⟨lw_p63, fun _ h => absurd h List.not_mem_nil⟩⟩⟩⟩⟩⟩⟩⟩⟩⟩⟩⟩⟩⟩⟩⟩
theorem lw_p64 : lw_okq (⟨"ElectingWindModel", "minuteDigest", "(JI)J"⟩, 29) := ⟨⟨by decide +kernel, by decide +kernel⟩, List.mem_of_getElem? (i := 684) (by decide +kernel), List.mem_of_getElem? (i := 1127) (by decide +kernel), List.mem_of_getElem? (i := 1128) (by decide +kernel)⟩
theorem lw_p65 : lw_okq (⟨"ElectingWindModel", "candidateDigest", "(JI)J"⟩, 29) := ⟨⟨by decide +kernel, by decide +kernel⟩, List.mem_of_getElem? (i := 684) (by decide +kernel), List.mem_of_getElem? (i := 1131) (by decide +kernel), List.mem_of_getElem? (i := 1132) (by decide +kernel)⟩
def lw_privs_5 : List (MethodName × Nat) := [(⟨"ElectingWindModel", "minuteDigest", "(JI)J"⟩, 29), (⟨"ElectingWindModel", "candidateDigest", "(JI)J"⟩, 29)]
theorem lw_r5 : ∀ q ∈ lw_privs_5, lw_okq q := List.forall_mem_cons.mpr ⟨lw_p64, List.forall_mem_cons.mpr ⟨lw_p65, fun _ h => absurd h List.not_mem_nil⟩⟩
def lw_privs : List (MethodName × Nat) := lw_privs_1 ++ (lw_privs_2 ++ (lw_privs_3 ++ (lw_privs_4 ++ (lw_privs_5))))
def lw_tbl : List Cond := k2_sels lw_privs ++ tables_1
theorem lw_privs_ok : ∀ q ∈ lw_privs, lw_okq q := by
  show ∀ q ∈ lw_privs_1 ++ (lw_privs_2 ++ (lw_privs_3 ++ (lw_privs_4 ++ (lw_privs_5)))), lw_okq q
  exact List.forall_mem_append.mpr ⟨lw_r1, List.forall_mem_append.mpr ⟨lw_r2, List.forall_mem_append.mpr ⟨lw_r3, List.forall_mem_append.mpr ⟨lw_r4, lw_r5⟩⟩⟩⟩
-- ===== end of PART A; then your names; then what follows =====
end
section
/-! ===== BEGIN words of one list among another's, by their places ===== -/
theorem goodIn_r {big : List Cond} (ws : List Cond) (ps : List Nat) (hp : ws = ps.filterMap (fun i => big[i]?)) (h : ws.all goodWord = true) : GoodIn big ws := by
  intro w hw
  have h1 := List.all_eq_true.mp h w hw
  rw [hp] at hw
  obtain ⟨i, -, hi⟩ := List.mem_filterMap.mp hw
  have hm : w ∈ big := by first | exact List.mem_of_getElem? hi | exact List.getElem?_mem hi
  exact ⟨hm, good_of_word h1⟩
theorem goodIn_app {big a b : List Cond} (ha : GoodIn big a) (hb : GoodIn big b) : GoodIn big (a ++ b) := fun w h => (List.mem_append.mp h).elim (ha w) (hb w)
theorem goodIn_ca {big a b : List Cond} {c : Cond} (ha : GoodIn big (c :: a)) (hb : GoodIn big b) : GoodIn big (c :: (a ++ b)) := fun w h => (List.mem_cons.mp h).elim (fun e => ha w (List.mem_cons.mpr (Or.inl e))) (fun h => (List.mem_append.mp h).elim (fun h => ha w (List.mem_cons.mpr (Or.inr h))) (hb w))
theorem goodIn_sub {big ws : List Cond} (hm : ∀ w ∈ ws, w ∈ big) (h : ws.all goodWord = true) : GoodIn big ws := fun w hw => ⟨hm w hw, good_of_word (List.all_eq_true.mp h w hw)⟩
/-! ===== END ===== -/

/-! ===== BEGIN printed: names, fields, word lists, decode rows ===== -/
def RX0 : String := "ElectingWind$Course"
def TX0 : u_T := fun k => match k with
  | 0 => ("ElectingWind$Course", "scene", "LElectingWind$Scene;", true)
  | 1 => ("ElectingWind$Course", "somewhere", "I", false)
  | 2 => ("ElectingWind$Course", "standing", "[I", true)
  | 3 => ("ElectingWind$Course", "turned", "[I", true)
  | 4 => ("ElectingWind$Course", "ribs", "[I", true)
  | 5 => ("ElectingWind$Course", "returned", "[I", true)
  | 6 => ("ElectingWind$Course", "elected", "[I", true)
  | _ => ("ElectingWind$Course", "in", "[I", true)
def tyX0 : Nat → FieldType := fun k => match k with
  | 0 => .object "ElectingWind$Scene"
  | 1 => .int
  | 2 => .array .int
  | 3 => .array .int
  | 4 => .array .int
  | 5 => .array .int
  | 6 => .array .int
  | _ => .array .int
abbrev wsX00 : List Cond := u_ws RX0 TX0 8
theorem nmX0 : ∀ a, a < 8 → ∀ b, b < 8 → a ≠ b → (TX0 a).2.1 ≠ (TX0 b).2.1 := by decide +kernel
theorem tyX0_ok : ∀ k, k < 8 → parseFieldDescriptor (TX0 k).2.2.1 = some (tyX0 k) := by decide +kernel
abbrev cX0_init : ByteArray := prog_2_method_1_code
def yX0_init : MethodName := ⟨RX0, "<init>", "()V"⟩
abbrev cX0_run : ByteArray := prog_2_method_2_code
def yX0_run : MethodName := ⟨RX0, "run", "()V"⟩
abbrev cX0_runOnFrom : ByteArray := prog_2_method_3_code
def yX0_runOnFrom : MethodName := ⟨RX0, "runOnFrom", "(I)V"⟩
abbrev cX0_runUntilTurned : ByteArray := prog_2_method_4_code
def yX0_runUntilTurned : MethodName := ⟨RX0, "runUntilTurned", "(I)I"⟩
abbrev cX0_start : ByteArray := prog_2_method_5_code
def yX0_start : MethodName := ⟨RX0, "start", "()V"⟩
abbrev cX0_pass : ByteArray := prog_2_method_6_code
def yX0_pass : MethodName := ⟨RX0, "pass", "(I)V"⟩
abbrev cX0_end : ByteArray := prog_2_method_7_code
def yX0_end : MethodName := ⟨RX0, "end", "()V"⟩
abbrev cX0_strainOf : ByteArray := prog_2_method_8_code
def yX0_strainOf : MethodName := ⟨RX0, "strainOf", "(II)I"⟩
abbrev cX0_elect : ByteArray := prog_2_method_9_code
def yX0_elect : MethodName := ⟨RX0, "elect", "(II)V"⟩
abbrev cX0_windOn : ByteArray := prog_2_method_10_code
def yX0_windOn : MethodName := ⟨RX0, "windOn", "(II)I"⟩
abbrev cX0_has : ByteArray := prog_2_method_11_code
def yX0_has : MethodName := ⟨RX0, "has", "(II)Z"⟩
abbrev cX0_isSomewhere : ByteArray := prog_2_method_12_code
def yX0_isSomewhere : MethodName := ⟨RX0, "isSomewhere", "(I)Z"⟩
abbrev cX0_isFree : ByteArray := prog_2_method_13_code
def yX0_isFree : MethodName := ⟨RX0, "isFree", "(I)Z"⟩
abbrev cX0_isFreeFor : ByteArray := prog_2_method_14_code
def yX0_isFreeFor : MethodName := ⟨RX0, "isFreeFor", "(II)Z"⟩
abbrev cX0_ribsAhead : ByteArray := prog_2_method_15_code
def yX0_ribsAhead : MethodName := ⟨RX0, "ribsAhead", "(II)I"⟩
abbrev cX0_turnsWhen : ByteArray := prog_2_method_16_code
def yX0_turnsWhen : MethodName := ⟨RX0, "turnsWhen", "(I)I"⟩
abbrev cX0_isReturned : ByteArray := prog_2_method_17_code
def yX0_isReturned : MethodName := ⟨RX0, "isReturned", "(I)Z"⟩
abbrev cX0_isElected : ByteArray := prog_2_method_18_code
def yX0_isElected : MethodName := ⟨RX0, "isElected", "(I)Z"⟩
abbrev cX0_minutesBehindWhichIn : ByteArray := prog_2_method_19_code
def yX0_minutesBehindWhichIn : MethodName := ⟨RX0, "minutesBehindWhichIn", "(I)I"⟩
abbrev cX0_whoIsIn : ByteArray := prog_2_method_20_code
def yX0_whoIsIn : MethodName := ⟨RX0, "whoIsIn", "(I)I"⟩
abbrev cX0_whoIsInLast : ByteArray := prog_2_method_21_code
def yX0_whoIsInLast : MethodName := ⟨RX0, "whoIsInLast", "()I"⟩
abbrev cX0_manyTurned : ByteArray := prog_2_method_22_code
def yX0_manyTurned : MethodName := ⟨RX0, "manyTurned", "()I"⟩
def RX1 : String := "ElectingWind$Scene"
def TX1 : u_T := fun k => match k with
  | 0 => ("ElectingWind$Scene", "columns", "I", false)
  | 1 => ("ElectingWind$Scene", "cells", "I", false)
  | 2 => ("ElectingWind$Scene", "minutes", "I", false)
  | 3 => ("ElectingWind$Scene", "candidates", "I", false)
  | 4 => ("ElectingWind$Scene", "wall", "[I", true)
  | 5 => ("ElectingWind$Scene", "lee", "[I", true)
  | 6 => ("ElectingWind$Scene", "lay", "[I", true)
  | 7 => ("ElectingWind$Scene", "from", "[I", true)
  | 8 => ("ElectingWind$Scene", "force", "[I", true)
  | 9 => ("ElectingWind$Scene", "at", "[I", true)
  | 10 => ("ElectingWind$Scene", "ribs", "[I", true)
  | _ => ("ElectingWind$Scene", "held", "[I", true)
def tyX1 : Nat → FieldType := fun k => match k with
  | 0 => .int
  | 1 => .int
  | 2 => .int
  | 3 => .int
  | 4 => .array .int
  | 5 => .array .int
  | 6 => .array .int
  | 7 => .array .int
  | 8 => .array .int
  | 9 => .array .int
  | 10 => .array .int
  | _ => .array .int
abbrev wsX10 : List Cond := u_ws RX1 TX1 12
theorem nmX1 : ∀ a, a < 12 → ∀ b, b < 12 → a ≠ b → (TX1 a).2.1 ≠ (TX1 b).2.1 := by decide +kernel
theorem tyX1_ok : ∀ k, k < 12 → parseFieldDescriptor (TX1 k).2.2.1 = some (tyX1 k) := by decide +kernel
abbrev cX1_init : ByteArray := prog_3_method_1_code
def yX1_init : MethodName := ⟨RX1, "<init>", "()V"⟩
abbrev cX1_tellAs : ByteArray := prog_3_method_2_code
def yX1_tellAs : MethodName := ⟨RX1, "tellAs", "(LElectingWind$Scene;)V"⟩
abbrev cX1_readCorner : ByteArray := prog_3_method_3_code
def yX1_readCorner : MethodName := ⟨RX1, "readCorner", "(LElectingWind$Script;)I"⟩
abbrev cX1_readRows : ByteArray := prog_3_method_4_code
def yX1_readRows : MethodName := ⟨RX1, "readRows", "(LElectingWind$Script;)I"⟩
abbrev cX1_addCell : ByteArray := prog_3_method_5_code
def yX1_addCell : MethodName := ⟨RX1, "addCell", "(I)V"⟩
abbrev cX1_readGusts : ByteArray := prog_3_method_6_code
def yX1_readGusts : MethodName := ⟨RX1, "readGusts", "(LElectingWind$Script;)I"⟩
abbrev cX1_readCandidates : ByteArray := prog_3_method_7_code
def yX1_readCandidates : MethodName := ⟨RX1, "readCandidates", "(LElectingWind$Script;)I"⟩
abbrev cX1_readOfCandidate : ByteArray := prog_3_method_8_code
def yX1_readOfCandidate : MethodName := ⟨RX1, "readOfCandidate", "(III)Z"⟩
abbrev cX1_figureOf : ByteArray := prog_3_method_9_code
def yX1_figureOf : MethodName := ⟨RX1, "figureOf", "(III)I"⟩
abbrev cX1_wayOf : ByteArray := prog_3_method_10_code
def yX1_wayOf : MethodName := ⟨RX1, "wayOf", "(I)I"⟩
abbrev cX1_holdOf : ByteArray := prog_3_method_11_code
def yX1_holdOf : MethodName := ⟨RX1, "holdOf", "(I)I"⟩
abbrev cX1_isCell : ByteArray := prog_3_method_12_code
def yX1_isCell : MethodName := ⟨RX1, "isCell", "(I)Z"⟩
abbrev cX1_isWall : ByteArray := prog_3_method_13_code
def yX1_isWall : MethodName := ⟨RX1, "isWall", "(I)Z"⟩
abbrev cX1_beside : ByteArray := prog_3_method_14_code
def yX1_beside : MethodName := ⟨RX1, "beside", "(II)I"⟩
abbrev cX1_survey : ByteArray := prog_3_method_15_code
def yX1_survey : MethodName := ⟨RX1, "survey", "()V"⟩
abbrev cX1_layOf : ByteArray := prog_3_method_16_code
def yX1_layOf : MethodName := ⟨RX1, "layOf", "(II)I"⟩
def RX2 : String := "ElectingWind$Script"
def TX2 : u_T := fun k => match k with
  | 0 => ("ElectingWind$Script", "bytes", "[I", true)
  | 1 => ("ElectingWind$Script", "most", "I", true)
  | _ => ("ElectingWind$Script", "length", "I", false)
def tyX2 : Nat → FieldType := fun k => match k with
  | 0 => .array .int
  | 1 => .int
  | _ => .int
abbrev wsX20 : List Cond := u_ws RX2 TX2 3
theorem nmX2 : ∀ a, a < 3 → ∀ b, b < 3 → a ≠ b → (TX2 a).2.1 ≠ (TX2 b).2.1 := by decide +kernel
theorem tyX2_ok : ∀ k, k < 3 → parseFieldDescriptor (TX2 k).2.2.1 = some (tyX2 k) := by decide +kernel
abbrev cX2_init : ByteArray := prog_4_method_1_code
def yX2_init : MethodName := ⟨RX2, "<init>", "(I)V"⟩
abbrev cX2_isFull : ByteArray := prog_4_method_2_code
def yX2_isFull : MethodName := ⟨RX2, "isFull", "()Z"⟩
abbrev cX2_length : ByteArray := prog_4_method_3_code
def yX2_length : MethodName := ⟨RX2, "length", "()I"⟩
abbrev cX2_at : ByteArray := prog_4_method_4_code
def yX2_at : MethodName := ⟨RX2, "at", "(I)I"⟩
abbrev cX2_append : ByteArray := prog_4_method_5_code
def yX2_append : MethodName := ⟨RX2, "append", "(I)V"⟩
abbrev cX2_shorten : ByteArray := prog_4_method_6_code
def yX2_shorten : MethodName := ⟨RX2, "shorten", "(I)V"⟩
def RX3 : String := "ElectingWind$Sheet"
def TX3 : u_T := fun k => match k with
  | 0 => ("ElectingWind$Sheet", "form", "I", false)
  | 1 => ("ElectingWind$Sheet", "size", "I", false)
  | _ => ("ElectingWind$Sheet", "items", "[I", true)
def tyX3 : Nat → FieldType := fun k => match k with
  | 0 => .int
  | 1 => .int
  | _ => .array .int
abbrev wsX30 : List Cond := u_ws RX3 TX3 3
theorem nmX3 : ∀ a, a < 3 → ∀ b, b < 3 → a ≠ b → (TX3 a).2.1 ≠ (TX3 b).2.1 := by decide +kernel
theorem tyX3_ok : ∀ k, k < 3 → parseFieldDescriptor (TX3 k).2.2.1 = some (tyX3 k) := by decide +kernel
abbrev cX3_init : ByteArray := prog_5_method_1_code
def yX3_init : MethodName := ⟨RX3, "<init>", "()V"⟩
abbrev cX3_isLost : ByteArray := prog_5_method_2_code
def yX3_isLost : MethodName := ⟨RX3, "isLost", "()Z"⟩
abbrev cX3_renew : ByteArray := prog_5_method_3_code
def yX3_renew : MethodName := ⟨RX3, "renew", "(II)V"⟩
abbrev cX3_discard : ByteArray := prog_5_method_4_code
def yX3_discard : MethodName := ⟨RX3, "discard", "()V"⟩
abbrev cX3_hindrance : ByteArray := prog_5_method_5_code
def yX3_hindrance : MethodName := ⟨RX3, "hindrance", "(II)I"⟩
abbrev cX3_hasItems : ByteArray := prog_5_method_6_code
def yX3_hasItems : MethodName := ⟨RX3, "hasItems", "(II)Z"⟩
abbrev cX3_item : ByteArray := prog_5_method_7_code
def yX3_item : MethodName := ⟨RX3, "item", "(I)I"⟩
abbrev cX3_setItem : ByteArray := prog_5_method_8_code
def yX3_setItem : MethodName := ⟨RX3, "setItem", "(II)V"⟩
def RX4 : String := "ElectingWind$Sightings"
def TX4 : u_T := fun k => match k with
  | 0 => ("ElectingWind$Sightings", "many", "I", false)
  | 1 => ("ElectingWind$Sightings", "minutes", "[I", true)
  | _ => ("ElectingWind$Sightings", "who", "[I", true)
def tyX4 : Nat → FieldType := fun k => match k with
  | 0 => .int
  | 1 => .array .int
  | _ => .array .int
abbrev wsX40 : List Cond := u_ws RX4 TX4 3
theorem nmX4 : ∀ a, a < 3 → ∀ b, b < 3 → a ≠ b → (TX4 a).2.1 ≠ (TX4 b).2.1 := by decide +kernel
theorem tyX4_ok : ∀ k, k < 3 → parseFieldDescriptor (TX4 k).2.2.1 = some (tyX4 k) := by decide +kernel
abbrev cX4_init : ByteArray := prog_6_method_1_code
def yX4_init : MethodName := ⟨RX4, "<init>", "()V"⟩
abbrev cX4_isSighting : ByteArray := prog_6_method_2_code
def yX4_isSighting : MethodName := ⟨RX4, "isSighting", "(II)Z"⟩
abbrev cX4_isFull : ByteArray := prog_6_method_3_code
def yX4_isFull : MethodName := ⟨RX4, "isFull", "()Z"⟩
abbrev cX4_append : ByteArray := prog_6_method_4_code
def yX4_append : MethodName := ⟨RX4, "append", "(II)V"⟩
abbrev cX4_comeOutSo : ByteArray := prog_6_method_5_code
def yX4_comeOutSo : MethodName := ⟨RX4, "comeOutSo", "(LElectingWind$Course;)Z"⟩
def RX5 : String := "ElectingWind"
def TX5 : u_T := fun k => match k with
  | 0 => ("ElectingWind", "texts", "[LElectingWind$Script;", true)
  | 1 => ("ElectingWind", "faults", "[I", true)
  | 2 => ("ElectingWind", "told", "LElectingWind$Course;", true)
  | 3 => ("ElectingWind", "trial", "LElectingWind$Course;", true)
  | 4 => ("ElectingWind", "sightings", "LElectingWind$Sightings;", true)
  | 5 => ("ElectingWind", "sheets", "[LElectingWind$Sheet;", true)
  | 6 => ("ElectingWind", "latestFinding", "I", false)
  | 7 => ("ElectingWind", "inquiredMinute", "I", false)
  | 8 => ("ElectingWind", "mayHaveBlown", "J", false)
  | 9 => ("ElectingWind", "tallies", "[I", true)
  | 10 => ("ElectingWind", "weighedCalm", "I", false)
  | 11 => ("ElectingWind", "chances", "[J", true)
  | _ => ("ElectingWind", "weights", "[J", true)
def tyX5 : Nat → FieldType := fun k => match k with
  | 0 => .array (.object "ElectingWind$Script")
  | 1 => .array .int
  | 2 => .object "ElectingWind$Course"
  | 3 => .object "ElectingWind$Course"
  | 4 => .object "ElectingWind$Sightings"
  | 5 => .array (.object "ElectingWind$Sheet")
  | 6 => .int
  | 7 => .int
  | 8 => .long
  | 9 => .array .int
  | 10 => .int
  | 11 => .array .long
  | _ => .array .long
abbrev wsX50 : List Cond := u_ws RX5 TX5 13
theorem nmX5 : ∀ a, a < 13 → ∀ b, b < 13 → a ≠ b → (TX5 a).2.1 ≠ (TX5 b).2.1 := by decide +kernel
theorem tyX5_ok : ∀ k, k < 13 → parseFieldDescriptor (TX5 k).2.2.1 = some (tyX5 k) := by decide +kernel
abbrev cX5_init : ByteArray := prog_1_method_1_code
def yX5_init : MethodName := ⟨RX5, "<init>", "()V"⟩
abbrev cX5_type : ByteArray := prog_1_method_2_code
def yX5_type : MethodName := ⟨RX5, "type", "(II)I"⟩
abbrev cX5_wipe : ByteArray := prog_1_method_3_code
def yX5_wipe : MethodName := ⟨RX5, "wipe", "(I)I"⟩
abbrev cX5_undo : ByteArray := prog_1_method_4_code
def yX5_undo : MethodName := ⟨RX5, "undo", "(I)I"⟩
abbrev cX5_fault : ByteArray := prog_1_method_5_code
def yX5_fault : MethodName := ⟨RX5, "fault", "(I)I"⟩
abbrev cX5_cell : ByteArray := prog_1_method_6_code
def yX5_cell : MethodName := ⟨RX5, "cell", "(I)I"⟩
abbrev cX5_gust : ByteArray := prog_1_method_7_code
def yX5_gust : MethodName := ⟨RX5, "gust", "(II)I"⟩
abbrev cX5_candidate : ByteArray := prog_1_method_8_code
def yX5_candidate : MethodName := ⟨RX5, "candidate", "(II)I"⟩
abbrev cX5_wind : ByteArray := prog_1_method_9_code
def yX5_wind : MethodName := ⟨RX5, "wind", "(II)I"⟩
abbrev cX5_ribs : ByteArray := prog_1_method_10_code
def yX5_ribs : MethodName := ⟨RX5, "ribs", "(II)I"⟩
abbrev cX5_overturns : ByteArray := prog_1_method_11_code
def yX5_overturns : MethodName := ⟨RX5, "overturns", "(II)I"⟩
abbrev cX5_in : ByteArray := prog_1_method_12_code
def yX5_in : MethodName := ⟨RX5, "in", "(I)I"⟩
abbrev cX5_first : ByteArray := prog_1_method_13_code
def yX5_first : MethodName := ⟨RX5, "first", "(I)I"⟩
abbrev cX5_lulls : ByteArray := prog_1_method_14_code
def yX5_lulls : MethodName := ⟨RX5, "lulls", "()I"⟩
abbrev cX5_stand : ByteArray := prog_1_method_15_code
def yX5_stand : MethodName := ⟨RX5, "stand", "(II)I"⟩
abbrev cX5_shield : ByteArray := prog_1_method_16_code
def yX5_shield : MethodName := ⟨RX5, "shield", "(I)I"⟩
abbrev cX5_move : ByteArray := prog_1_method_17_code
def yX5_move : MethodName := ⟨RX5, "move", "(I)I"⟩
abbrev cX5_bribe : ByteArray := prog_1_method_18_code
def yX5_bribe : MethodName := ⟨RX5, "bribe", "(I)I"⟩
abbrev cX5_placeToShield : ByteArray := prog_1_method_19_code
def yX5_placeToShield : MethodName := ⟨RX5, "placeToShield", "(II)I"⟩
abbrev cX5_movesAnotherIn : ByteArray := prog_1_method_20_code
def yX5_movesAnotherIn : MethodName := ⟨RX5, "movesAnotherIn", "(II)Z"⟩
abbrev cX5_seen : ByteArray := prog_1_method_21_code
def yX5_seen : MethodName := ⟨RX5, "seen", "(II)I"⟩
abbrev cX5_forget : ByteArray := prog_1_method_22_code
def yX5_forget : MethodName := ⟨RX5, "forget", "()I"⟩
abbrev cX5_read : ByteArray := prog_1_method_23_code
def yX5_read : MethodName := ⟨RX5, "read", "(I)I"⟩
abbrev cX5_blew : ByteArray := prog_1_method_24_code
def yX5_blew : MethodName := ⟨RX5, "blew", "(II)I"⟩
abbrev cX5_had : ByteArray := prog_1_method_25_code
def yX5_had : MethodName := ⟨RX5, "had", "(I)I"⟩
abbrev cX5_ask : ByteArray := prog_1_method_26_code
def yX5_ask : MethodName := ⟨RX5, "ask", "(I)I"⟩
abbrev cX5_calm : ByteArray := prog_1_method_27_code
def yX5_calm : MethodName := ⟨RX5, "calm", "(III)J"⟩
abbrev cX5_weather : ByteArray := prog_1_method_28_code
def yX5_weather : MethodName := ⟨RX5, "weather", "(III)I"⟩
abbrev cX5_nextLots : ByteArray := prog_1_method_29_code
def yX5_nextLots : MethodName := ⟨RX5, "nextLots", "(I)I"⟩
abbrev cX5_inquire : ByteArray := prog_1_method_30_code
def yX5_inquire : MethodName := ⟨RX5, "inquire", "(I)V"⟩
abbrev cX5_tallyTrial : ByteArray := prog_1_method_31_code
def yX5_tallyTrial : MethodName := ⟨RX5, "tallyTrial", "()V"⟩
abbrev cX5_greatestTally : ByteArray := prog_1_method_32_code
def yX5_greatestTally : MethodName := ⟨RX5, "greatestTally", "(I)I"⟩
abbrev cX5_weighCalms : ByteArray := prog_1_method_33_code
def yX5_weighCalms : MethodName := ⟨RX5, "weighCalms", "(I)V"⟩
abbrev cX5_lowestBit : ByteArray := prog_1_method_34_code
def yX5_lowestBit : MethodName := ⟨RX5, "lowestBit", "(I)I"⟩
abbrev cX5_sheet : ByteArray := prog_1_method_35_code
def yX5_sheet : MethodName := ⟨RX5, "sheet", "(III)I"⟩
abbrev cX5_lose : ByteArray := prog_1_method_36_code
def yX5_lose : MethodName := ⟨RX5, "lose", "(I)I"⟩
abbrev cX5_put : ByteArray := prog_1_method_37_code
def yX5_put : MethodName := ⟨RX5, "put", "(IIII)I"⟩
abbrev cX5_get : ByteArray := prog_1_method_38_code
def yX5_get : MethodName := ⟨RX5, "get", "(III)I"⟩
abbrev cX5_copy : ByteArray := prog_1_method_39_code
def yX5_copy : MethodName := ⟨RX5, "copy", "(IIIII)I"⟩
abbrev cX5_write : ByteArray := prog_1_method_40_code
def yX5_write : MethodName := ⟨RX5, "write", "(II)I"⟩
abbrev cX5_count : ByteArray := prog_1_method_41_code
def yX5_count : MethodName := ⟨RX5, "count", "(I)I"⟩
abbrev cX5_digest : ByteArray := prog_1_method_42_code
def yX5_digest : MethodName := ⟨RX5, "digest", "()J"⟩
abbrev cX5_digestMinute : ByteArray := prog_1_method_43_code
def yX5_digestMinute : MethodName := ⟨RX5, "digestMinute", "(JI)J"⟩
abbrev cX5_digestCandidate : ByteArray := prog_1_method_44_code
def yX5_digestCandidate : MethodName := ⟨RX5, "digestCandidate", "(JI)J"⟩
abbrev cX5_isText : ByteArray := prog_1_method_45_code
def yX5_isText : MethodName := ⟨RX5, "isText", "(I)Z"⟩
abbrev cX5_isSheet : ByteArray := prog_1_method_46_code
def yX5_isSheet : MethodName := ⟨RX5, "isSheet", "(I)Z"⟩
abbrev cX5_isForm : ByteArray := prog_1_method_47_code
def yX5_isForm : MethodName := ⟨RX5, "isForm", "(I)Z"⟩
abbrev cX5_isMinute : ByteArray := prog_1_method_48_code
def yX5_isMinute : MethodName := ⟨RX5, "isMinute", "(I)Z"⟩
abbrev cX5_isCandidate : ByteArray := prog_1_method_49_code
def yX5_isCandidate : MethodName := ⟨RX5, "isCandidate", "(I)Z"⟩
abbrev cX5_finding : ByteArray := prog_1_method_50_code
def yX5_finding : MethodName := ⟨RX5, "finding", "(I)I"⟩
abbrev cX5_retell : ByteArray := prog_1_method_51_code
def yX5_retell : MethodName := ⟨RX5, "retell", "(I)V"⟩
def RX6 : String := "ElectingWindModel"
def TX6 : u_T := fun k => match k with
  | 0 => ("ElectingWindModel", "typed", "[I", true)
  | 1 => ("ElectingWindModel", "texts", "[I", true)
  | 2 => ("ElectingWindModel", "wide", "I", false)
  | 3 => ("ElectingWindModel", "cells", "I", false)
  | 4 => ("ElectingWindModel", "isWall", "[Z", true)
  | 5 => ("ElectingWindModel", "minutes", "I", false)
  | 6 => ("ElectingWindModel", "from", "[I", true)
  | 7 => ("ElectingWindModel", "force", "[I", true)
  | 8 => ("ElectingWindModel", "candidates", "I", false)
  | 9 => ("ElectingWindModel", "stands", "[I", true)
  | 10 => ("ElectingWindModel", "ribsTold", "[I", true)
  | 11 => ("ElectingWindModel", "held", "[I", true)
  | 12 => ("ElectingWindModel", "ribsAt", "[I", true)
  | 13 => ("ElectingWindModel", "turnAt", "[I", true)
  | 14 => ("ElectingWindModel", "isReturned", "[Z", true)
  | 15 => ("ElectingWindModel", "isElected", "[Z", true)
  | 16 => ("ElectingWindModel", "inAt", "[I", true)
  | 17 => ("ElectingWindModel", "seens", "I", false)
  | 18 => ("ElectingWindModel", "seenMinute", "[I", true)
  | 19 => ("ElectingWindModel", "seenWho", "[I", true)
  | 20 => ("ElectingWindModel", "mayBlow", "[Z", true)
  | 21 => ("ElectingWindModel", "inBy", "[I", true)
  | 22 => ("ElectingWindModel", "forceTold", "[I", true)
  | 23 => ("ElectingWindModel", "isThere", "[Z", true)
  | 24 => ("ElectingWindModel", "forms", "[I", true)
  | 25 => ("ElectingWindModel", "sizes", "[I", true)
  | 26 => ("ElectingWindModel", "items", "[I", true)
  | 27 => ("ElectingWindModel", "moved", "[I", true)
  | _ => ("ElectingWindModel", "finding", "I", false)
def tyX6 : Nat → FieldType := fun k => match k with
  | 0 => .array .int
  | 1 => .array .int
  | 2 => .int
  | 3 => .int
  | 4 => .array .boolean
  | 5 => .int
  | 6 => .array .int
  | 7 => .array .int
  | 8 => .int
  | 9 => .array .int
  | 10 => .array .int
  | 11 => .array .int
  | 12 => .array .int
  | 13 => .array .int
  | 14 => .array .boolean
  | 15 => .array .boolean
  | 16 => .array .int
  | 17 => .int
  | 18 => .array .int
  | 19 => .array .int
  | 20 => .array .boolean
  | 21 => .array .int
  | 22 => .array .int
  | 23 => .array .boolean
  | 24 => .array .int
  | 25 => .array .int
  | 26 => .array .int
  | 27 => .array .int
  | _ => .int
abbrev wsX60 : List Cond := u_ws RX6 TX6 29
theorem nmX6 : ∀ a, a < 29 → ∀ b, b < 29 → a ≠ b → (TX6 a).2.1 ≠ (TX6 b).2.1 := by decide +kernel
theorem tyX6_ok : ∀ k, k < 29 → parseFieldDescriptor (TX6 k).2.2.1 = some (tyX6 k) := by decide +kernel
abbrev cX6_init : ByteArray := prog_8_method_1_code
def yX6_init : MethodName := ⟨RX6, "<init>", "()V"⟩
abbrev cX6_within : ByteArray := prog_8_method_3_code
def yX6_within : MethodName := ⟨RX6, "within", "(III)Z"⟩
abbrev cX6_isIn : ByteArray := prog_8_method_4_code
def yX6_isIn : MethodName := ⟨RX6, "isIn", "(II)Z"⟩
abbrev cX6_no : ByteArray := prog_8_method_5_code
def yX6_no : MethodName := ⟨RX6, "no", "(I)J"⟩
abbrev cX6_lowest : ByteArray := prog_8_method_6_code
def yX6_lowest : MethodName := ⟨RX6, "lowest", "(JJI)J"⟩
abbrev cX6_isText : ByteArray := prog_8_method_7_code
def yX6_isText : MethodName := ⟨RX6, "isText", "(I)Z"⟩
abbrev cX6_type : ByteArray := prog_8_method_8_code
def yX6_type : MethodName := ⟨RX6, "type", "(II)I"⟩
abbrev cX6_wipe : ByteArray := prog_8_method_9_code
def yX6_wipe : MethodName := ⟨RX6, "wipe", "(I)I"⟩
abbrev cX6_undo : ByteArray := prog_8_method_10_code
def yX6_undo : MethodName := ⟨RX6, "undo", "(I)I"⟩
abbrev cX6_byteAt : ByteArray := prog_8_method_11_code
def yX6_byteAt : MethodName := ⟨RX6, "byteAt", "(II)I"⟩
abbrev cX6_figureAt : ByteArray := prog_8_method_12_code
def yX6_figureAt : MethodName := ⟨RX6, "figureAt", "(IIII)I"⟩
abbrev cX6_readsCorner : ByteArray := prog_8_method_13_code
def yX6_readsCorner : MethodName := ⟨RX6, "readsCorner", "()I"⟩
abbrev cX6_wayOf : ByteArray := prog_8_method_14_code
def yX6_wayOf : MethodName := ⟨RX6, "wayOf", "(I)I"⟩
abbrev cX6_readsGusts : ByteArray := prog_8_method_15_code
def yX6_readsGusts : MethodName := ⟨RX6, "readsGusts", "()I"⟩
abbrev cX6_readsCandidate : ByteArray := prog_8_method_16_code
def yX6_readsCandidate : MethodName := ⟨RX6, "readsCandidate", "(II)I"⟩
abbrev cX6_readsCandidates : ByteArray := prog_8_method_17_code
def yX6_readsCandidates : MethodName := ⟨RX6, "readsCandidates", "()I"⟩
abbrev cX6_faultOf : ByteArray := prog_8_method_18_code
def yX6_faultOf : MethodName := ⟨RX6, "faultOf", "(I)I"⟩
abbrev cX6_reads : ByteArray := prog_8_method_19_code
def yX6_reads : MethodName := ⟨RX6, "reads", "()V"⟩
abbrev cX6_fault : ByteArray := prog_8_method_20_code
def yX6_fault : MethodName := ⟨RX6, "fault", "(I)I"⟩
abbrev cX6_isMinute : ByteArray := prog_8_method_21_code
def yX6_isMinute : MethodName := ⟨RX6, "isMinute", "(I)Z"⟩
abbrev cX6_isCell : ByteArray := prog_8_method_22_code
def yX6_isCell : MethodName := ⟨RX6, "isCell", "(I)Z"⟩
abbrev cX6_isCandidate : ByteArray := prog_8_method_23_code
def yX6_isCandidate : MethodName := ⟨RX6, "isCandidate", "(I)Z"⟩
abbrev cX6_cell : ByteArray := prog_8_method_24_code
def yX6_cell : MethodName := ⟨RX6, "cell", "(I)I"⟩
abbrev cX6_gust : ByteArray := prog_8_method_25_code
def yX6_gust : MethodName := ⟨RX6, "gust", "(II)I"⟩
abbrev cX6_isSomewhere : ByteArray := prog_8_method_26_code
def yX6_isSomewhere : MethodName := ⟨RX6, "isSomewhere", "(I)Z"⟩
abbrev cX6_candidateOf : ByteArray := prog_8_method_27_code
def yX6_candidateOf : MethodName := ⟨RX6, "candidateOf", "(II)I"⟩
abbrev cX6_candidate : ByteArray := prog_8_method_28_code
def yX6_candidate : MethodName := ⟨RX6, "candidate", "(II)I"⟩
abbrev cX6_beside : ByteArray := prog_8_method_29_code
def yX6_beside : MethodName := ⟨RX6, "beside", "(II)I"⟩
abbrev cX6_isWallAt : ByteArray := prog_8_method_30_code
def yX6_isWallAt : MethodName := ⟨RX6, "isWallAt", "(I)Z"⟩
abbrev cX6_isLee : ByteArray := prog_8_method_31_code
def yX6_isLee : MethodName := ⟨RX6, "isLee", "(II)Z"⟩
abbrev cX6_windNow : ByteArray := prog_8_method_32_code
def yX6_windNow : MethodName := ⟨RX6, "windNow", "(II)I"⟩
abbrev cX6_strain : ByteArray := prog_8_method_33_code
def yX6_strain : MethodName := ⟨RX6, "strain", "(II)I"⟩
abbrev cX6_elects : ByteArray := prog_8_method_34_code
def yX6_elects : MethodName := ⟨RX6, "elects", "(I)V"⟩
abbrev cX6_goesBy : ByteArray := prog_8_method_35_code
def yX6_goesBy : MethodName := ⟨RX6, "goesBy", "(I)V"⟩
abbrev cX6_runs : ByteArray := prog_8_method_36_code
def yX6_runs : MethodName := ⟨RX6, "runs", "()V"⟩
abbrev cX6_runsTold : ByteArray := prog_8_method_37_code
def yX6_runsTold : MethodName := ⟨RX6, "runsTold", "()V"⟩
abbrev cX6_windOf : ByteArray := prog_8_method_38_code
def yX6_windOf : MethodName := ⟨RX6, "windOf", "(II)I"⟩
abbrev cX6_wind : ByteArray := prog_8_method_39_code
def yX6_wind : MethodName := ⟨RX6, "wind", "(II)I"⟩
abbrev cX6_ribsOf : ByteArray := prog_8_method_40_code
def yX6_ribsOf : MethodName := ⟨RX6, "ribsOf", "(II)I"⟩
abbrev cX6_ribs : ByteArray := prog_8_method_41_code
def yX6_ribs : MethodName := ⟨RX6, "ribs", "(II)I"⟩
abbrev cX6_turnsOf : ByteArray := prog_8_method_42_code
def yX6_turnsOf : MethodName := ⟨RX6, "turnsOf", "(II)I"⟩
abbrev cX6_overturns : ByteArray := prog_8_method_43_code
def yX6_overturns : MethodName := ⟨RX6, "overturns", "(II)I"⟩
abbrev cX6_inOf : ByteArray := prog_8_method_44_code
def yX6_inOf : MethodName := ⟨RX6, "inOf", "(I)I"⟩
abbrev cX6_in : ByteArray := prog_8_method_45_code
def yX6_in : MethodName := ⟨RX6, "in", "(I)I"⟩
abbrev cX6_firstOf : ByteArray := prog_8_method_46_code
def yX6_firstOf : MethodName := ⟨RX6, "firstOf", "(I)I"⟩
abbrev cX6_first : ByteArray := prog_8_method_47_code
def yX6_first : MethodName := ⟨RX6, "first", "(I)I"⟩
abbrev cX6_lullsNow : ByteArray := prog_8_method_48_code
def yX6_lullsNow : MethodName := ⟨RX6, "lullsNow", "()I"⟩
abbrev cX6_lulls : ByteArray := prog_8_method_49_code
def yX6_lulls : MethodName := ⟨RX6, "lulls", "()I"⟩
abbrev cX6_isTaken : ByteArray := prog_8_method_50_code
def yX6_isTaken : MethodName := ⟨RX6, "isTaken", "(II)Z"⟩
abbrev cX6_standOf : ByteArray := prog_8_method_51_code
def yX6_standOf : MethodName := ⟨RX6, "standOf", "(II)I"⟩
abbrev cX6_stand : ByteArray := prog_8_method_52_code
def yX6_stand : MethodName := ⟨RX6, "stand", "(II)I"⟩
abbrev cX6_doesStay : ByteArray := prog_8_method_53_code
def yX6_doesStay : MethodName := ⟨RX6, "doesStay", "(III)Z"⟩
abbrev cX6_shieldOf : ByteArray := prog_8_method_54_code
def yX6_shieldOf : MethodName := ⟨RX6, "shieldOf", "(I)I"⟩
abbrev cX6_shield : ByteArray := prog_8_method_55_code
def yX6_shield : MethodName := ⟨RX6, "shield", "(I)I"⟩
abbrev cX6_lastIn : ByteArray := prog_8_method_56_code
def yX6_lastIn : MethodName := ⟨RX6, "lastIn", "()I"⟩
abbrev cX6_moveOf : ByteArray := prog_8_method_57_code
def yX6_moveOf : MethodName := ⟨RX6, "moveOf", "(I)I"⟩
abbrev cX6_move : ByteArray := prog_8_method_58_code
def yX6_move : MethodName := ⟨RX6, "move", "(I)I"⟩
abbrev cX6_bribeOf : ByteArray := prog_8_method_59_code
def yX6_bribeOf : MethodName := ⟨RX6, "bribeOf", "(I)I"⟩
abbrev cX6_bribe : ByteArray := prog_8_method_60_code
def yX6_bribe : MethodName := ⟨RX6, "bribe", "(I)I"⟩
abbrev cX6_seen : ByteArray := prog_8_method_61_code
def yX6_seen : MethodName := ⟨RX6, "seen", "(II)I"⟩
abbrev cX6_forget : ByteArray := prog_8_method_62_code
def yX6_forget : MethodName := ⟨RX6, "forget", "()I"⟩
abbrev cX6_read : ByteArray := prog_8_method_63_code
def yX6_read : MethodName := ⟨RX6, "read", "(I)I"⟩
abbrev cX6_isSeen : ByteArray := prog_8_method_64_code
def yX6_isSeen : MethodName := ⟨RX6, "isSeen", "()Z"⟩
abbrev cX6_blows : ByteArray := prog_8_method_65_code
def yX6_blows : MethodName := ⟨RX6, "blows", "(I)I"⟩
abbrev cX6_blewOf : ByteArray := prog_8_method_66_code
def yX6_blewOf : MethodName := ⟨RX6, "blewOf", "(II)I"⟩
abbrev cX6_blew : ByteArray := prog_8_method_67_code
def yX6_blew : MethodName := ⟨RX6, "blew", "(II)I"⟩
abbrev cX6_hadOf : ByteArray := prog_8_method_68_code
def yX6_hadOf : MethodName := ⟨RX6, "hadOf", "(I)I"⟩
abbrev cX6_had : ByteArray := prog_8_method_69_code
def yX6_had : MethodName := ⟨RX6, "had", "(I)I"⟩
abbrev cX6_askOf : ByteArray := prog_8_method_70_code
def yX6_askOf : MethodName := ⟨RX6, "askOf", "(I)I"⟩
abbrev cX6_ask : ByteArray := prog_8_method_71_code
def yX6_ask : MethodName := ⟨RX6, "ask", "(I)I"⟩
abbrev cX6_calmOf : ByteArray := prog_8_method_72_code
def yX6_calmOf : MethodName := ⟨RX6, "calmOf", "(III)J"⟩
abbrev cX6_calm : ByteArray := prog_8_method_73_code
def yX6_calm : MethodName := ⟨RX6, "calm", "(III)J"⟩
abbrev cX6_turnedNow : ByteArray := prog_8_method_74_code
def yX6_turnedNow : MethodName := ⟨RX6, "turnedNow", "()I"⟩
abbrev cX6_weatherOf : ByteArray := prog_8_method_75_code
def yX6_weatherOf : MethodName := ⟨RX6, "weatherOf", "(III)I"⟩
abbrev cX6_weather : ByteArray := prog_8_method_76_code
def yX6_weather : MethodName := ⟨RX6, "weather", "(III)I"⟩
abbrev cX6_meets : ByteArray := prog_8_method_77_code
def yX6_meets : MethodName := ⟨RX6, "meets", "(I)I"⟩
abbrev cX6_isSheet : ByteArray := prog_8_method_78_code
def yX6_isSheet : MethodName := ⟨RX6, "isSheet", "(I)Z"⟩
abbrev cX6_sheet : ByteArray := prog_8_method_79_code
def yX6_sheet : MethodName := ⟨RX6, "sheet", "(III)I"⟩
abbrev cX6_lose : ByteArray := prog_8_method_80_code
def yX6_lose : MethodName := ⟨RX6, "lose", "(I)I"⟩
abbrev cX6_lacks : ByteArray := prog_8_method_81_code
def yX6_lacks : MethodName := ⟨RX6, "lacks", "(III)I"⟩
abbrev cX6_keep : ByteArray := prog_8_method_82_code
def yX6_keep : MethodName := ⟨RX6, "keep", "(III)V"⟩
abbrev cX6_put : ByteArray := prog_8_method_83_code
def yX6_put : MethodName := ⟨RX6, "put", "(IIII)I"⟩
abbrev cX6_get : ByteArray := prog_8_method_84_code
def yX6_get : MethodName := ⟨RX6, "get", "(III)I"⟩
abbrev cX6_copy : ByteArray := prog_8_method_85_code
def yX6_copy : MethodName := ⟨RX6, "copy", "(IIIII)I"⟩
abbrev cX6_write : ByteArray := prog_8_method_86_code
def yX6_write : MethodName := ⟨RX6, "write", "(II)I"⟩
abbrev cX6_sumOf : ByteArray := prog_8_method_87_code
def yX6_sumOf : MethodName := ⟨RX6, "sumOf", "(I)I"⟩
abbrev cX6_count : ByteArray := prog_8_method_88_code
def yX6_count : MethodName := ⟨RX6, "count", "(I)I"⟩
abbrev cX6_minuteDigest : ByteArray := prog_8_method_89_code
def yX6_minuteDigest : MethodName := ⟨RX6, "minuteDigest", "(JI)J"⟩
abbrev cX6_candidateDigest : ByteArray := prog_8_method_90_code
def yX6_candidateDigest : MethodName := ⟨RX6, "candidateDigest", "(JI)J"⟩
abbrev cX6_digest : ByteArray := prog_8_method_91_code
def yX6_digest : MethodName := ⟨RX6, "digest", "()J"⟩
def RJ6 : String := "java/lang/Integer"
def TJ6 : u_T := fun k => match k with
  | _ => ("", "", "", false)
def tyJ6 : Nat → FieldType := fun k => match k with
  | _ => .int
abbrev wsJ60 : List Cond := u_ws RJ6 TJ6 0
theorem nmJ6 : ∀ a, a < 0 → ∀ b, b < 0 → a ≠ b → (TJ6 a).2.1 ≠ (TJ6 b).2.1 := by decide +kernel
theorem tyJ6_ok : ∀ k, k < 0 → parseFieldDescriptor (TJ6 k).2.2.1 = some (tyJ6 k) := by decide +kernel
abbrev cJ6_bitCount_0f7a4 : ByteArray := prog_9_method_49_code
def yJ6_bitCount_0f7a4 : MethodName := ⟨RJ6, "bitCount", "(I)I"⟩
def RJ9 : String := "java/lang/Math"
def TJ9 : u_T := fun k => match k with
  | _ => ("", "", "", false)
def tyJ9 : Nat → FieldType := fun k => match k with
  | _ => .int
abbrev wsJ90 : List Cond := u_ws RJ9 TJ9 0
theorem nmJ9 : ∀ a, a < 0 → ∀ b, b < 0 → a ≠ b → (TJ9 a).2.1 ≠ (TJ9 b).2.1 := by decide +kernel
theorem tyJ9_ok : ∀ k, k < 0 → parseFieldDescriptor (TJ9 k).2.2.1 = some (tyJ9 k) := by decide +kernel
abbrev cJ9_max_7cf53 : ByteArray := prog_10_method_65_code
def yJ9_max_7cf53 : MethodName := ⟨RJ9, "max", "(II)I"⟩
abbrev cJ9_min_7cf53 : ByteArray := prog_10_method_69_code
def yJ9_min_7cf53 : MethodName := ⟨RJ9, "min", "(II)I"⟩
def RJ10 : String := "java/lang/System"
def TJ10 : u_T := fun k => match k with
  | _ => ("", "", "", false)
def tyJ10 : Nat → FieldType := fun k => match k with
  | _ => .int
abbrev wsJ100 : List Cond := u_ws RJ10 TJ10 0
theorem nmJ10 : ∀ a, a < 0 → ∀ b, b < 0 → a ≠ b → (TJ10 a).2.1 ≠ (TJ10 b).2.1 := by decide +kernel
theorem tyJ10_ok : ∀ k, k < 0 → parseFieldDescriptor (TJ10 k).2.2.1 = some (tyJ10 k) := by decide +kernel
def RJ7 : String := "java/util/Arrays"
def TJ7 : u_T := fun k => match k with
  | _ => ("", "", "", false)
def tyJ7 : Nat → FieldType := fun k => match k with
  | _ => .int
abbrev wsJ70 : List Cond := u_ws RJ7 TJ7 0
theorem nmJ7 : ∀ a, a < 0 → ∀ b, b < 0 → a ≠ b → (TJ7 a).2.1 ≠ (TJ7 b).2.1 := by decide +kernel
theorem tyJ7_ok : ∀ k, k < 0 → parseFieldDescriptor (TJ7 k).2.2.1 = some (tyJ7 k) := by decide +kernel
abbrev cJ7_fill_d0a16 : ByteArray := prog_12_method_101_code
def yJ7_fill_d0a16 : MethodName := ⟨RJ7, "fill", "([JJ)V"⟩
abbrev cJ7_fill_53178 : ByteArray := prog_12_method_103_code
def yJ7_fill_53178 : MethodName := ⟨RJ7, "fill", "([II)V"⟩
def RL : String := "ElectingWindLaw"
abbrev cL_law : ByteArray := code
def yL_law : MethodName := ⟨RL, "law", "([I)Z"⟩
def wsL_law_r1 : List Cond := [Cond.classLink RL 7 RX5, Cond.instantiable RX5 13, Cond.initialized RX5, Cond.classLink RL 10 RX6, Cond.instantiable RX6 29, Cond.initialized RX6, Cond.methodLink RL 9 yX5_init, Cond.instanceMethod yX5_init, Cond.code yX5_init cX5_init 2 none, Cond.methodLink RX5 1 objectInit, Cond.instanceMethod objectInit, Cond.code objectInit ⟨#[0xb1]⟩ 1 none, Cond.classLink RX5 9 RX2, Cond.fieldLink RX5 11 "ElectingWind" "texts" "[LElectingWind$Script;", Cond.arrayClass .int, Cond.fieldLink RX5 15 "ElectingWind" "faults" "[I", Cond.classLink RX5 19 RX0, Cond.instantiable RX0 8, Cond.initialized RX0, Cond.fieldLink RX5 22 "ElectingWind" "told" "LElectingWind$Course;", Cond.fieldLink RX5 26 "ElectingWind" "trial" "LElectingWind$Course;", Cond.classLink RX5 29 RX4, Cond.instantiable RX4 3, Cond.initialized RX4]
def wsL_law_r2 : List Cond := [Cond.fieldLink RX5 32 "ElectingWind" "sightings" "LElectingWind$Sightings;", Cond.classLink RX5 36 RX3, Cond.fieldLink RX5 38 "ElectingWind" "sheets" "[LElectingWind$Sheet;", Cond.fieldLink RX5 42 "ElectingWind" "latestFinding" "I", Cond.fieldLink RX5 46 "ElectingWind" "inquiredMinute" "I", Cond.fieldLink RX5 49 "ElectingWind" "mayHaveBlown" "J", Cond.fieldLink RX5 53 "ElectingWind" "tallies" "[I", Cond.fieldLink RX5 56 "ElectingWind" "weighedCalm" "I", Cond.arrayClass .long, Cond.fieldLink RX5 59 "ElectingWind" "chances" "[J", Cond.fieldLink RX5 63 "ElectingWind" "weights" "[J", Cond.instantiable RX2 3, Cond.initialized RX2, Cond.instantiable RX3 3, Cond.initialized RX3, Cond.instanceMethod yX0_init, Cond.code yX0_init cX0_init 1 none, Cond.methodLink RX0 3 objectInit, Cond.classLink RX0 9 RX1, Cond.instantiable RX1 12, Cond.initialized RX1, Cond.fieldLink RX0 12 "ElectingWind$Course" "scene" "LElectingWind$Scene;", Cond.fieldLink RX0 18 "ElectingWind$Course" "somewhere" "I", Cond.fieldLink RX0 22 "ElectingWind$Course" "standing" "[I"]
def wsL_law_r3 : List Cond := [Cond.fieldLink RX0 26 "ElectingWind$Course" "turned" "[I", Cond.fieldLink RX0 29 "ElectingWind$Course" "ribs" "[I", Cond.fieldLink RX0 32 "ElectingWind$Course" "returned" "[I", Cond.fieldLink RX0 35 "ElectingWind$Course" "elected" "[I", Cond.fieldLink RX0 38 "ElectingWind$Course" "in" "[I", Cond.instanceMethod yX1_init, Cond.code yX1_init cX1_init 1 none, Cond.methodLink RX1 3 objectInit, Cond.fieldLink RX1 9 "ElectingWind$Scene" "columns" "I", Cond.fieldLink RX1 15 "ElectingWind$Scene" "cells" "I", Cond.fieldLink RX1 18 "ElectingWind$Scene" "minutes" "I", Cond.fieldLink RX1 21 "ElectingWind$Scene" "candidates" "I", Cond.fieldLink RX1 24 "ElectingWind$Scene" "wall" "[I", Cond.fieldLink RX1 28 "ElectingWind$Scene" "lee" "[I", Cond.fieldLink RX1 31 "ElectingWind$Scene" "lay" "[I", Cond.fieldLink RX1 34 "ElectingWind$Scene" "from" "[I", Cond.fieldLink RX1 37 "ElectingWind$Scene" "force" "[I", Cond.fieldLink RX1 40 "ElectingWind$Scene" "at" "[I", Cond.fieldLink RX1 43 "ElectingWind$Scene" "ribs" "[I", Cond.fieldLink RX1 46 "ElectingWind$Scene" "held" "[I", Cond.instanceMethod yX4_init, Cond.code yX4_init cX4_init 1 none, Cond.methodLink RX4 3 objectInit, Cond.fieldLink RX4 9 "ElectingWind$Sightings" "many" "I"]
def wsL_law_r4 : List Cond := [Cond.fieldLink RX4 15 "ElectingWind$Sightings" "minutes" "[I", Cond.fieldLink RX4 19 "ElectingWind$Sightings" "who" "[I", Cond.methodLink RX5 66 yX2_init, Cond.instanceMethod yX2_init, Cond.code yX2_init cX2_init 2 none, Cond.methodLink RX2 3 objectInit, Cond.fieldLink RX2 9 "ElectingWind$Script" "bytes" "[I", Cond.fieldLink RX2 15 "ElectingWind$Script" "length" "I", Cond.methodLink RX2 19 Lib.Math.min.name, Cond.static Lib.Math.min.name, Cond.initialized "java/lang/Math", Cond.code Lib.Math.min.name Lib.Math.min.code 2 (some .int), Cond.fieldLink RX2 25 "ElectingWind$Script" "most" "I", Cond.instanceMethod yX3_init, Cond.code yX3_init cX3_init 1 none, Cond.methodLink RX3 3 objectInit, Cond.fieldLink RX3 9 "ElectingWind$Sheet" "form" "I", Cond.fieldLink RX3 15 "ElectingWind$Sheet" "size" "I", Cond.fieldLink RX3 18 "ElectingWind$Sheet" "items" "[I", Cond.methodLink RL 12 yX6_init, Cond.instanceMethod yX6_init, Cond.code yX6_init cX6_init 1 none, Cond.methodLink RX6 1 objectInit, Cond.fieldLink RX6 7 "ElectingWindModel" "typed" "[I"]
def wsL_law_r5 : List Cond := [Cond.fieldLink RX6 13 "ElectingWindModel" "texts" "[I", Cond.arrayClass .boolean, Cond.fieldLink RX6 16 "ElectingWindModel" "isWall" "[Z", Cond.fieldLink RX6 20 "ElectingWindModel" "from" "[I", Cond.fieldLink RX6 23 "ElectingWindModel" "force" "[I", Cond.fieldLink RX6 26 "ElectingWindModel" "stands" "[I", Cond.fieldLink RX6 29 "ElectingWindModel" "ribsTold" "[I", Cond.fieldLink RX6 32 "ElectingWindModel" "held" "[I", Cond.fieldLink RX6 35 "ElectingWindModel" "ribsAt" "[I", Cond.fieldLink RX6 38 "ElectingWindModel" "turnAt" "[I", Cond.fieldLink RX6 41 "ElectingWindModel" "isReturned" "[Z", Cond.fieldLink RX6 44 "ElectingWindModel" "isElected" "[Z", Cond.fieldLink RX6 47 "ElectingWindModel" "inAt" "[I", Cond.fieldLink RX6 50 "ElectingWindModel" "seenMinute" "[I", Cond.fieldLink RX6 53 "ElectingWindModel" "seenWho" "[I", Cond.fieldLink RX6 56 "ElectingWindModel" "mayBlow" "[Z", Cond.fieldLink RX6 59 "ElectingWindModel" "inBy" "[I", Cond.fieldLink RX6 62 "ElectingWindModel" "forceTold" "[I", Cond.fieldLink RX6 65 "ElectingWindModel" "isThere" "[Z", Cond.fieldLink RX6 68 "ElectingWindModel" "forms" "[I", Cond.fieldLink RX6 71 "ElectingWindModel" "sizes" "[I", Cond.fieldLink RX6 74 "ElectingWindModel" "items" "[I", Cond.fieldLink RX6 77 "ElectingWindModel" "moved" "[I", Cond.methodLink RL 13 yX5_type]
def wsL_law_r6 : List Cond := [Cond.instanceMethod yX5_type, Cond.selects RX5 yX5_type yX5_type, Cond.code yX5_type cX5_type 3 (some .int), Cond.methodLink RX5 70 yX5_isText, Cond.static yX5_isText, Cond.code yX5_isText cX5_isText 1 (some .boolean), Cond.methodLink RX5 74 yX2_isFull, Cond.instanceMethod yX2_isFull, Cond.selects RX2 yX2_isFull yX2_isFull, Cond.code yX2_isFull cX2_isFull 1 (some .boolean), Cond.methodLink RX5 78 yX2_append, Cond.instanceMethod yX2_append, Cond.selects RX2 yX2_append yX2_append, Cond.code yX2_append cX2_append 2 none, Cond.methodLink RX5 81 yX5_retell, Cond.instanceMethod yX5_retell, Cond.selects RX5 yX5_retell yX5_retell, Cond.code yX5_retell cX5_retell 2 none, Cond.fieldLink RX5 91 "ElectingWind$Course" "scene" "LElectingWind$Scene;", Cond.methodLink RX5 389 yX1_readCorner, Cond.instanceMethod yX1_readCorner, Cond.selects RX1 yX1_readCorner yX1_readCorner, Cond.code yX1_readCorner cX1_readCorner 3 (some .int), Cond.methodLink RX1 55 yX2_length]
def wsL_law_r7 : List Cond := [Cond.instanceMethod yX2_length, Cond.selects RX2 yX2_length yX2_length, Cond.code yX2_length cX2_length 1 (some .int), Cond.methodLink RX1 61 yX1_readRows, Cond.instanceMethod yX1_readRows, Cond.selects RX1 yX1_readRows yX1_readRows, Cond.code yX1_readRows cX1_readRows 8 (some .int), Cond.methodLink RX1 68 yX2_at, Cond.instanceMethod yX2_at, Cond.selects RX2 yX2_at yX2_at, Cond.code yX2_at cX2_at 2 (some .int), Cond.methodLink RX1 71 yX1_addCell, Cond.instanceMethod yX1_addCell, Cond.selects RX1 yX1_addCell yX1_addCell, Cond.code yX1_addCell cX1_addCell 2 none, Cond.methodLink RX1 65 yX1_survey, Cond.instanceMethod yX1_survey, Cond.selects RX1 yX1_survey yX1_survey, Cond.code yX1_survey cX1_survey 3 none, Cond.methodLink RX1 99 yX1_beside, Cond.instanceMethod yX1_beside, Cond.selects RX1 yX1_beside yX1_beside, Cond.code yX1_beside cX1_beside 4 (some .int), Cond.methodLink RX1 95 yX1_isCell]
def wsL_law_r8 : List Cond := [Cond.instanceMethod yX1_isCell, Cond.selects RX1 yX1_isCell yX1_isCell, Cond.code yX1_isCell cX1_isCell 2 (some .boolean), Cond.methodLink RX1 102 yX1_layOf, Cond.instanceMethod yX1_layOf, Cond.selects RX1 yX1_layOf yX1_layOf, Cond.code yX1_layOf cX1_layOf 6 (some .int), Cond.methodLink RX1 105 yX1_isWall, Cond.instanceMethod yX1_isWall, Cond.selects RX1 yX1_isWall yX1_isWall, Cond.code yX1_isWall cX1_isWall 2 (some .boolean), Cond.methodLink RX5 393 yX1_readGusts, Cond.instanceMethod yX1_readGusts, Cond.selects RX1 yX1_readGusts yX1_readGusts, Cond.code yX1_readGusts cX1_readGusts 7 (some .int), Cond.methodLink RX1 82 Lib.Math.min.name, Cond.methodLink RX1 75 yX1_wayOf, Cond.static yX1_wayOf, Cond.code yX1_wayOf cX1_wayOf 1 (some .int), Cond.methodLink RX1 78 yX1_figureOf, Cond.static yX1_figureOf, Cond.code yX1_figureOf cX1_figureOf 4 (some .int), Cond.methodLink RX5 396 yX1_readCandidates, Cond.instanceMethod yX1_readCandidates]
def wsL_law_r9 : List Cond := [Cond.selects RX1 yX1_readCandidates yX1_readCandidates, Cond.code yX1_readCandidates cX1_readCandidates 4 (some .int), Cond.methodLink RX1 88 yX1_readOfCandidate, Cond.instanceMethod yX1_readOfCandidate, Cond.selects RX1 yX1_readOfCandidate yX1_readOfCandidate, Cond.code yX1_readOfCandidate cX1_readOfCandidate 4 (some .boolean), Cond.methodLink RX1 92 yX1_holdOf, Cond.static yX1_holdOf, Cond.code yX1_holdOf cX1_holdOf 1 (some .int), Cond.methodLink RX5 176 yX0_run, Cond.instanceMethod yX0_run, Cond.selects RX0 yX0_run yX0_run, Cond.code yX0_run cX0_run 1 none, Cond.methodLink RX0 41 yX0_start, Cond.instanceMethod yX0_start, Cond.selects RX0 yX0_start yX0_start, Cond.code yX0_start cX0_start 3 none, Cond.fieldLink RX0 73 "ElectingWind$Scene" "candidates" "I", Cond.fieldLink RX0 76 "ElectingWind$Scene" "at" "[I", Cond.fieldLink RX0 79 "ElectingWind$Scene" "ribs" "[I", Cond.methodLink RX0 67 yJ7_fill_53178, Cond.static yJ7_fill_53178, Cond.initialized RJ7, Cond.code yJ7_fill_53178 cJ7_fill_53178 4 none]
def wsL_law_r10 : List Cond := [Cond.methodLink RX0 80 yX1_isCell, Cond.methodLink RX0 84 yX1_isWall, Cond.methodLink RX0 44 yX0_runOnFrom, Cond.instanceMethod yX0_runOnFrom, Cond.selects RX0 yX0_runOnFrom yX0_runOnFrom, Cond.code yX0_runOnFrom cX0_runOnFrom 3 none, Cond.methodLink RX0 48 Lib.Math.max.name, Cond.static Lib.Math.max.name, Cond.code Lib.Math.max.name Lib.Math.max.code 2 (some .int), Cond.fieldLink RX0 54 "ElectingWind$Scene" "minutes" "I", Cond.methodLink RX0 57 yX0_pass, Cond.instanceMethod yX0_pass, Cond.selects RX0 yX0_pass yX0_pass, Cond.code yX0_pass cX0_pass 11 none, Cond.fieldLink RX0 90 "ElectingWind$Scene" "held" "[I", Cond.methodLink RX0 87 yX0_windOn, Cond.instanceMethod yX0_windOn, Cond.selects RX0 yX0_windOn yX0_windOn, Cond.code yX0_windOn cX0_windOn 8 (some .int), Cond.fieldLink RX0 100 "ElectingWind$Scene" "cells" "I", Cond.fieldLink RX0 103 "ElectingWind$Scene" "from" "[I", Cond.fieldLink RX0 106 "ElectingWind$Scene" "lay" "[I", Cond.fieldLink RX0 109 "ElectingWind$Scene" "force" "[I", Cond.fieldLink RX0 112 "ElectingWind$Scene" "lee" "[I"]
def wsL_law_r11 : List Cond := [Cond.methodLink RX0 93 yX0_strainOf, Cond.static yX0_strainOf, Cond.code yX0_strainOf cX0_strainOf 2 (some .int), Cond.methodLink RX0 63 yX0_has, Cond.static yX0_has, Cond.code yX0_has cX0_has 2 (some .boolean), Cond.methodLink RX0 96 yX0_elect, Cond.instanceMethod yX0_elect, Cond.selects RX0 yX0_elect yX0_elect, Cond.code yX0_elect cX0_elect 8 none, Cond.methodLink RX0 60 yX0_end, Cond.instanceMethod yX0_end, Cond.selects RX0 yX0_end yX0_end, Cond.code yX0_end cX0_end 1 none, Cond.methodLink RX5 84 yX2_length, Cond.methodLink RL 17 yX6_type, Cond.instanceMethod yX6_type, Cond.selects RX6 yX6_type yX6_type, Cond.code yX6_type cX6_type 3 (some .int), Cond.methodLink RX6 86 yX6_isText, Cond.static yX6_isText, Cond.code yX6_isText cX6_isText 1 (some .boolean), Cond.methodLink RX6 82 yX6_within, Cond.static yX6_within]
def wsL_law_r12 : List Cond := [Cond.code yX6_within cX6_within 3 (some .boolean), Cond.methodLink RL 18 yX5_wipe, Cond.instanceMethod yX5_wipe, Cond.selects RX5 yX5_wipe yX5_wipe, Cond.code yX5_wipe cX5_wipe 3 (some .int), Cond.methodLink RX5 88 yX2_shorten, Cond.instanceMethod yX2_shorten, Cond.selects RX2 yX2_shorten yX2_shorten, Cond.code yX2_shorten cX2_shorten 2 none, Cond.methodLink RX2 28 Lib.Math.max.name, Cond.methodLink RL 22 yX6_wipe, Cond.instanceMethod yX6_wipe, Cond.selects RX6 yX6_wipe yX6_wipe, Cond.code yX6_wipe cX6_wipe 3 (some .int), Cond.methodLink RL 23 yX5_undo, Cond.instanceMethod yX5_undo, Cond.selects RX5 yX5_undo yX5_undo, Cond.code yX5_undo cX5_undo 2 (some .int), Cond.methodLink RL 26 yX6_undo, Cond.instanceMethod yX6_undo, Cond.selects RX6 yX6_undo yX6_undo, Cond.code yX6_undo cX6_undo 2 (some .int), Cond.methodLink RL 27 yX5_fault, Cond.instanceMethod yX5_fault]
def wsL_law_r13 : List Cond := [Cond.selects RX5 yX5_fault yX5_fault, Cond.code yX5_fault cX5_fault 2 (some .int), Cond.methodLink RL 30 yX6_fault, Cond.instanceMethod yX6_fault, Cond.selects RX6 yX6_fault yX6_fault, Cond.code yX6_fault cX6_fault 2 (some .int), Cond.methodLink RX6 128 yX6_faultOf, Cond.instanceMethod yX6_faultOf, Cond.selects RX6 yX6_faultOf yX6_faultOf, Cond.code yX6_faultOf cX6_faultOf 5 (some .int), Cond.methodLink RX6 118 yX6_readsCorner, Cond.instanceMethod yX6_readsCorner, Cond.selects RX6 yX6_readsCorner yX6_readsCorner, Cond.code yX6_readsCorner cX6_readsCorner 7 (some .int), Cond.fieldLink RX6 94 "ElectingWindModel" "cells" "I", Cond.fieldLink RX6 98 "ElectingWindModel" "wide" "I", Cond.methodLink RX6 90 yX6_byteAt, Cond.instanceMethod yX6_byteAt, Cond.selects RX6 yX6_byteAt yX6_byteAt, Cond.code yX6_byteAt cX6_byteAt 3 (some .int), Cond.methodLink RX6 122 yX6_readsGusts, Cond.instanceMethod yX6_readsGusts, Cond.selects RX6 yX6_readsGusts yX6_readsGusts, Cond.code yX6_readsGusts cX6_readsGusts 4 (some .int)]
def wsL_law_r14 : List Cond := [Cond.fieldLink RX6 101 "ElectingWindModel" "minutes" "I", Cond.methodLink RX6 104 yX6_wayOf, Cond.static yX6_wayOf, Cond.code yX6_wayOf cX6_wayOf 1 (some .int), Cond.methodLink RX6 108 yX6_figureAt, Cond.instanceMethod yX6_figureAt, Cond.selects RX6 yX6_figureAt yX6_figureAt, Cond.code yX6_figureAt cX6_figureAt 6 (some .int), Cond.methodLink RX6 125 yX6_readsCandidates, Cond.instanceMethod yX6_readsCandidates, Cond.selects RX6 yX6_readsCandidates yX6_readsCandidates, Cond.code yX6_readsCandidates cX6_readsCandidates 4 (some .int), Cond.fieldLink RX6 112 "ElectingWindModel" "candidates" "I", Cond.methodLink RX6 115 yX6_readsCandidate, Cond.instanceMethod yX6_readsCandidate, Cond.selects RX6 yX6_readsCandidate yX6_readsCandidate, Cond.code yX6_readsCandidate cX6_readsCandidate 8 (some .int), Cond.methodLink RL 31 yX5_cell, Cond.instanceMethod yX5_cell, Cond.selects RX5 yX5_cell yX5_cell, Cond.code yX5_cell cX5_cell 2 (some .int), Cond.methodLink RX5 95 yX1_isCell, Cond.methodLink RX5 100 yX1_isWall, Cond.methodLink RL 34 yX6_cell]
def wsL_law_r15 : List Cond := [Cond.instanceMethod yX6_cell, Cond.selects RX6 yX6_cell yX6_cell, Cond.code yX6_cell cX6_cell 2 (some .int), Cond.methodLink RX6 134 yX6_isCell, Cond.instanceMethod yX6_isCell, Cond.selects RX6 yX6_isCell yX6_isCell, Cond.code yX6_isCell cX6_isCell 2 (some .boolean), Cond.methodLink RX6 131 yX6_reads, Cond.instanceMethod yX6_reads, Cond.selects RX6 yX6_reads yX6_reads, Cond.code yX6_reads cX6_reads 2 none, Cond.methodLink RL 35 yX5_gust, Cond.instanceMethod yX5_gust, Cond.selects RX5 yX5_gust yX5_gust, Cond.code yX5_gust cX5_gust 3 (some .int), Cond.fieldLink RX5 106 "ElectingWind$Scene" "from" "[I", Cond.fieldLink RX5 109 "ElectingWind$Scene" "force" "[I", Cond.methodLink RX5 103 yX5_isMinute, Cond.instanceMethod yX5_isMinute, Cond.selects RX5 yX5_isMinute yX5_isMinute, Cond.code yX5_isMinute cX5_isMinute 2 (some .boolean), Cond.fieldLink RX5 150 "ElectingWind$Scene" "minutes" "I", Cond.methodLink RL 38 yX6_gust, Cond.instanceMethod yX6_gust]
def wsL_law_r16 : List Cond := [Cond.selects RX6 yX6_gust yX6_gust, Cond.code yX6_gust cX6_gust 3 (some .int), Cond.methodLink RX6 137 yX6_isMinute, Cond.instanceMethod yX6_isMinute, Cond.selects RX6 yX6_isMinute yX6_isMinute, Cond.code yX6_isMinute cX6_isMinute 2 (some .boolean), Cond.methodLink RL 39 yX5_candidate, Cond.instanceMethod yX5_candidate, Cond.selects RX5 yX5_candidate yX5_candidate, Cond.code yX5_candidate cX5_candidate 3 (some .int), Cond.fieldLink RX5 115 "ElectingWind$Scene" "at" "[I", Cond.fieldLink RX5 118 "ElectingWind$Scene" "ribs" "[I", Cond.fieldLink RX5 121 "ElectingWind$Scene" "held" "[I", Cond.methodLink RX5 112 yX5_isCandidate, Cond.instanceMethod yX5_isCandidate, Cond.selects RX5 yX5_isCandidate yX5_isCandidate, Cond.code yX5_isCandidate cX5_isCandidate 2 (some .boolean), Cond.fieldLink RX5 167 "ElectingWind$Scene" "candidates" "I", Cond.methodLink RX5 124 yX0_isSomewhere, Cond.instanceMethod yX0_isSomewhere, Cond.selects RX0 yX0_isSomewhere yX0_isSomewhere, Cond.code yX0_isSomewhere cX0_isSomewhere 2 (some .boolean), Cond.methodLink RL 42 yX6_candidate, Cond.instanceMethod yX6_candidate]
def wsL_law_r17 : List Cond := [Cond.selects RX6 yX6_candidate yX6_candidate, Cond.code yX6_candidate cX6_candidate 3 (some .int), Cond.methodLink RX6 143 yX6_isCandidate, Cond.instanceMethod yX6_isCandidate, Cond.selects RX6 yX6_isCandidate yX6_isCandidate, Cond.code yX6_isCandidate cX6_isCandidate 2 (some .boolean), Cond.methodLink RX6 146 yX6_candidateOf, Cond.instanceMethod yX6_candidateOf, Cond.selects RX6 yX6_candidateOf yX6_candidateOf, Cond.code yX6_candidateOf cX6_candidateOf 3 (some .int), Cond.methodLink RX6 140 yX6_isSomewhere, Cond.instanceMethod yX6_isSomewhere, Cond.selects RX6 yX6_isSomewhere yX6_isSomewhere, Cond.code yX6_isSomewhere cX6_isSomewhere 2 (some .boolean), Cond.methodLink RL 43 yX5_wind, Cond.instanceMethod yX5_wind, Cond.selects RX5 yX5_wind yX5_wind, Cond.code yX5_wind cX5_wind 3 (some .int), Cond.methodLink RX5 127 yX0_windOn, Cond.methodLink RL 46 yX6_wind, Cond.instanceMethod yX6_wind, Cond.selects RX6 yX6_wind yX6_wind, Cond.code yX6_wind cX6_wind 3 (some .int), Cond.methodLink RX6 178 yX6_windOf]
def wsL_law_r18 : List Cond := [Cond.instanceMethod yX6_windOf, Cond.selects RX6 yX6_windOf yX6_windOf, Cond.code yX6_windOf cX6_windOf 3 (some .int), Cond.methodLink RX6 175 yX6_runsTold, Cond.instanceMethod yX6_runsTold, Cond.selects RX6 yX6_runsTold yX6_runsTold, Cond.code yX6_runsTold cX6_runsTold 1 none, Cond.methodLink RX6 172 yX6_runs, Cond.instanceMethod yX6_runs, Cond.selects RX6 yX6_runs yX6_runs, Cond.code yX6_runs cX6_runs 2 none, Cond.methodLink RX6 169 yX6_goesBy, Cond.instanceMethod yX6_goesBy, Cond.selects RX6 yX6_goesBy yX6_goesBy, Cond.code yX6_goesBy cX6_goesBy 5 none, Cond.methodLink RX6 159 yX6_windNow, Cond.instanceMethod yX6_windNow, Cond.selects RX6 yX6_windNow yX6_windNow, Cond.code yX6_windNow cX6_windNow 8 (some .int), Cond.methodLink RX6 149 yX6_beside, Cond.instanceMethod yX6_beside, Cond.selects RX6 yX6_beside yX6_beside, Cond.code yX6_beside cX6_beside 4 (some .int), Cond.methodLink RX6 152 yX6_isWallAt]
def wsL_law_r19 : List Cond := [Cond.instanceMethod yX6_isWallAt, Cond.selects RX6 yX6_isWallAt yX6_isWallAt, Cond.code yX6_isWallAt cX6_isWallAt 2 (some .boolean), Cond.methodLink RX6 155 yX6_isLee, Cond.instanceMethod yX6_isLee, Cond.selects RX6 yX6_isLee yX6_isLee, Cond.code yX6_isLee cX6_isLee 5 (some .boolean), Cond.methodLink RX6 162 yX6_strain, Cond.instanceMethod yX6_strain, Cond.selects RX6 yX6_strain yX6_strain, Cond.code yX6_strain cX6_strain 3 (some .int), Cond.methodLink RX6 165 yX6_elects, Cond.instanceMethod yX6_elects, Cond.selects RX6 yX6_elects yX6_elects, Cond.code yX6_elects cX6_elects 5 none, Cond.methodLink RL 47 yX5_ribs, Cond.instanceMethod yX5_ribs, Cond.selects RX5 yX5_ribs yX5_ribs, Cond.code yX5_ribs cX5_ribs 3 (some .int), Cond.methodLink RX5 131 yX0_ribsAhead, Cond.instanceMethod yX0_ribsAhead, Cond.selects RX0 yX0_ribsAhead yX0_ribsAhead, Cond.code yX0_ribsAhead cX0_ribsAhead 4 (some .int), Cond.methodLink RL 50 yX6_ribs]
def wsL_law_r20 : List Cond := [Cond.instanceMethod yX6_ribs, Cond.selects RX6 yX6_ribs yX6_ribs, Cond.code yX6_ribs cX6_ribs 3 (some .int), Cond.methodLink RX6 181 yX6_ribsOf, Cond.instanceMethod yX6_ribsOf, Cond.selects RX6 yX6_ribsOf yX6_ribsOf, Cond.code yX6_ribsOf cX6_ribsOf 3 (some .int), Cond.methodLink RL 51 yX5_overturns, Cond.instanceMethod yX5_overturns, Cond.selects RX5 yX5_overturns yX5_overturns, Cond.code yX5_overturns cX5_overturns 3 (some .int), Cond.methodLink RX5 134 yX0_turnsWhen, Cond.instanceMethod yX0_turnsWhen, Cond.selects RX0 yX0_turnsWhen yX0_turnsWhen, Cond.code yX0_turnsWhen cX0_turnsWhen 3 (some .int), Cond.methodLink RX5 138 yX0_isReturned, Cond.instanceMethod yX0_isReturned, Cond.selects RX0 yX0_isReturned yX0_isReturned, Cond.code yX0_isReturned cX0_isReturned 3 (some .boolean), Cond.methodLink RX0 115 yX0_turnsWhen, Cond.methodLink RX5 141 yX0_isElected, Cond.instanceMethod yX0_isElected, Cond.selects RX0 yX0_isElected yX0_isElected, Cond.code yX0_isElected cX0_isElected 3 (some .boolean)]
def wsL_law_r21 : List Cond := [Cond.methodLink RX5 144 yX0_minutesBehindWhichIn, Cond.instanceMethod yX0_minutesBehindWhichIn, Cond.selects RX0 yX0_minutesBehindWhichIn yX0_minutesBehindWhichIn, Cond.code yX0_minutesBehindWhichIn cX0_minutesBehindWhichIn 4 (some .int), Cond.methodLink RX0 119 yX0_whoIsIn, Cond.instanceMethod yX0_whoIsIn, Cond.selects RX0 yX0_whoIsIn yX0_whoIsIn, Cond.code yX0_whoIsIn cX0_whoIsIn 2 (some .int), Cond.methodLink RL 54 yX6_overturns, Cond.instanceMethod yX6_overturns, Cond.selects RX6 yX6_overturns yX6_overturns, Cond.code yX6_overturns cX6_overturns 3 (some .int), Cond.methodLink RX6 184 yX6_turnsOf, Cond.instanceMethod yX6_turnsOf, Cond.selects RX6 yX6_turnsOf yX6_turnsOf, Cond.code yX6_turnsOf cX6_turnsOf 5 (some .int), Cond.methodLink RL 55 yX5_in, Cond.instanceMethod yX5_in, Cond.selects RX5 yX5_in yX5_in, Cond.code yX5_in cX5_in 2 (some .int), Cond.methodLink RX5 147 yX0_whoIsIn, Cond.methodLink RL 58 yX6_in, Cond.instanceMethod yX6_in, Cond.selects RX6 yX6_in yX6_in]
def wsL_law_r22 : List Cond := [Cond.code yX6_in cX6_in 2 (some .int), Cond.methodLink RX6 187 yX6_inOf, Cond.instanceMethod yX6_inOf, Cond.selects RX6 yX6_inOf yX6_inOf, Cond.code yX6_inOf cX6_inOf 2 (some .int), Cond.methodLink RL 59 yX5_first, Cond.instanceMethod yX5_first, Cond.selects RX5 yX5_first yX5_first, Cond.code yX5_first cX5_first 4 (some .int), Cond.methodLink RL 62 yX6_first, Cond.instanceMethod yX6_first, Cond.selects RX6 yX6_first yX6_first, Cond.code yX6_first cX6_first 2 (some .int), Cond.methodLink RX6 190 yX6_firstOf, Cond.instanceMethod yX6_firstOf, Cond.selects RX6 yX6_firstOf yX6_firstOf, Cond.code yX6_firstOf cX6_firstOf 3 (some .int), Cond.methodLink RL 63 yX5_lulls, Cond.instanceMethod yX5_lulls, Cond.selects RX5 yX5_lulls yX5_lulls, Cond.code yX5_lulls cX5_lulls 1 (some .int), Cond.methodLink RL 67 yX6_lulls, Cond.instanceMethod yX6_lulls, Cond.selects RX6 yX6_lulls yX6_lulls]
def wsL_law_r23 : List Cond := [Cond.code yX6_lulls cX6_lulls 1 (some .int), Cond.methodLink RX6 193 yX6_lullsNow, Cond.instanceMethod yX6_lullsNow, Cond.selects RX6 yX6_lullsNow yX6_lullsNow, Cond.code yX6_lullsNow cX6_lullsNow 3 (some .int), Cond.methodLink RL 68 yX5_stand, Cond.instanceMethod yX5_stand, Cond.selects RX5 yX5_stand yX5_stand, Cond.code yX5_stand cX5_stand 7 (some .int), Cond.fieldLink RX5 157 "ElectingWind$Scene" "cells" "I", Cond.methodLink RX5 153 yX1_tellAs, Cond.instanceMethod yX1_tellAs, Cond.selects RX1 yX1_tellAs yX1_tellAs, Cond.code yX1_tellAs cX1_tellAs 2 none, Cond.methodLink RX1 49 arraycopyName, Cond.native arraycopyName, Cond.static arraycopyName, Cond.initialized "java/lang/System", Cond.methodLink RX5 160 yX0_isFreeFor, Cond.instanceMethod yX0_isFreeFor, Cond.selects RX0 yX0_isFreeFor yX0_isFreeFor, Cond.code yX0_isFreeFor cX0_isFreeFor 3 (some .boolean), Cond.methodLink RX5 164 yX0_runUntilTurned, Cond.instanceMethod yX0_runUntilTurned]
def wsL_law_r24 : List Cond := [Cond.selects RX0 yX0_runUntilTurned yX0_runUntilTurned, Cond.code yX0_runUntilTurned cX0_runUntilTurned 3 (some .int), Cond.methodLink RL 71 yX6_stand, Cond.instanceMethod yX6_stand, Cond.selects RX6 yX6_stand yX6_stand, Cond.code yX6_stand cX6_stand 3 (some .int), Cond.methodLink RX6 199 yX6_standOf, Cond.instanceMethod yX6_standOf, Cond.selects RX6 yX6_standOf yX6_standOf, Cond.code yX6_standOf cX6_standOf 8 (some .int), Cond.methodLink RX6 196 yX6_isTaken, Cond.instanceMethod yX6_isTaken, Cond.selects RX6 yX6_isTaken yX6_isTaken, Cond.code yX6_isTaken cX6_isTaken 5 (some .boolean), Cond.methodLink RL 72 yX5_shield, Cond.instanceMethod yX5_shield, Cond.selects RX5 yX5_shield yX5_shield, Cond.code yX5_shield cX5_shield 4 (some .int), Cond.methodLink RX5 170 yX5_placeToShield, Cond.instanceMethod yX5_placeToShield, Cond.selects RX5 yX5_placeToShield yX5_placeToShield, Cond.code yX5_placeToShield cX5_placeToShield 4 (some .int), Cond.methodLink RX5 182 yX0_isFree, Cond.instanceMethod yX0_isFree]
def wsL_law_r25 : List Cond := [Cond.selects RX0 yX0_isFree yX0_isFree, Cond.code yX0_isFree cX0_isFree 2 (some .boolean), Cond.methodLink RL 75 yX6_shield, Cond.instanceMethod yX6_shield, Cond.selects RX6 yX6_shield yX6_shield, Cond.code yX6_shield cX6_shield 2 (some .int), Cond.methodLink RX6 205 yX6_shieldOf, Cond.instanceMethod yX6_shieldOf, Cond.selects RX6 yX6_shieldOf yX6_shieldOf, Cond.code yX6_shieldOf cX6_shieldOf 4 (some .int), Cond.methodLink RX6 202 yX6_doesStay, Cond.instanceMethod yX6_doesStay, Cond.selects RX6 yX6_doesStay yX6_doesStay, Cond.code yX6_doesStay cX6_doesStay 5 (some .boolean), Cond.methodLink RL 76 yX5_move, Cond.instanceMethod yX5_move, Cond.selects RX5 yX5_move yX5_move, Cond.code yX5_move cX5_move 6 (some .int), Cond.methodLink RX5 173 yX5_movesAnotherIn, Cond.instanceMethod yX5_movesAnotherIn, Cond.selects RX5 yX5_movesAnotherIn yX5_movesAnotherIn, Cond.code yX5_movesAnotherIn cX5_movesAnotherIn 4 (some .boolean), Cond.fieldLink RX5 188 "ElectingWind$Scene" "wall" "[I", Cond.methodLink RX5 185 yX1_beside]
def wsL_law_r26 : List Cond := [Cond.methodLink RX5 191 yX1_survey, Cond.methodLink RX5 179 yX0_whoIsInLast, Cond.instanceMethod yX0_whoIsInLast, Cond.selects RX0 yX0_whoIsInLast yX0_whoIsInLast, Cond.code yX0_whoIsInLast cX0_whoIsInLast 1 (some .int), Cond.methodLink RL 79 yX6_move, Cond.instanceMethod yX6_move, Cond.selects RX6 yX6_move yX6_move, Cond.code yX6_move cX6_move 2 (some .int), Cond.methodLink RX6 211 yX6_moveOf, Cond.instanceMethod yX6_moveOf, Cond.selects RX6 yX6_moveOf yX6_moveOf, Cond.code yX6_moveOf cX6_moveOf 9 (some .int), Cond.methodLink RX6 208 yX6_lastIn, Cond.instanceMethod yX6_lastIn, Cond.selects RX6 yX6_lastIn yX6_lastIn, Cond.code yX6_lastIn cX6_lastIn 1 (some .int), Cond.methodLink RL 80 yX5_bribe, Cond.instanceMethod yX5_bribe, Cond.selects RX5 yX5_bribe yX5_bribe, Cond.code yX5_bribe cX5_bribe 4 (some .int), Cond.methodLink RL 83 yX6_bribe, Cond.instanceMethod yX6_bribe, Cond.selects RX6 yX6_bribe yX6_bribe]
def wsL_law_r27 : List Cond := [Cond.code yX6_bribe cX6_bribe 2 (some .int), Cond.methodLink RX6 214 yX6_bribeOf, Cond.instanceMethod yX6_bribeOf, Cond.selects RX6 yX6_bribeOf yX6_bribeOf, Cond.code yX6_bribeOf cX6_bribeOf 5 (some .int), Cond.methodLink RL 84 yX5_seen, Cond.instanceMethod yX5_seen, Cond.selects RX5 yX5_seen yX5_seen, Cond.code yX5_seen cX5_seen 3 (some .int), Cond.fieldLink RX5 201 "ElectingWind$Sightings" "many" "I", Cond.methodLink RX5 194 yX4_isSighting, Cond.instanceMethod yX4_isSighting, Cond.selects RX4 yX4_isSighting yX4_isSighting, Cond.code yX4_isSighting cX4_isSighting 3 (some .boolean), Cond.methodLink RX5 197 yX4_isFull, Cond.instanceMethod yX4_isFull, Cond.selects RX4 yX4_isFull yX4_isFull, Cond.code yX4_isFull cX4_isFull 1 (some .boolean), Cond.methodLink RX5 198 yX4_append, Cond.instanceMethod yX4_append, Cond.selects RX4 yX4_append yX4_append, Cond.code yX4_append cX4_append 3 none, Cond.methodLink RL 87 yX6_seen, Cond.instanceMethod yX6_seen]
def wsL_law_r28 : List Cond := [Cond.selects RX6 yX6_seen yX6_seen, Cond.code yX6_seen cX6_seen 3 (some .int), Cond.fieldLink RX6 217 "ElectingWindModel" "seens" "I", Cond.methodLink RL 88 yX5_forget, Cond.instanceMethod yX5_forget, Cond.selects RX5 yX5_forget yX5_forget, Cond.code yX5_forget cX5_forget 2 (some .int), Cond.methodLink RL 91 yX6_forget, Cond.instanceMethod yX6_forget, Cond.selects RX6 yX6_forget yX6_forget, Cond.code yX6_forget cX6_forget 2 (some .int), Cond.methodLink RL 92 yX5_read, Cond.instanceMethod yX5_read, Cond.selects RX5 yX5_read yX5_read, Cond.code yX5_read cX5_read 4 (some .int), Cond.fieldLink RX5 213 "ElectingWind$Sheet" "size" "I", Cond.methodLink RX5 204 yX5_isSheet, Cond.static yX5_isSheet, Cond.code yX5_isSheet cX5_isSheet 1 (some .boolean), Cond.methodLink RX5 207 yX3_isLost, Cond.instanceMethod yX3_isLost, Cond.selects RX3 yX3_isLost yX3_isLost, Cond.code yX3_isLost cX3_isLost 1 (some .boolean), Cond.methodLink RX5 210 yX5_finding]
def wsL_law_r29 : List Cond := [Cond.instanceMethod yX5_finding, Cond.selects RX5 yX5_finding yX5_finding, Cond.code yX5_finding cX5_finding 2 (some .int), Cond.methodLink RX5 216 yX3_item, Cond.instanceMethod yX3_item, Cond.selects RX3 yX3_item yX3_item, Cond.code yX3_item cX3_item 2 (some .int), Cond.methodLink RX5 219 yX5_seen, Cond.methodLink RL 95 yX6_read, Cond.instanceMethod yX6_read, Cond.selects RX6 yX6_read yX6_read, Cond.code yX6_read cX6_read 3 (some .int), Cond.methodLink RX6 220 yX6_isSheet, Cond.static yX6_isSheet, Cond.code yX6_isSheet cX6_isSheet 1 (some .boolean), Cond.methodLink RX6 223 yX6_meets, Cond.instanceMethod yX6_meets, Cond.selects RX6 yX6_meets yX6_meets, Cond.code yX6_meets cX6_meets 2 (some .int), Cond.fieldLink RX6 268 "ElectingWindModel" "finding" "I", Cond.methodLink RX6 226 yX6_seen, Cond.methodLink RL 96 yX5_blew, Cond.instanceMethod yX5_blew, Cond.selects RX5 yX5_blew yX5_blew]
def wsL_law_r30 : List Cond := [Cond.code yX5_blew cX5_blew 5 (some .int), Cond.methodLink RX5 222 yX5_inquire, Cond.instanceMethod yX5_inquire, Cond.selects RX5 yX5_inquire yX5_inquire, Cond.code yX5_inquire cX5_inquire 3 none, Cond.methodLink RX5 246 yJ7_fill_53178, Cond.methodLink RX5 252 yX0_start, Cond.methodLink RX5 255 yX0_runOnFrom, Cond.methodLink RX5 225 yX4_comeOutSo, Cond.instanceMethod yX4_comeOutSo, Cond.selects RX4 yX4_comeOutSo yX4_comeOutSo, Cond.code yX4_comeOutSo cX4_comeOutSo 4 (some .boolean), Cond.fieldLink RX4 22 "ElectingWind$Course" "scene" "LElectingWind$Scene;", Cond.fieldLink RX4 28 "ElectingWind$Scene" "minutes" "I", Cond.methodLink RX4 32 yX0_whoIsIn, Cond.methodLink RX5 258 yX5_tallyTrial, Cond.instanceMethod yX5_tallyTrial, Cond.selects RX5 yX5_tallyTrial yX5_tallyTrial, Cond.code yX5_tallyTrial cX5_tallyTrial 4 none, Cond.methodLink RL 99 yX6_blew, Cond.instanceMethod yX6_blew, Cond.selects RX6 yX6_blew yX6_blew, Cond.code yX6_blew cX6_blew 3 (some .int), Cond.methodLink RX6 236 yX6_blewOf]
def wsL_law_r31 : List Cond := [Cond.instanceMethod yX6_blewOf, Cond.selects RX6 yX6_blewOf yX6_blewOf, Cond.code yX6_blewOf cX6_blewOf 6 (some .int), Cond.methodLink RX6 233 yX6_blows, Cond.instanceMethod yX6_blows, Cond.selects RX6 yX6_blows yX6_blows, Cond.code yX6_blows cX6_blows 7 (some .int), Cond.methodLink RX6 229 yX6_isSeen, Cond.instanceMethod yX6_isSeen, Cond.selects RX6 yX6_isSeen yX6_isSeen, Cond.code yX6_isSeen cX6_isSeen 4 (some .boolean), Cond.methodLink RL 100 yX5_had, Cond.instanceMethod yX5_had, Cond.selects RX5 yX5_had yX5_had, Cond.code yX5_had cX5_had 4 (some .int), Cond.methodLink RL 103 yX6_had, Cond.instanceMethod yX6_had, Cond.selects RX6 yX6_had yX6_had, Cond.code yX6_had cX6_had 2 (some .int), Cond.methodLink RX6 239 yX6_hadOf, Cond.instanceMethod yX6_hadOf, Cond.selects RX6 yX6_hadOf yX6_hadOf, Cond.code yX6_hadOf cX6_hadOf 5 (some .int), Cond.methodLink RL 104 yX5_ask]
def wsL_law_r32 : List Cond := [Cond.instanceMethod yX5_ask, Cond.selects RX5 yX5_ask yX5_ask, Cond.code yX5_ask cX5_ask 4 (some .int), Cond.methodLink RX5 229 yX5_greatestTally, Cond.instanceMethod yX5_greatestTally, Cond.selects RX5 yX5_greatestTally yX5_greatestTally, Cond.code yX5_greatestTally cX5_greatestTally 4 (some .int), Cond.methodLink RX5 261 Lib.Math.max.name, Cond.methodLink RL 107 yX6_ask, Cond.instanceMethod yX6_ask, Cond.selects RX6 yX6_ask yX6_ask, Cond.code yX6_ask cX6_ask 2 (some .int), Cond.methodLink RX6 242 yX6_askOf, Cond.instanceMethod yX6_askOf, Cond.selects RX6 yX6_askOf yX6_askOf, Cond.code yX6_askOf cX6_askOf 10 (some .int), Cond.methodLink RL 108 yX5_calm, Cond.instanceMethod yX5_calm, Cond.selects RX5 yX5_calm yX5_calm, Cond.code yX5_calm cX5_calm 7 (some .long), Cond.constantLong RX5 234 (-9223372036854775806), Cond.methodLink RX5 236 yX5_weighCalms, Cond.instanceMethod yX5_weighCalms, Cond.selects RX5 yX5_weighCalms yX5_weighCalms]
def wsL_law_r33 : List Cond := [Cond.code yX5_weighCalms cX5_weighCalms 7 none, Cond.methodLink RX5 269 Lib.Math.min.name, Cond.methodLink RX5 266 yJ7_fill_d0a16, Cond.static yJ7_fill_d0a16, Cond.code yJ7_fill_d0a16 cJ7_fill_d0a16 5 none, Cond.methodLink RX5 272 yX5_lowestBit, Cond.static yX5_lowestBit, Cond.code yX5_lowestBit cX5_lowestBit 1 (some .int), Cond.methodLink RX5 281 yJ6_bitCount_0f7a4, Cond.static yJ6_bitCount_0f7a4, Cond.initialized RJ6, Cond.code yJ6_bitCount_0f7a4 cJ6_bitCount_0f7a4 1 (some .int), Cond.constant RJ6 265 (1431655765), Cond.constant RJ6 266 (858993459), Cond.constant RJ6 267 (252645135), Cond.methodLink RX5 275 yX0_pass, Cond.methodLink RX5 278 yX0_end, Cond.methodLink RL 112 yX6_calm, Cond.instanceMethod yX6_calm, Cond.selects RX6 yX6_calm yX6_calm, Cond.code yX6_calm cX6_calm 4 (some .long), Cond.methodLink RX6 252 yX6_calmOf, Cond.instanceMethod yX6_calmOf, Cond.selects RX6 yX6_calmOf yX6_calmOf]
def wsL_law_r34 : List Cond := [Cond.code yX6_calmOf cX6_calmOf 10 (some .long), Cond.methodLink RX6 245 yX6_isIn, Cond.static yX6_isIn, Cond.code yX6_isIn cX6_isIn 2 (some .boolean), Cond.methodLink RX6 248 yX6_lowest, Cond.static yX6_lowest, Cond.code yX6_lowest cX6_lowest 11 (some .long), Cond.methodLink RX6 256 yX6_no, Cond.static yX6_no, Cond.code yX6_no cX6_no 1 (some .long), Cond.constantLong RX6 80 (-9223372036854775808), Cond.methodLink RL 113 yX5_weather, Cond.instanceMethod yX5_weather, Cond.selects RX5 yX5_weather yX5_weather, Cond.code yX5_weather cX5_weather 6 (some .int), Cond.methodLink RX5 239 yX5_nextLots, Cond.static yX5_nextLots, Cond.code yX5_nextLots cX5_nextLots 1 (some .int), Cond.constant RX5 245 (1103515245), Cond.methodLink RX5 242 yX0_manyTurned, Cond.instanceMethod yX0_manyTurned, Cond.selects RX0 yX0_manyTurned yX0_manyTurned, Cond.code yX0_manyTurned cX0_manyTurned 2 (some .int), Cond.methodLink RX0 122 yJ6_bitCount_0f7a4]
def wsL_law_r35 : List Cond := [Cond.methodLink RL 117 yX6_weather, Cond.instanceMethod yX6_weather, Cond.selects RX6 yX6_weather yX6_weather, Cond.code yX6_weather cX6_weather 4 (some .int), Cond.methodLink RX6 264 yX6_weatherOf, Cond.instanceMethod yX6_weatherOf, Cond.selects RX6 yX6_weatherOf yX6_weatherOf, Cond.code yX6_weatherOf cX6_weatherOf 6 (some .int), Cond.constant RX6 260 (1103515245), Cond.methodLink RX6 261 yX6_turnedNow, Cond.instanceMethod yX6_turnedNow, Cond.selects RX6 yX6_turnedNow yX6_turnedNow, Cond.code yX6_turnedNow cX6_turnedNow 3 (some .int), Cond.methodLink RL 118 yX5_sheet, Cond.instanceMethod yX5_sheet, Cond.selects RX5 yX5_sheet yX5_sheet, Cond.code yX5_sheet cX5_sheet 4 (some .int), Cond.methodLink RX5 286 yX5_isForm, Cond.static yX5_isForm, Cond.code yX5_isForm cX5_isForm 1 (some .boolean), Cond.methodLink RX5 289 yX3_renew, Cond.instanceMethod yX3_renew, Cond.selects RX3 yX3_renew yX3_renew, Cond.code yX3_renew cX3_renew 3 none]
def wsL_law_r36 : List Cond := [Cond.methodLink RX3 22 Lib.Math.min.name, Cond.methodLink RX3 28 Lib.Math.max.name, Cond.methodLink RX3 31 yJ7_fill_53178, Cond.methodLink RL 121 yX6_sheet, Cond.instanceMethod yX6_sheet, Cond.selects RX6 yX6_sheet yX6_sheet, Cond.code yX6_sheet cX6_sheet 5 (some .int), Cond.methodLink RL 122 yX5_lose, Cond.instanceMethod yX5_lose, Cond.selects RX5 yX5_lose yX5_lose, Cond.code yX5_lose cX5_lose 3 (some .int), Cond.methodLink RX5 292 yX3_discard, Cond.instanceMethod yX3_discard, Cond.selects RX3 yX3_discard yX3_discard, Cond.code yX3_discard cX3_discard 1 none, Cond.methodLink RL 125 yX6_lose, Cond.instanceMethod yX6_lose, Cond.selects RX6 yX6_lose yX6_lose, Cond.code yX6_lose cX6_lose 2 (some .int), Cond.methodLink RL 126 yX5_put, Cond.instanceMethod yX5_put, Cond.selects RX5 yX5_put yX5_put, Cond.code yX5_put cX5_put 6 (some .int), Cond.methodLink RX5 295 yX3_hindrance]
def wsL_law_r37 : List Cond := [Cond.instanceMethod yX3_hindrance, Cond.selects RX3 yX3_hindrance yX3_hindrance, Cond.code yX3_hindrance cX3_hindrance 3 (some .int), Cond.methodLink RX3 37 yX3_isLost, Cond.methodLink RX5 298 yX3_setItem, Cond.instanceMethod yX3_setItem, Cond.selects RX3 yX3_setItem yX3_setItem, Cond.code yX3_setItem cX3_setItem 3 none, Cond.methodLink RL 130 yX6_put, Cond.instanceMethod yX6_put, Cond.selects RX6 yX6_put yX6_put, Cond.code yX6_put cX6_put 6 (some .int), Cond.methodLink RX6 271 yX6_lacks, Cond.instanceMethod yX6_lacks, Cond.selects RX6 yX6_lacks yX6_lacks, Cond.code yX6_lacks cX6_lacks 4 (some .int), Cond.methodLink RX6 274 yX6_keep, Cond.instanceMethod yX6_keep, Cond.selects RX6 yX6_keep yX6_keep, Cond.code yX6_keep cX6_keep 4 none, Cond.methodLink RL 131 yX5_get, Cond.instanceMethod yX5_get, Cond.selects RX5 yX5_get yX5_get, Cond.code yX5_get cX5_get 5 (some .int)]
def wsL_law_r38 : List Cond := [Cond.constant RX5 301 (-2147483648), Cond.methodLink RL 134 yX6_get, Cond.instanceMethod yX6_get, Cond.selects RX6 yX6_get yX6_get, Cond.code yX6_get cX6_get 5 (some .int), Cond.constant RX6 278 (-2147483648), Cond.methodLink RL 135 yX5_copy, Cond.instanceMethod yX5_copy, Cond.selects RX5 yX5_copy yX5_copy, Cond.code yX5_copy cX5_copy 6 (some .int), Cond.fieldLink RX5 302 "ElectingWind$Sheet" "form" "I", Cond.fieldLink RX5 308 "ElectingWind$Sheet" "items" "[I", Cond.methodLink RX5 311 arraycopyName, Cond.methodLink RX5 305 yX3_hasItems, Cond.instanceMethod yX3_hasItems, Cond.selects RX3 yX3_hasItems yX3_hasItems, Cond.code yX3_hasItems cX3_hasItems 3 (some .boolean), Cond.methodLink RL 139 yX6_copy, Cond.instanceMethod yX6_copy, Cond.selects RX6 yX6_copy yX6_copy, Cond.code yX6_copy cX6_copy 7 (some .int), Cond.methodLink RL 140 yX5_write, Cond.instanceMethod yX5_write, Cond.selects RX5 yX5_write yX5_write]
def wsL_law_r39 : List Cond := [Cond.code yX5_write cX5_write 5 (some .int), Cond.methodLink RL 143 yX6_write, Cond.instanceMethod yX6_write, Cond.selects RX6 yX6_write yX6_write, Cond.code yX6_write cX6_write 4 (some .int), Cond.methodLink RL 144 yX5_count, Cond.instanceMethod yX5_count, Cond.selects RX5 yX5_count yX5_count, Cond.code yX5_count cX5_count 2 (some .int), Cond.methodLink RL 147 yX6_count, Cond.instanceMethod yX6_count, Cond.selects RX6 yX6_count yX6_count, Cond.code yX6_count cX6_count 2 (some .int), Cond.methodLink RX6 279 yX6_sumOf, Cond.instanceMethod yX6_sumOf, Cond.selects RX6 yX6_sumOf yX6_sumOf, Cond.code yX6_sumOf cX6_sumOf 2 (some .int), Cond.methodLink RL 148 yX5_digest, Cond.instanceMethod yX5_digest, Cond.selects RX5 yX5_digest yX5_digest, Cond.code yX5_digest cX5_digest 4 (some .long), Cond.constantLong RX5 317 (17), Cond.constantLong RX5 319 (31), Cond.methodLink RX5 321 yX5_count]
def wsL_law_r40 : List Cond := [Cond.methodLink RX5 324 yX5_fault, Cond.methodLink RX5 327 yX5_cell, Cond.methodLink RX5 330 yX5_digestMinute, Cond.instanceMethod yX5_digestMinute, Cond.selects RX5 yX5_digestMinute yX5_digestMinute, Cond.code yX5_digestMinute cX5_digestMinute 7 (some .long), Cond.methodLink RX5 350 yX5_gust, Cond.methodLink RX5 353 yX5_in, Cond.methodLink RX5 356 yX5_ask, Cond.methodLink RX5 359 yX5_blew, Cond.methodLink RX5 362 yX5_wind, Cond.methodLink RX5 365 yX5_ribs, Cond.methodLink RX5 334 yX5_digestCandidate, Cond.instanceMethod yX5_digestCandidate, Cond.selects RX5 yX5_digestCandidate yX5_digestCandidate, Cond.code yX5_digestCandidate cX5_digestCandidate 7 (some .long), Cond.methodLink RX5 367 yX5_candidate, Cond.methodLink RX5 370 yX5_overturns, Cond.methodLink RX5 373 yX5_stand, Cond.methodLink RX5 376 yX5_shield, Cond.methodLink RX5 379 yX5_bribe, Cond.methodLink RX5 382 yX5_had, Cond.methodLink RX5 385 yX5_calm, Cond.methodLink RX5 337 yX5_first]
def wsL_law_r41 : List Cond := [Cond.methodLink RX5 340 yX5_lulls, Cond.methodLink RX5 343 yX5_move, Cond.methodLink RX5 346 yX5_weather, Cond.methodLink RL 152 yX6_digest, Cond.instanceMethod yX6_digest, Cond.selects RX6 yX6_digest yX6_digest, Cond.code yX6_digest cX6_digest 4 (some .long), Cond.constantLong RX6 284 (17), Cond.constantLong RX6 282 (31), Cond.methodLink RX6 286 yX6_count, Cond.methodLink RX6 289 yX6_minuteDigest, Cond.instanceMethod yX6_minuteDigest, Cond.selects RX6 yX6_minuteDigest yX6_minuteDigest, Cond.code yX6_minuteDigest cX6_minuteDigest 7 (some .long), Cond.methodLink RX6 293 yX6_candidateDigest, Cond.instanceMethod yX6_candidateDigest, Cond.selects RX6 yX6_candidateDigest yX6_candidateDigest, Cond.code yX6_candidateDigest cX6_candidateDigest 7 (some .long)]
def wsL_law : List Cond := (wsL_law_r1 ++ (wsL_law_r2 ++ (wsL_law_r3 ++ (wsL_law_r4 ++ (wsL_law_r5 ++ (wsL_law_r6 ++ (wsL_law_r7 ++ (wsL_law_r8 ++ (wsL_law_r9 ++ (wsL_law_r10 ++ (wsL_law_r11 ++ (wsL_law_r12 ++ (wsL_law_r13 ++ (wsL_law_r14 ++ (wsL_law_r15 ++ (wsL_law_r16 ++ (wsL_law_r17 ++ (wsL_law_r18 ++ (wsL_law_r19 ++ (wsL_law_r20 ++ (wsL_law_r21 ++ (wsL_law_r22 ++ (wsL_law_r23 ++ (wsL_law_r24 ++ (wsL_law_r25 ++ (wsL_law_r26 ++ (wsL_law_r27 ++ (wsL_law_r28 ++ (wsL_law_r29 ++ (wsL_law_r30 ++ (wsL_law_r31 ++ (wsL_law_r32 ++ (wsL_law_r33 ++ (wsL_law_r34 ++ (wsL_law_r35 ++ (wsL_law_r36 ++ (wsL_law_r37 ++ (wsL_law_r38 ++ (wsL_law_r39 ++ (wsL_law_r40 ++ wsL_law_r41)))))))))))))))))))))))))))))))))))))))) ++ wsX50 ++ wsX60 ++ wsX00 ++ wsX40 ++ wsX20 ++ wsX30 ++ wsX10 ++ ([] : List Cond)
theorem inlX0 : ∀ w ∈ wsX00, w ∈ wsL_law := fun _ h => List.mem_append_left _ (List.mem_append_left _ (List.mem_append_left _ (List.mem_append_left _ (List.mem_append_left _ (List.mem_append_right _ h)))))
theorem inlX1 : ∀ w ∈ wsX10, w ∈ wsL_law := fun _ h => List.mem_append_left _ (List.mem_append_right _ h)
theorem inlX2 : ∀ w ∈ wsX20, w ∈ wsL_law := fun _ h => List.mem_append_left _ (List.mem_append_left _ (List.mem_append_left _ (List.mem_append_right _ h)))
theorem inlX3 : ∀ w ∈ wsX30, w ∈ wsL_law := fun _ h => List.mem_append_left _ (List.mem_append_left _ (List.mem_append_right _ h))
theorem inlX4 : ∀ w ∈ wsX40, w ∈ wsL_law := fun _ h => List.mem_append_left _ (List.mem_append_left _ (List.mem_append_left _ (List.mem_append_left _ (List.mem_append_right _ h))))
theorem inlX5 : ∀ w ∈ wsX50, w ∈ wsL_law := fun _ h => List.mem_append_left _ (List.mem_append_left _ (List.mem_append_left _ (List.mem_append_left _ (List.mem_append_left _ (List.mem_append_left _ (List.mem_append_left _ (List.mem_append_right _ h)))))))
theorem inlX6 : ∀ w ∈ wsX60, w ∈ wsL_law := fun _ h => List.mem_append_left _ (List.mem_append_left _ (List.mem_append_left _ (List.mem_append_left _ (List.mem_append_left _ (List.mem_append_left _ (List.mem_append_right _ h))))))
abbrev vwCl : List vw_C := [(RX0, TX0, 8), (RX1, TX1, 12), (RX2, TX2, 3), (RX3, TX3, 3), (RX4, TX4, 3), (RX5, TX5, 13), (RX6, TX6, 29)]
end
section
/-! ===== a small machine over a fixed world: cells by number, whole numbers; WP says what the real machine does from a place of a method on ===== -/
abbrev MV : Type := Nat × Int
def vI (z : Int) : MV := (0, z)
def vL (z : Int) : MV := (1, z)
def vR (k : Nat) : MV := (2, (k : Int))
def vU : MV := (3, 0)
def reV (ad : Nat → Nat) (v : MV) : Value := match v.1 with
  | 0 => .int (Int32.ofInt v.2)
  | 1 => .long (Int64.ofInt v.2)
  | _ => .ref (ad v.2.toNat)
theorem reV_I (ad : Nat → Nat) (z : Int) : reV ad (vI z) = .int (Int32.ofInt z) := rfl
theorem reV_L (ad : Nat → Nat) (z : Int) : reV ad (vL z) = .long (Int64.ofInt z) := rfl
theorem reV_R (ad : Nat → Nat) (k : Nat) : reV ad (vR k) = .ref (ad k) := rfl
def w32 (z : Int) : Int := Int.bmod z 4294967296
def w64 (z : Int) : Int := Int.bmod z 18446744073709551616
def c32 (z : Int) : Prop := -2147483648 ≤ z ∧ z ≤ 2147483647
def c64 (z : Int) : Prop := -9223372036854775808 ≤ z ∧ z ≤ 9223372036854775807
theorem w32_id {z : Int} (h : c32 z) : w32 z = z := by
  obtain ⟨h1, h2⟩ := h
  exact Int.bmod_eq_of_le (by omega) (by omega)
theorem w64_id {z : Int} (h : c64 z) : w64 z = z := by
  obtain ⟨h1, h2⟩ := h
  exact Int.bmod_eq_of_le (by omega) (by omega)
theorem w32_c (z : Int) : c32 (w32 z) := by
  have h1 := Int.le_bmod (x := z) (m := 4294967296) (by decide)
  have h2 := Int.bmod_lt (x := z) (m := 4294967296) (by decide)
  unfold c32 w32
  constructor <;> omega
theorem w64_c (z : Int) : c64 (w64 z) := by
  have h1 := Int.le_bmod (x := z) (m := 18446744073709551616) (by decide)
  have h2 := Int.bmod_lt (x := z) (m := 18446744073709551616) (by decide)
  unfold c64 w64
  constructor <;> omega
theorem toInt_w32 (z : Int) : (Int32.ofInt z).toInt = w32 z := Int32.toInt_ofInt
theorem toInt_w64 (z : Int) : (Int64.ofInt z).toInt = w64 z := Int64.toInt_ofInt
theorem ofInt_toInt32 (x : Int32) : Int32.ofInt x.toInt = x := Int32.ofInt_toInt x
theorem ofInt_toInt64 (x : Int64) : Int64.ofInt x.toInt = x := Int64.ofInt_toInt x
theorem ofInt_w32 (z : Int) : Int32.ofInt (w32 z) = Int32.ofInt z := by rw [← toInt_w32, ofInt_toInt32]
theorem ofInt_w64 (z : Int) : Int64.ofInt (w64 z) = Int64.ofInt z := by rw [← toInt_w64, ofInt_toInt64]
theorem ti32 {z : Int} (h : c32 z) : (Int32.ofInt z).toInt = z := by rw [toInt_w32, w32_id h]
theorem ti64 {z : Int} (h : c64 z) : (Int64.ofInt z).toInt = z := by rw [toInt_w64, w64_id h]
theorem lt32 {a b : Int} (ha : c32 a) (hb : c32 b) : Int32.ofInt a < Int32.ofInt b ↔ a < b := by rw [Int32.lt_iff_toInt_lt, ti32 ha, ti32 hb]
theorem le32 {a b : Int} (ha : c32 a) (hb : c32 b) : Int32.ofInt a ≤ Int32.ofInt b ↔ a ≤ b := by rw [Int32.le_iff_toInt_le, ti32 ha, ti32 hb]
theorem eq32 {a b : Int} (ha : c32 a) (hb : c32 b) : Int32.ofInt a = Int32.ofInt b ↔ a = b := by rw [← Int32.toInt_inj, ti32 ha, ti32 hb]
theorem lt64 {a b : Int} (ha : c64 a) (hb : c64 b) : Int64.ofInt a < Int64.ofInt b ↔ a < b := by rw [Int64.lt_iff_toInt_lt, ti64 ha, ti64 hb]
theorem eq64 {a b : Int} (ha : c64 a) (hb : c64 b) : Int64.ofInt a = Int64.ofInt b ↔ a = b := by rw [← Int64.toInt_inj, ti64 ha, ti64 hb]
theorem add32 (a b : Int) : Int32.ofInt a + Int32.ofInt b = Int32.ofInt (a + b) := (Int32.ofInt_add a b).symm
theorem c0 : c32 0 := ⟨by decide, by decide⟩
theorem z32 : (0 : Int32) = Int32.ofInt 0 := by decide +kernel
theorem in32 {i : Int} {n : Nat} (h0 : 0 ≤ i) (h1 : i < n) (hc : c32 i) : vp_in (Int32.ofInt i) n := by
  rw [vp_in_iff, ti32 hc]
  exact ⟨h0, h1⟩
theorem cl32 {i : Int} (h0 : 0 ≤ i) (hc : c32 i) : (Int32.ofInt i).toNatClampNeg = i.toNat := by
  show (Int32.ofInt i).toInt.toNat = _
  rw [ti32 hc]
abbrev HP : Type := Nat → Nat → Int
/-- a heap with one place set -/
def hu (D : HP) (k i : Nat) (z : Int) : HP := fun a b => if a = k ∧ b = i then z else D a b
theorem hu_s (D : HP) (k i : Nat) (z : Int) : hu D k i z k i = z := by simp [hu]
theorem hu_k (D : HP) {k i a b : Nat} (z : Int) (h : a ≠ k) : hu D k i z a b = D a b := by simp [hu, h]
theorem hu_i (D : HP) {k i a b : Nat} (z : Int) (h : b ≠ i) : hu D k i z a b = D a b := by simp [hu, h]
def KC : List (Nat × Nat) := [(0, 5), (4, 3), (0, 2), (0, 2), (0, 2), (1, 39), (1, 39), (1, 39), (1, 3), (0, 0), (0, 1), (1, 25), (1, 100), (1, 100), (1, 12), (1, 12), (1, 8), (1, 8), (1, 8), (1, 25), (1, 13), (1, 104), (1, 12), (1, 12), (1, 12), (0, 0), (0, 1), (1, 25), (1, 100), (1, 100), (1, 12), (1, 12), (1, 8), (1, 8), (1, 8), (1, 25), (1, 13), (1, 104), (1, 12), (1, 12), (1, 12), (0, 4), (1, 8), (1, 8), (5, 4), (0, 3), (0, 3), (0, 3), (0, 3), (1, 60), (1, 60), (1, 60), (1, 60), (1, 108), (3, 8), (3, 13), (0, 6), (1, 3), (1, 117), (2, 26), (1, 12), (1, 12), (1, 9), (1, 9), (1, 9), (1, 104), (1, 8), (2, 8), (2, 8), (1, 12), (1, 8), (1, 8), (2, 40), (1, 480), (1, 12), (2, 4), (1, 4), (1, 4), (1, 240), (1, 60)]
def SRT : List (List Nat) := [[1, 8, 9, 25, 41, 44, 0, 0, 0, 53, 0, 54, 55], [2, 3, 4], [5], [6], [7], [], [], [], [], [10, 0, 19, 20, 21, 22, 23, 24], [0, 0, 0, 0, 11, 12, 13, 14, 15, 16, 17, 18], [], [], [], [], [], [], [], [], [], [], [], [], [], [], [26, 0, 35, 36, 37, 38, 39, 40], [0, 0, 0, 0, 27, 28, 29, 30, 31, 32, 33, 34], [], [], [], [], [], [], [], [], [], [], [], [], [], [], [0, 42, 43], [], [], [45, 46, 47, 48], [0, 0, 49], [0, 0, 50], [0, 0, 51], [0, 0, 52], [], [], [], [], [], [], [], [57, 58, 0, 0, 59, 0, 60, 61, 0, 62, 63, 64, 65, 66, 67, 68, 69, 0, 70, 71, 72, 73, 74, 75, 76, 77, 78, 79], [], [], [], [], [], [], [], [], [], [], [], [], [], [], [], [], [], [], [], [], [], [], []]
def FKT : List (List Nat) := [[2, 0, 2, 2, 2, 2, 2, 2], [0, 0, 0, 0, 2, 2, 2, 2, 2, 2, 2, 2], [2, 0, 0], [0, 0, 2], [0, 2, 2], [2, 2, 2, 2, 2, 2, 0, 0, 1, 2, 0, 2, 2], [2, 2, 0, 0, 2, 0, 2, 2, 0, 2, 2, 2, 2, 2, 2, 2, 2, 0, 2, 2, 2, 2, 2, 2, 2, 2, 2, 2, 0]]
/-! the world -/
def kc (k : Nat) : Nat × Nat := KC.getD k (9, 0)
def sr (k i : Nat) : Nat := (SRT.getD k []).getD i 0
def fk (ci i : Nat) : Nat := (FKT.getD ci []).getD i 9
def nf (ci : Nat) : Nat := (FKT.getD ci []).length
def fV (ad : Nat → Nat) (D : HP) (k ci i : Nat) : Value := match fk ci i with
  | 0 => .int (Int32.ofInt (D k i))
  | 1 => .long (Int64.ofInt (D k i))
  | _ => .ref (ad (sr k i))
def cellOf (ad : Nat → Nat) (cA : Nat → ClassId) (D : HP) (k : Nat) : va_E := match (kc k).1 with
  | 0 => .inr ((kc k).2, (List.range (nf (kc k).2)).map (fV ad D k (kc k).2))
  | 1 => .inl (cA 1, (kc k).2, .inl (fun j => Int32.ofInt (D k j)))
  | 2 => .inl (cA 2, (kc k).2, .inl (fun j => Int32.ofInt (D k j)))
  | 3 => .inl (cA 3, (kc k).2, .inr (.inl (fun j => Int64.ofInt (D k j))))
  | 4 => .inl (cA 4, (kc k).2, .inr (.inr (.inr (.inr (fun j => some (ad (sr k j)))))))
  | _ => .inl (cA 5, (kc k).2, .inr (.inr (.inr (.inr (fun j => some (ad (sr k j)))))))
def tysOf (cA : Nat → ClassId) : List (ClassId × FieldType) := [(cA 1, .int), (cA 2, .boolean), (cA 3, .long), (cA 4, .object RX2), (cA 5, .object RX3)]
def WD (ad : Nat → Nat) (cA : Nat → ClassId) (D : HP) : va_W := (List.range 80).map (fun k => (ad k, cellOf ad cA D k))
theorem WD_at (ad : Nat → Nat) (cA : Nat → ClassId) (D : HP) {k : Nat} (h : k < 80) : (WD ad cA D)[k]? = some (ad k, cellOf ad cA D k) := by simp [WD, h]
def GA (ad : Nat → Nat) : Prop := ∀ i j, i < 80 → j < 80 → ad i = ad j → i = j
def AW (ad : Nat → Nat) : Nat → Prop := fun q => ∃ k, k < 80 ∧ q = ad k
theorem WD_D {ad : Nat → Nat} {cA : Nat → ClassId} {D : HP} (h : GA ad) : va_D (AW ad) (WD ad cA D) := by
  refine ⟨fun i j p q hi hj hpq => ?_, fun k q hk => ?_⟩
  · by_cases i1 : i < 80
    · by_cases j1 : j < 80
      · rw [WD_at _ _ _ i1] at hi
        rw [WD_at _ _ _ j1] at hj
        cases hi; cases hj
        exact h i j i1 j1 hpq
      · simp [WD, j1] at hj
    · simp [WD, i1] at hi
  · by_cases k1 : k < 80
    · rw [WD_at _ _ _ k1] at hk
      cases hk
      exact ⟨k, k1, rfl⟩
    · simp [WD, k1] at hk
theorem kc_lt {k a b : Nat} (h : kc k = (a, b)) (ha : a < 9) : k < 80 := by
  rcases Nat.lt_or_ge k 80 with q | q
  · exact q
  · exfalso
    have : KC[k]? = none := by rw [List.getElem?_eq_none_iff]; exact q
    simp [kc, List.getD, this] at h
    omega
/-- two worlds that differ in one cell -/
theorem WD_set {ad : Nat → Nat} {cA : Nat → ClassId} {D D' : HP} {k : Nat} (hk : k < 80) {e : va_E} (he : cellOf ad cA D' k = e) (ho : ∀ a, a ≠ k → cellOf ad cA D' a = cellOf ad cA D a) : (WD ad cA D).set k (ad k, e) = WD ad cA D' := by
  refine List.ext_getElem? fun i => ?_
  rw [List.getElem?_set]
  by_cases hi : k = i
  · subst hi
    rw [if_pos rfl, WD_at _ _ _ hk, he]
    simp [WD, hk]
  · rw [if_neg hi]
    by_cases h1 : i < 80
    · rw [WD_at _ _ _ h1, WD_at _ _ _ h1, ho i (fun q => hi q.symm)]
    · simp [WD, h1]
theorem cellOf_ne {ad : Nat → Nat} {cA : Nat → ClassId} {D : HP} {k i a : Nat} {z : Int} (h : a ≠ k) : cellOf ad cA (hu D k i z) a = cellOf ad cA D a := by
  have h1 : ∀ j, hu D k i z a j = D a j := fun j => hu_k D z h
  have h2 : ∀ c j, fV ad (hu D k i z) a c j = fV ad D a c j := fun c j => by unfold fV; rw [h1]
  unfold cellOf
  rw [show (fun j => Int32.ofInt (hu D k i z a j)) = (fun j => Int32.ofInt (D a j)) from funext fun j => by rw [h1], show (fun j => Int64.ofInt (hu D k i z a j)) = (fun j => Int64.ofInt (D a j)) from funext fun j => by rw [h1], show fV ad (hu D k i z) a (kc a).2 = fV ad D a (kc a).2 from funext fun j => h2 _ j]
/-! values in range -/
def isL (k i : Nat) : Bool := (kc k).1 == 3 || ((kc k).1 == 0 && fk (kc k).2 i == 1)
def cB (b : Bool) (z : Int) : Prop := match b with | true => c64 z | false => c32 z
def cD (D : HP) : Prop := ∀ k i, cB (isL k i) (D k i)
def cV (v : MV) : Prop := match v.1 with | 0 => c32 v.2 | 1 => c64 v.2 | _ => True
def cVs (l : List MV) : Prop := ∀ v ∈ l, cV v
theorem cD_i {D : HP} (h : cD D) {k i : Nat} (hl : isL k i = false) : c32 (D k i) := by have := h k i; rw [hl] at this; exact this
theorem cD_l {D : HP} (h : cD D) {k i : Nat} (hl : isL k i = true) : c64 (D k i) := by have := h k i; rw [hl] at this; exact this
theorem cD_u {D : HP} (h : cD D) {k i : Nat} {z : Int} (hz : cB (isL k i) z) : cD (hu D k i z) := by
  intro a b
  unfold hu
  by_cases q : a = k ∧ b = i
  · rw [if_pos q, q.1, q.2]; exact hz
  · rw [if_neg q]; exact h a b
theorem cVs_nil : cVs [] := fun _ h => by cases h
theorem cVs_c {v : MV} {l : List MV} (h : cV v) (hl : cVs l) : cVs (v :: l) := fun w hw => (List.mem_cons.mp hw).elim (fun e => e ▸ h) (hl w)
theorem cVs_h {v : MV} {l : List MV} (h : cVs (v :: l)) : cV v := h v List.mem_cons_self
theorem cVs_t {v : MV} {l : List MV} (h : cVs (v :: l)) : cVs l := fun w hw => h w (List.mem_cons_of_mem _ hw)
theorem cVs_g {l : List MV} (h : cVs l) {i : Nat} {v : MV} (hi : l[i]? = some v) : cV v := h v (List.mem_of_getElem? hi)
theorem cVs_set {l : List MV} (h : cVs l) (i : Nat) {v : MV} (hv : cV v) : cVs (l.set i v) := fun w hw => by
  rcases List.mem_or_eq_of_mem_set hw with q | q
  · exact h w q
  · rw [q]; exact hv
theorem cVs_app {a b : List MV} (ha : cVs a) (hb : cVs b) : cVs (a ++ b) := fun w hw => (List.mem_append.mp hw).elim (ha w) (hb w)
/-! locals -/
def lvl (ad : Nat → Nat) : List MV → Nat → List (Nat × Value)
  | [], _ => []
  | v :: t, i => if v.1 < 3 then (i, reV ad v) :: lvl ad t (i + 1) else lvl ad t (i + 1)
theorem lvl_mem {ad : Nat → Nat} : ∀ {ls : List MV} {o : Nat} {q : Nat × Value}, q ∈ lvl ad ls o ↔ ∃ i v, ls[i]? = some v ∧ v.1 < 3 ∧ q = (o + i, reV ad v)
  | [], o, q => by simp [lvl]
  | v :: t, o, q => by
    have ih := @lvl_mem ad t (o + 1) q
    constructor
    · intro h
      unfold lvl at h
      split at h
      · rename_i hv
        rcases List.mem_cons.mp h with rfl | h
        · exact ⟨0, v, rfl, hv, rfl⟩
        · obtain ⟨i, w, h1, h2, h3⟩ := ih.mp h
          exact ⟨i + 1, w, h1, h2, by rw [h3]; congr 1; omega⟩
      · obtain ⟨i, w, h1, h2, h3⟩ := ih.mp h
        exact ⟨i + 1, w, h1, h2, by rw [h3]; congr 1; omega⟩
    · rintro ⟨i, w, h1, h2, h3⟩
      unfold lvl
      cases i with
      | zero =>
        have : v = w := by simpa using h1
        subst this
        rw [if_pos h2, h3]
        exact List.mem_cons_self
      | succ i =>
        have h4 : q ∈ lvl ad t (o + 1) := ih.mpr ⟨i, w, by simpa using h1, h2, by rw [h3]; congr 1; omega⟩
        split
        · exact List.mem_cons_of_mem _ h4
        · exact h4
def LR (ad : Nat → Nat) (n : Nat) (ls : List MV) (lsR : Array Slot) : Prop := lv_has lsR n (lvl ad ls 0)
theorem LR_at {ad : Nat → Nat} {n : Nat} {ls : List MV} {lsR : Array Slot} (h : LR ad n ls lsR) {i : Nat} {v : MV} (hi : ls[i]? = some v) (hv : v.1 < 3) : lsR[i]? = some (.val (reV ad v)) :=
  h.2.2 (i, reV ad v) (lvl_mem.mpr ⟨i, v, hi, hv, by rw [Nat.zero_add]⟩)
theorem reV_cat {ad : Nat → Nat} {v : MV} : (reV ad v).category = if v.1 = 1 then 2 else 1 := by
  obtain ⟨t, z⟩ := v
  match t with
  | 0 => rfl
  | 1 => rfl
  | t + 2 => rfl
/-- a store: what a long's half leaves is cleared -/
def st1 (ls : List MV) (i : Nat) (v : MV) : List MV := (match i with | 0 => ls | j + 1 => if (ls.getD j vU).1 = 1 then ls.set j vU else ls).set i v
def st2 (ls : List MV) (i : Nat) (v : MV) : List MV := ((match i with | 0 => ls | j + 1 => if (ls.getD j vU).1 = 1 then ls.set j vU else ls).set i v).set (i + 1) vU
theorem set_some {l : List MV} {i : Nat} {v w : MV} (h : (l.set i v)[i]? = some w) : w = v := by
  rw [List.getElem?_set] at h
  by_cases q : i < l.length
  · simp [q] at h; exact h.symm
  · simp [q] at h
theorem LR_st1 {ad : Nat → Nat} {n : Nat} {ls : List MV} {lsR : Array Slot} {i : Nat} {v : MV} (h : lv_has lsR n ((i, reV ad v) :: (lvl ad ls 0).filter (fun q => !(q.1 == i) && !(q.1 + 1 == i && q.2.category == 2)))) : LR ad n (st1 ls i v) lsR := by
  refine ⟨h.1, h.2.1, fun q hq => ?_⟩
  obtain ⟨j, w, h1, h2, h3⟩ := lvl_mem.mp hq
  rw [Nat.zero_add] at h3
  subst h3
  refine h.2.2 _ ?_
  by_cases e : j = i
  · subst e
    unfold st1 at h1
    rw [set_some h1]; exact List.mem_cons_self
  · refine List.mem_cons_of_mem _ (List.mem_filter.mpr ⟨?_, ?_⟩)
    · unfold st1 at h1
      rw [List.getElem?_set, if_neg (fun q => e q.symm)] at h1
      refine lvl_mem.mpr ⟨j, w, ?_, h2, by rw [Nat.zero_add]⟩
      cases i with
      | zero => exact h1
      | succ k =>
        dsimp only at h1
        split at h1
        · rw [List.getElem?_set] at h1
          split at h1
          · split at h1
            · cases h1; simp [vU] at h2
            · cases h1
          · exact h1
        · exact h1
    · simp only [Bool.and_eq_true, Bool.not_eq_true', beq_eq_false_iff_ne, ne_eq, Bool.and_eq_false_iff]
      refine ⟨e, ?_⟩
      by_cases e2 : j + 1 = i
      · right
        subst e2
        unfold st1 at h1
        rw [List.getElem?_set, if_neg (by omega)] at h1
        dsimp only at h1
        rw [reV_cat]
        split at h1
        · rename_i hc
          rw [List.getElem?_set] at h1
          simp only [if_true] at h1
          split at h1
          · cases h1; simp [vU] at h2
          · cases h1
        · rename_i hc
          simp only [List.getD, h1, Option.getD_some] at hc
          rw [if_neg hc]
          decide
      · left; exact e2
theorem LR_st2 {ad : Nat → Nat} {n : Nat} {ls : List MV} {lsR : Array Slot} {i : Nat} {v : MV} (h : lv_has lsR n ((i, reV ad v) :: (lvl ad ls 0).filter (fun q => !(q.1 == i) && (!(q.1 == i + 1) && !(q.1 + 1 == i && q.2.category == 2))))) : LR ad n (st2 ls i v) lsR := by
  refine ⟨h.1, h.2.1, fun q hq => ?_⟩
  obtain ⟨j, w, h1, h2, h3⟩ := lvl_mem.mp hq
  rw [Nat.zero_add] at h3
  subst h3
  refine h.2.2 _ ?_
  unfold st2 at h1
  by_cases e3 : i + 1 = j
  · rw [← e3] at h1
    rw [set_some h1] at h2; simp [vU] at h2
  rw [List.getElem?_set, if_neg e3] at h1
  by_cases e : j = i
  · subst e
    rw [set_some h1]; exact List.mem_cons_self
  · refine List.mem_cons_of_mem _ (List.mem_filter.mpr ⟨?_, ?_⟩)
    · rw [List.getElem?_set, if_neg (fun q => e q.symm)] at h1
      refine lvl_mem.mpr ⟨j, w, ?_, h2, by rw [Nat.zero_add]⟩
      cases i with
      | zero => exact h1
      | succ k =>
        dsimp only at h1
        split at h1
        · rw [List.getElem?_set] at h1
          split at h1
          · split at h1
            · cases h1; simp [vU] at h2
            · cases h1
          · exact h1
        · exact h1
    · simp only [Bool.and_eq_true, Bool.not_eq_true', beq_eq_false_iff_ne, ne_eq, Bool.and_eq_false_iff]
      refine ⟨e, fun q => e3 q.symm, ?_⟩
      by_cases e2 : j + 1 = i
      · right
        subst e2
        rw [List.getElem?_set, if_neg (by omega)] at h1
        dsimp only at h1
        rw [reV_cat]
        split at h1
        · rename_i hc
          rw [List.getElem?_set] at h1
          simp only [if_true] at h1
          split at h1
          · cases h1; simp [vU] at h2
          · cases h1
        · rename_i hc
          simp only [List.getD, h1, Option.getD_some] at hc
          rw [if_neg hc]
          decide
      · left; exact e2
theorem cVs_st1 {ls : List MV} (h : cVs ls) (i : Nat) {v : MV} (hv : cV v) : cVs (st1 ls i v) := by
  unfold st1
  cases i with
  | zero => exact cVs_set h _ hv
  | succ j =>
    dsimp only
    split
    · exact cVs_set (cVs_set h _ (show cV vU from trivial)) _ hv
    · exact cVs_set h _ hv
theorem cVs_st2 {ls : List MV} (h : cVs ls) (i : Nat) {v : MV} (hv : cV v) : cVs (st2 ls i v) := by
  unfold st2
  cases i with
  | zero => exact cVs_set (cVs_set h _ hv) _ (show cV vU from trivial)
  | succ j =>
    dsimp only
    split
    · exact cVs_set (cVs_set (cVs_set h _ (show cV vU from trivial)) _ hv) _ (show cV vU from trivial)
    · exact cVs_set (cVs_set h _ hv) _ (show cV vU from trivial)
/-! methods -/
/-- name, bytes, locals, answer, frames below, words below -/
abbrev MI : Type := MethodName × ByteArray × Nat × Option FieldType × Nat × Nat
def rmO (mi : MI) : Room := { frames := mi.2.2.2.2.1, cells := 0, slots := 0, locals := mi.2.2.2.2.2 }
def wsO (mi : MI) : List Cond := Cond.code mi.1 mi.2.1 mi.2.2.1 mi.2.2.2.1 :: wsL_law
def okR (ret : Option FieldType) (r : Option MV) : Prop := match ret with
  | none => r = none
  | some .long => ∃ z, r = some (vL z) ∧ c64 z
  | some _ => ∃ z, r = some (vI z) ∧ c32 z
def QX (ret : Option FieldType) (Q : Option MV → HP → Prop) (ad : Nat → Nat) (cA : Nat → ClassId) (dC : Nat → ClassId) (dI : Nat → Nat → Nat) : Array Value → State → Outcome → State → Prop := fun _ st o t =>
  (∃ (r : Option MV) (D' : HP), o = .returned (r.map (reV ad)) ∧ okR ret r ∧ cD D' ∧ Q r D' ∧ va_P (dC, dI) vwCl (WD ad cA D') t.heap) ∧ va_F (AW ad) st t
def PX (ad : Nat → Nat) (cA : Nat → ClassId) (dC : Nat → ClassId) (dI : Nat → Nat → Nat) (as : List MV) (D : HP) : Array Value → State → Prop := va_Pc (as.map (reV ad)) (fun U => va_P (dC, dI) vwCl (WD ad cA D) U.heap ∧ va_K (dC, dI) vwCl (tysOf cA) U)
/-- what holds in a method's frame -/
def GX (mi : MI) (p : Program) (s : State) (m : MethodId) (args : Array Value) (meth : Method) (c : Code) : Prop :=
  p.tables.exec = Jvm.exec ∧ c.code = mi.2.1 ∧ meth.sig.returnType = mi.2.2.2.1 ∧ (∀ w ∈ wsL_law, w.before args s = true) ∧ s.vm.findClass mi.1.cls = some m.cls ∧ meth.locks = false ∧ c.maxLocals = mi.2.2.1
def WP (mi : MI) (Q : Option MV → HP → Prop) (pc : Nat) (ls st : List MV) (D : HP) : Prop :=
  cVs ls → cVs st → cD D → ∀ (ad : Nat → Nat) (cA : Nat → ClassId) (dC : Nat → ClassId) (dI : Nat → Nat → Nat) (p : Program) (l : Launch) (e : Env) (s : State) (m : MethodId) (args : Array Value) (below : List Frame) (meth : Method) (c : Code) (H : Heap) (lsR : Array Slot) (locs : List Loc),
    GA ad → GX mi p s m args meth c → va_K (dC, dI) vwCl (tysOf cA) s → va_P (dC, dI) vwCl (WD ad cA D) H → va_S (AW ad) s.heap H locs → LR ad mi.2.2.1 ls lsR →
    W p l e (rmO mi) s m args below meth c H locs 0 0 (MQ below (QX mi.2.2.2.1 Q ad cA dC dI) args s 0 0 (AW ad)) (F0 m pc lsR (st.map (reV ad)))
def CT (mi : MI) (as : List MV) (D : HP) (Q : Option MV → HP → Prop) : Prop := cVs as → cD D → ∀ (l : Launch) (ad : Nat → Nat) (cA : Nat → ClassId) (dC : Nat → ClassId) (dI : Nat → Nat → Nat), GA ad →
  Met l mi.1 (wsO mi) (rmO mi) (PX ad cA dC dI as D) (QX mi.2.2.2.1 Q ad cA dC dI) 0 0 (AW ad)
def entL (n : Nat) (as : List MV) : List MV := as.flatMap (fun v => if v.1 = 1 then [v, vU] else [v]) ++ List.replicate n vU
theorem entL_mem {ad : Nat → Nat} (n : Nat) : ∀ (as : List MV) (o : Nat), ∀ q ∈ lvl ad (entL n as) o, q ∈ lv_args o (as.map (reV ad))
  | [], o, q, h => by
    obtain ⟨i, v, h1, h2, h3⟩ := lvl_mem.mp h
    simp only [entL, List.flatMap_nil, List.nil_append] at h1
    have := List.eq_of_mem_replicate (List.mem_of_getElem? h1)
    subst this
    simp [vU] at h2
  | v :: t, o, q, h => by
    have ih := entL_mem (ad := ad) n t
    unfold entL at h ih
    simp only [List.flatMap_cons, List.append_assoc] at h
    show q ∈ (o, reV ad v) :: lv_args _ (t.map (reV ad))
    rw [reV_cat]
    by_cases hv : v.1 = 1
    · rw [if_pos hv] at h
      rw [if_pos hv, if_pos rfl]
      simp only [List.cons_append, List.nil_append] at h
      unfold lvl at h
      rw [if_pos (by omega)] at h
      rcases List.mem_cons.mp h with h | h
      · rw [h]; exact List.mem_cons_self
      · unfold lvl at h
        rw [if_neg (by simp [vU])] at h
        exact List.mem_cons_of_mem _ (ih _ q h)
    · rw [if_neg hv] at h
      rw [if_neg hv, if_neg (by decide)]
      simp only [List.cons_append, List.nil_append] at h
      unfold lvl at h
      split at h
      · rcases List.mem_cons.mp h with h | h
        · rw [h]; exact List.mem_cons_self
        · exact List.mem_cons_of_mem _ (ih _ q h)
      · exact List.mem_cons_of_mem _ (ih _ q h)
theorem LR_entL {ad : Nat → Nat} {n k : Nat} {as : List MV} {lsR : Array Slot} (h : lv_has lsR k (lv_args 0 (as.map (reV ad)))) : LR ad k (entL n as) lsR := ⟨h.1, h.2.1, fun q hq => h.2.2 q (entL_mem n as 0 q hq)⟩
theorem cVs_entL {n : Nat} {as : List MV} (h : cVs as) : cVs (entL n as) := by
  refine cVs_app (fun w hw => ?_) (fun w hw => ?_)
  · obtain ⟨v, hv, hw⟩ := List.mem_flatMap.mp hw
    split at hw
    · rcases List.mem_cons.mp hw with q | q
      · rw [q]; exact h v hv
      · rw [List.mem_singleton.mp q]; trivial
    · rw [List.mem_singleton.mp hw]; exact h v hv
  · rw [List.eq_of_mem_replicate hw]; trivial
theorem CT.of {mi : MI} {as : List MV} {D : HP} {Q : Option MV → HP → Prop} (n : Nat) (hy : plainName mi.1.cls = true) (hn : (lg_sl (as.map (reV (fun k => k)))).length ≤ mi.2.2.1) (h : WP mi Q 0 (entL n as) [] D) : CT mi as D Q := by
  intro ha hD l ad cA dC dI hA
  refine Met.ofW (cc := mi.2.1) (maxL := mi.2.2.1) (ret := mi.2.2.2.1) hy rfl ?_
  intro p e s m args below meth c s₁ B hml hv
  obtain ⟨rfl, hP, hK⟩ := hv
  have hts := atoms_spec (ws := wsO mi) B.pre
  have hown : s.vm.findClass mi.1.cls = some m.cls := findClass_of_methodNamed B.named
  have hlen : (lg_sl (as.map (reV ad))).length ≤ mi.2.2.1 := by
    have e : ∀ f g : Nat → Nat, (lg_sl (as.map (reV f))).length = (lg_sl (as.map (reV g))).length := by
      intro f g
      simp only [lg_sl, List.length_flatMap, List.map_map]
      congr 1
      refine List.map_congr_left fun v _ => ?_
      simp only [Function.comp, reV_cat]
      split <;> simp
    rw [e ad (fun k => k)]
    exact hn
  have hl := lv_entry (as.map (reV ad)) hlen
  rw [lg_entry_eq]
  exact h (cVs_entL ha) cVs_nil hD ad cA dC dI p l e s m _ below meth c s.heap _ [] hA ⟨B.exec, B.bytes, B.returns, fun w hw => hts w (List.mem_cons_of_mem _ hw), hown, B.notSynchronized, hml⟩ hK hP va_S.rf (LR_entL hl)
end
section
theorem c32_ti (x : Int32) : c32 x.toInt := ⟨x.le_toInt, by have := x.toInt_lt; omega⟩
theorem c64_ti (x : Int64) : c64 x.toInt := ⟨x.le_toInt, by have := x.toInt_lt; omega⟩
theorem bip {z : Int} (h : -128 ≤ z ∧ z ≤ 127) : (Int8.ofInt z).toInt32 = Int32.ofInt z := by
  rw [← Int32.toInt_inj, Int8.toInt_toInt32, ti32 ⟨by omega, by omega⟩, Int8.toInt_ofInt]
  exact Int.bmod_eq_of_le (by have : (Int8.size : Int) = 256 := rfl; omega) (by have : (Int8.size : Int) = 256 := rfl; omega)
theorem sip {z : Int} (h : -32768 ≤ z ∧ z ≤ 32767) : (Int16.ofInt z).toInt32 = Int32.ofInt z := by
  rw [← Int32.toInt_inj, Int16.toInt_toInt32, ti32 ⟨by omega, by omega⟩, Int16.toInt_ofInt]
  exact Int.bmod_eq_of_le (by have : (Int16.size : Int) = 65536 := rfl; omega) (by have : (Int16.size : Int) = 65536 := rfl; omega)
theorem i2l32 {a : Int} (h : c32 a) : (Int32.ofInt a).toInt64 = Int64.ofInt a := by
  rw [← Int64.toInt_inj, Int32.toInt_toInt64, ti32 h, ti64 ⟨by have := h.1; omega, by have := h.2; omega⟩]
theorem div_c {a b : Int} (h : c32 a) (h0 : 0 ≤ a) (h1 : 0 < b) : c32 (a / b) := ⟨by have := Int.ediv_nonneg h0 (Int.le_of_lt h1); omega, by have := Int.ediv_le_self b h0; have := h.2; omega⟩
theorem rem_c {a b : Int} (h : c32 a) (h0 : 0 ≤ a) (h1 : 0 < b) : c32 (a % b) := ⟨by have := Int.emod_nonneg a (Int.ne_of_gt h1); omega, by have := Int.emod_def a b; have := Int.ediv_nonneg h0 (Int.le_of_lt h1); have := Int.mul_nonneg (Int.le_of_lt h1) this; have := h.2; omega⟩
theorem divl_c {a b : Int} (h : c64 a) (h0 : 0 ≤ a) (h1 : 0 < b) : c64 (a / b) := ⟨by have := Int.ediv_nonneg h0 (Int.le_of_lt h1); omega, by have := Int.ediv_le_self b h0; have := h.2; omega⟩
theorem reml_c {a b : Int} (h : c64 a) (h0 : 0 ≤ a) (h1 : 0 < b) : c64 (a % b) := ⟨by have := Int.emod_nonneg a (Int.ne_of_gt h1); omega, by have := Int.emod_def a b; have := Int.ediv_nonneg h0 (Int.le_of_lt h1); have := Int.mul_nonneg (Int.le_of_lt h1) this; have := h.2; omega⟩
theorem div32 {a b : Int} (ha : c32 a) (hb : c32 b) (h0 : 0 ≤ a) (h1 : 0 < b) : Int32.ofInt a / Int32.ofInt b = Int32.ofInt (a / b) := by
  rw [← Int32.toInt_inj, Int32.toInt_div, ti32 ha, ti32 hb, ti32 (div_c ha h0 h1), Int.tdiv_eq_ediv_of_nonneg h0]
  exact w32_id (div_c ha h0 h1)
theorem rem32 {a b : Int} (ha : c32 a) (hb : c32 b) (h0 : 0 ≤ a) (h1 : 0 < b) : Int32.ofInt a - Int32.ofInt a / Int32.ofInt b * Int32.ofInt b = Int32.ofInt (a % b) := by
  rw [div32 ha hb h0 h1, ← Int32.ofInt_mul, ← Int32.ofInt_sub, Int.emod_def, Int.mul_comm]
theorem div64 {a b : Int} (ha : c64 a) (hb : c64 b) (h0 : 0 ≤ a) (h1 : 0 < b) : Int64.ofInt a / Int64.ofInt b = Int64.ofInt (a / b) := by
  rw [← Int64.toInt_inj, Int64.toInt_div, ti64 ha, ti64 hb, ti64 (divl_c ha h0 h1), Int.tdiv_eq_ediv_of_nonneg h0]
  exact w64_id (divl_c ha h0 h1)
theorem rem64 {a b : Int} (ha : c64 a) (hb : c64 b) (h0 : 0 ≤ a) (h1 : 0 < b) : Int64.ofInt a - Int64.ofInt a / Int64.ofInt b * Int64.ofInt b = Int64.ofInt (a % b) := by
  rw [div64 ha hb h0 h1, ← Int64.ofInt_mul, ← Int64.ofInt_sub, Int.emod_def, Int.mul_comm]
theorem ne32 {b : Int} (hb : c32 b) (h1 : 0 < b) : ¬ Int32.ofInt b = 0 := fun q => by
  have := (eq32 hb c0).mp q
  omega
theorem ne64 {b : Int} (hb : c64 b) (h1 : 0 < b) : ¬ Int64.ofInt b = 0 := fun q => by
  have := (eq64 hb (show c64 0 from ⟨by decide, by decide⟩)).mp q
  omega
theorem cmp_c (a b : Int) : c32 (if b < a then 1 else if a = b then 0 else -1) := by
  unfold c32
  split
  · decide
  · split <;> decide
theorem cmp64 {a b : Int} (ha : c64 a) (hb : c64 b) : lg_cmp (Int64.ofInt a) (Int64.ofInt b) = Int32.ofInt (if b < a then 1 else if a = b then 0 else -1) := by
  unfold lg_cmp
  by_cases h1 : b < a
  · rw [if_pos ((lt64 hb ha).mpr h1), if_pos h1]; rfl
  · rw [if_neg (fun q => h1 ((lt64 hb ha).mp q)), if_neg h1]
    by_cases h2 : a = b
    · rw [if_pos (by rw [h2]), if_pos h2]; rfl
    · rw [if_neg (fun q => h2 ((eq64 ha hb).mp q)), if_neg h2]; rfl
theorem nar_z {z : Int} (h : z = 0 ∨ z = 1) : vp_nar .boolean (Int32.ofInt z) = Int32.ofInt z := by rcases h with rfl | rfl <;> rfl
theorem upd_hu {D : HP} {k i : Nat} {z : Int} : (fun j => Int32.ofInt (hu D k i z k j)) = upd (fun j => Int32.ofInt (D k j)) i (Int32.ofInt z) := by
  funext j
  unfold upd hu
  by_cases h : j = i <;> simp [h]
theorem updL_hu {D : HP} {k i : Nat} {z : Int} : (fun j => Int64.ofInt (hu D k i z k j)) = vp_updL (fun j => Int64.ofInt (D k j)) i (Int64.ofInt z) := by
  funext j
  unfold vp_updL hu
  by_cases h : j = i <;> simp [h]
theorem fV_set {ad : Nat → Nat} {D : HP} {k ci j : Nat} {z : Int} {v : Value} (hj : v = fV ad (hu D k j z) k ci j) (h2 : j < nf ci) : (List.range (nf ci)).map (fV ad (hu D k j z) k ci) = ((List.range (nf ci)).map (fV ad D k ci)).set j v := by
  refine List.ext_getElem? fun i => ?_
  rw [List.getElem?_set]
  by_cases h : j = i
  · subst h
    simp [h2, hj]
  · rw [if_neg h]
    by_cases h3 : i < nf ci
    · simp only [List.getElem?_map, List.getElem?_range h3, Option.map_some]
      congr 1
      unfold fV
      rw [hu_i D z (fun q => h q.symm)]
    · simp [h3]
/-! fields by their words -/
def CLok (ci : Nat) (C : String) (T : u_T) (N : Nat) (ty : Nat → FieldType) : Prop := vwCl[ci]? = some (C, T, N) ∧ (∀ w ∈ u_ws C T N, w ∈ wsL_law) ∧ N = nf ci ∧ (∀ k, k < N → parseFieldDescriptor (T k).2.2.1 = some (ty k)) ∧ (∀ a, a < N → ∀ b, b < N → a ≠ b → (T a).2.1 ≠ (T b).2.1)
def FLok (own : String) (idx ci j : Nat) : Prop := ∃ (C : String) (T : u_T) (N : Nat) (ty : Nat → FieldType), CLok ci C T N ty ∧ j < N ∧ Cond.fieldLink own idx (T j).1 (T j).2.1 (T j).2.2.1 ∈ wsL_law
def FPok (own : String) (idx ci j : Nat) (t : FieldType) : Prop := ∃ (C : String) (T : u_T) (N : Nat) (ty : Nat → FieldType), CLok ci C T N ty ∧ j < N ∧ Cond.fieldLink own idx (T j).1 (T j).2.1 (T j).2.2.1 ∈ wsL_law ∧ (T j).2.2.2 = false ∧ parseFieldDescriptor (T j).2.2.1 = some t
section ROWS
variable {mi : MI} {Q : Option MV → HP → Prop} {pc : Nat} {ls st : List MV} {D : HP}
theorem WP_iconst {n z : Int} (hd : decode mi.2.1 pc = .ok (.iconst n, 1)) (hz : n = z) (hc : c32 z) (hn : WP mi Q (pc + 1) ls (vI z :: st) D) : WP mi Q pc ls st D := by
  subst hz
  intro hl hs hD ad cA dC dI p l e s m args below meth c H lsR locs hA hG hK hP hS hL
  exact lv_iconst hG.1 hG.2.1 hd rfl (hn hl (cVs_c hc hs) hD ad cA dC dI p l e s m args below meth c H lsR locs hA hG hK hP hS hL)
theorem WP_bipush {n z : Int} (hd : decode mi.2.1 pc = .ok (.bipush n, 2)) (hz : n = z) (hc : -128 ≤ z ∧ z ≤ 127) (hn : WP mi Q (pc + 2) ls (vI z :: st) D) : WP mi Q pc ls st D := by
  subst hz
  intro hl hs hD ad cA dC dI p l e s m args below meth c H lsR locs hA hG hK hP hS hL
  exact lv_bipush hG.1 hG.2.1 hd (bip hc) (hn hl (cVs_c (show c32 n from ⟨by omega, by omega⟩) hs) hD ad cA dC dI p l e s m args below meth c H lsR locs hA hG hK hP hS hL)
theorem WP_sipush {n z : Int} (hd : decode mi.2.1 pc = .ok (.sipush n, 3)) (hz : n = z) (hc : -32768 ≤ z ∧ z ≤ 32767) (hn : WP mi Q (pc + 3) ls (vI z :: st) D) : WP mi Q pc ls st D := by
  subst hz
  intro hl hs hD ad cA dC dI p l e s m args below meth c H lsR locs hA hG hK hP hS hL
  exact lv_sipush hG.1 hG.2.1 hd (sip hc) (hn hl (cVs_c (show c32 n from ⟨by omega, by omega⟩) hs) hD ad cA dC dI p l e s m args below meth c H lsR locs hA hG hK hP hS hL)
theorem WP_lconst {n : Fin 2} {z : Int} (hd : decode mi.2.1 pc = .ok (.lconst n, 1)) (hz : (n : Nat) = z) (hn : WP mi Q (pc + 1) ls (vL z :: st) D) : WP mi Q pc ls st D := by
  subst hz
  intro hl hs hD ad cA dC dI p l e s m args below meth c H lsR locs hA hG hK hP hS hL
  refine lv_lconst hG.1 hG.2.1 hd (v := Int64.ofInt ((n : Nat) : Int)) rfl (hn hl (cVs_c ?_ hs) hD ad cA dC dI p l e s m args below meth c H lsR locs hA hG hK hP hS hL)
  show c64 ((n : Nat) : Int)
  have := n.isLt
  exact ⟨by omega, by omega⟩
theorem WP_ldc {i : Nat} {v : Int32} {z : Int} (hw : Cond.constant mi.1.cls i v ∈ wsL_law) (hd : decode mi.2.1 pc = .ok (.ldc i, 2)) (hz : v.toInt = z) (hn : WP mi Q (pc + 2) ls (vI z :: st) D) : WP mi Q pc ls st D := by
  subst hz
  intro hl hs hD ad cA dC dI p l e s m args below meth c H lsR locs hA hG hK hP hS hL
  refine lv_ldc hG.1 hG.2.1 hG.2.2.2.2.1 (hG.2.2.2.1 _ hw) hd ?_
  have h := hn hl (cVs_c (c32_ti v) hs) hD ad cA dC dI p l e s m args below meth c H lsR locs hA hG hK hP hS hL
  rw [List.map_cons, reV_I, ofInt_toInt32] at h
  exact h
theorem WP_ldcw {i : Nat} {v : Int32} {z : Int} (hw : Cond.constant mi.1.cls i v ∈ wsL_law) (hd : decode mi.2.1 pc = .ok (.ldc_w i, 3)) (hz : v.toInt = z) (hn : WP mi Q (pc + 3) ls (vI z :: st) D) : WP mi Q pc ls st D := by
  subst hz
  intro hl hs hD ad cA dC dI p l e s m args below meth c H lsR locs hA hG hK hP hS hL
  refine lv_ldcw hG.1 hG.2.1 hG.2.2.2.2.1 (hG.2.2.2.1 _ hw) hd ?_
  have h := hn hl (cVs_c (c32_ti v) hs) hD ad cA dC dI p l e s m args below meth c H lsR locs hA hG hK hP hS hL
  rw [List.map_cons, reV_I, ofInt_toInt32] at h
  exact h
theorem WP_ldc2 {i : Nat} {v : Int64} {z : Int} (hw : Cond.constantLong mi.1.cls i v ∈ wsL_law) (hd : decode mi.2.1 pc = .ok (.ldc2_w i, 3)) (hz : v.toInt = z) (hn : WP mi Q (pc + 3) ls (vL z :: st) D) : WP mi Q pc ls st D := by
  subst hz
  intro hl hs hD ad cA dC dI p l e s m args below meth c H lsR locs hA hG hK hP hS hL
  refine lv_ldc2 hG.1 hG.2.1 hG.2.2.2.2.1 (hG.2.2.2.1 _ hw) hd ?_
  have h := hn hl (cVs_c (c64_ti v) hs) hD ad cA dC dI p l e s m args below meth c H lsR locs hA hG hK hP hS hL
  rw [List.map_cons, reV_L, ofInt_toInt64] at h
  exact h
theorem WP_iload_n {k : Fin 4} {z : Int} (hd : decode mi.2.1 pc = .ok (.iload_n k, 1)) (hz : ls[(k : Nat)]? = some (vI z)) (hn : WP mi Q (pc + 1) ls (vI z :: st) D) : WP mi Q pc ls st D := by
  intro hl hs hD ad cA dC dI p l e s m args below meth c H lsR locs hA hG hK hP hS hL
  exact lv_iload_n hG.1 hG.2.1 hd rfl (LR_at hL hz (Nat.le_of_ble_eq_true rfl)) (hn hl (cVs_c (cVs_g hl hz) hs) hD ad cA dC dI p l e s m args below meth c H lsR locs hA hG hK hP hS hL)
theorem WP_iload {k : Nat} {z : Int} (hd : decode mi.2.1 pc = .ok (.iload k, 2)) (hz : ls[k]? = some (vI z)) (hn : WP mi Q (pc + 2) ls (vI z :: st) D) : WP mi Q pc ls st D := by
  intro hl hs hD ad cA dC dI p l e s m args below meth c H lsR locs hA hG hK hP hS hL
  exact lv_iload hG.1 hG.2.1 hd (LR_at hL hz (Nat.le_of_ble_eq_true rfl)) (hn hl (cVs_c (cVs_g hl hz) hs) hD ad cA dC dI p l e s m args below meth c H lsR locs hA hG hK hP hS hL)
theorem WP_lload_n {k : Fin 4} {z : Int} (hd : decode mi.2.1 pc = .ok (.lload_n k, 1)) (hz : ls[(k : Nat)]? = some (vL z)) (hn : WP mi Q (pc + 1) ls (vL z :: st) D) : WP mi Q pc ls st D := by
  intro hl hs hD ad cA dC dI p l e s m args below meth c H lsR locs hA hG hK hP hS hL
  exact lv_lload_n hG.1 hG.2.1 hd rfl (LR_at hL hz (Nat.le_of_ble_eq_true rfl)) (hn hl (cVs_c (cVs_g hl hz) hs) hD ad cA dC dI p l e s m args below meth c H lsR locs hA hG hK hP hS hL)
theorem WP_lload {k : Nat} {z : Int} (hd : decode mi.2.1 pc = .ok (.lload k, 2)) (hz : ls[k]? = some (vL z)) (hn : WP mi Q (pc + 2) ls (vL z :: st) D) : WP mi Q pc ls st D := by
  intro hl hs hD ad cA dC dI p l e s m args below meth c H lsR locs hA hG hK hP hS hL
  exact lv_lload hG.1 hG.2.1 hd (LR_at hL hz (Nat.le_of_ble_eq_true rfl)) (hn hl (cVs_c (cVs_g hl hz) hs) hD ad cA dC dI p l e s m args below meth c H lsR locs hA hG hK hP hS hL)
theorem WP_aload_n {k : Fin 4} {z : Nat} (hd : decode mi.2.1 pc = .ok (.aload_n k, 1)) (hz : ls[(k : Nat)]? = some (vR z)) (hn : WP mi Q (pc + 1) ls (vR z :: st) D) : WP mi Q pc ls st D := by
  intro hl hs hD ad cA dC dI p l e s m args below meth c H lsR locs hA hG hK hP hS hL
  exact lv_aload_n hG.1 hG.2.1 hd rfl (LR_at hL hz (Nat.le_of_ble_eq_true rfl)) (hn hl (cVs_c (cVs_g hl hz) hs) hD ad cA dC dI p l e s m args below meth c H lsR locs hA hG hK hP hS hL)
theorem WP_aload {k : Nat} {z : Nat} (hd : decode mi.2.1 pc = .ok (.aload k, 2)) (hz : ls[k]? = some (vR z)) (hn : WP mi Q (pc + 2) ls (vR z :: st) D) : WP mi Q pc ls st D := by
  intro hl hs hD ad cA dC dI p l e s m args below meth c H lsR locs hA hG hK hP hS hL
  exact lv_aload hG.1 hG.2.1 hd (LR_at hL hz (Nat.le_of_ble_eq_true rfl)) (hn hl (cVs_c (cVs_g hl hz) hs) hD ad cA dC dI p l e s m args below meth c H lsR locs hA hG hK hP hS hL)
theorem WP_istore_n {k : Fin 4} {z : Int} {ls1 : List MV} (hd : decode mi.2.1 pc = .ok (.istore_n k, 1)) (hb : (k : Nat) < mi.2.2.1) (hz : st1 ls (k : Nat) (vI z) = ls1) (hn : WP mi Q (pc + 1) ls1 st D) : WP mi Q pc ls (vI z :: st) D := by
  subst hz
  intro hl hs hD ad cA dC dI p l e s m args below meth c H lsR locs hA hG hK hP hS hL
  refine lv_istore_n hG.1 hG.2.1 hd rfl hL hb rfl (fun ls' hL' => ?_)
  exact hn (cVs_st1 hl _ (cVs_h hs)) (cVs_t hs) hD ad cA dC dI p l e s m args below meth c H ls' locs hA hG hK hP hS (LR_st1 hL')
theorem WP_istore {k : Nat} {z : Int} {ls1 : List MV} (hd : decode mi.2.1 pc = .ok (.istore k, 2)) (hb : k < mi.2.2.1) (hz : st1 ls k (vI z) = ls1) (hn : WP mi Q (pc + 2) ls1 st D) : WP mi Q pc ls (vI z :: st) D := by
  subst hz
  intro hl hs hD ad cA dC dI p l e s m args below meth c H lsR locs hA hG hK hP hS hL
  refine lv_istore hG.1 hG.2.1 hd hL hb rfl (fun ls' hL' => ?_)
  exact hn (cVs_st1 hl _ (cVs_h hs)) (cVs_t hs) hD ad cA dC dI p l e s m args below meth c H ls' locs hA hG hK hP hS (LR_st1 hL')
theorem WP_lstore_n {k : Fin 4} {z : Int} {ls1 : List MV} (hd : decode mi.2.1 pc = .ok (.lstore_n k, 1)) (hb : (k : Nat) + 1 < mi.2.2.1) (hz : st2 ls (k : Nat) (vL z) = ls1) (hn : WP mi Q (pc + 1) ls1 st D) : WP mi Q pc ls (vL z :: st) D := by
  subst hz
  intro hl hs hD ad cA dC dI p l e s m args below meth c H lsR locs hA hG hK hP hS hL
  refine lv_lstore_n hG.1 hG.2.1 hd rfl hL hb rfl (fun ls' hL' => ?_)
  exact hn (cVs_st2 hl _ (cVs_h hs)) (cVs_t hs) hD ad cA dC dI p l e s m args below meth c H ls' locs hA hG hK hP hS (LR_st2 hL')
theorem WP_lstore {k : Nat} {z : Int} {ls1 : List MV} (hd : decode mi.2.1 pc = .ok (.lstore k, 2)) (hb : k + 1 < mi.2.2.1) (hz : st2 ls k (vL z) = ls1) (hn : WP mi Q (pc + 2) ls1 st D) : WP mi Q pc ls (vL z :: st) D := by
  subst hz
  intro hl hs hD ad cA dC dI p l e s m args below meth c H lsR locs hA hG hK hP hS hL
  refine lv_lstore hG.1 hG.2.1 hd hL hb rfl (fun ls' hL' => ?_)
  exact hn (cVs_st2 hl _ (cVs_h hs)) (cVs_t hs) hD ad cA dC dI p l e s m args below meth c H ls' locs hA hG hK hP hS (LR_st2 hL')
theorem WP_astore_n {k : Fin 4} {z : Nat} {ls1 : List MV} (hd : decode mi.2.1 pc = .ok (.astore_n k, 1)) (hb : (k : Nat) < mi.2.2.1) (hz : st1 ls (k : Nat) (vR z) = ls1) (hn : WP mi Q (pc + 1) ls1 st D) : WP mi Q pc ls (vR z :: st) D := by
  subst hz
  intro hl hs hD ad cA dC dI p l e s m args below meth c H lsR locs hA hG hK hP hS hL
  refine lv_astore_n hG.1 hG.2.1 hd rfl hL hb rfl (fun ls' hL' => ?_)
  exact hn (cVs_st1 hl _ (cVs_h hs)) (cVs_t hs) hD ad cA dC dI p l e s m args below meth c H ls' locs hA hG hK hP hS (LR_st1 hL')
theorem WP_astore {k : Nat} {z : Nat} {ls1 : List MV} (hd : decode mi.2.1 pc = .ok (.astore k, 2)) (hb : k < mi.2.2.1) (hz : st1 ls k (vR z) = ls1) (hn : WP mi Q (pc + 2) ls1 st D) : WP mi Q pc ls (vR z :: st) D := by
  subst hz
  intro hl hs hD ad cA dC dI p l e s m args below meth c H lsR locs hA hG hK hP hS hL
  refine lv_astore hG.1 hG.2.1 hd hL hb rfl (fun ls' hL' => ?_)
  exact hn (cVs_st1 hl _ (cVs_h hs)) (cVs_t hs) hD ad cA dC dI p l e s m args below meth c H ls' locs hA hG hK hP hS (LR_st1 hL')
theorem WP_iinc {k : Nat} {n x z : Int} {ls1 : List MV} (hd : decode mi.2.1 pc = .ok (.iinc k n, 3)) (hx : ls[k]? = some (vI x)) (hz : w32 (x + n) = z) (hb : k < mi.2.2.1) (h1 : st1 ls k (vI z) = ls1) (hn : WP mi Q (pc + 3) ls1 st D) : WP mi Q pc ls st D := by
  subst hz h1
  intro hl hs hD ad cA dC dI p l e s m args below meth c H lsR locs hA hG hK hP hS hL
  obtain ⟨j, hj⟩ := List.getElem?_of_mem (lvl_mem.mpr ⟨k, vI x, hx, Nat.le_of_ble_eq_true rfl, rfl⟩ : (0 + k, reV ad (vI x)) ∈ lvl ad ls 0)
  rw [Nat.zero_add] at hj
  refine lv_iinc (v := Int32.ofInt (w32 (x + n))) hG.1 hG.2.1 hd hL hj (by rw [ofInt_w32, Int32.ofInt_add]; rfl) hb rfl (fun ls' hL' => ?_)
  exact hn (cVs_st1 hl _ (w32_c _)) hs hD ad cA dC dI p l e s m args below meth c H ls' locs hA hG hK hP hS (LR_st1 (v := vI (w32 (x + n))) hL')
theorem WP_iadd {a b z : Int} (hd : decode mi.2.1 pc = .ok (.iadd, 1)) (hz : w32 (a + b) = z) (hn : WP mi Q (pc + 1) ls (vI z :: st) D) : WP mi Q pc ls (vI b :: vI a :: st) D := by
  subst hz
  intro hl hs hD ad cA dC dI p l e s m args below meth c H lsR locs hA hG hK hP hS hL
  have ca : c32 a := cVs_h (cVs_t hs)
  have cb : c32 b := cVs_h hs
  show W p l e (rmO mi) s m args below meth c H locs 0 0 _ (F0 m pc lsR (.int (Int32.ofInt b) :: .int (Int32.ofInt a) :: st.map (reV ad)))
  refine lv_iadd hG.1 hG.2.1 hd ?_
  have h := hn hl (cVs_c (w32_c _) (cVs_t (cVs_t hs))) hD ad cA dC dI p l e s m args below meth c H lsR locs hA hG hK hP hS hL
  rw [show Int32.ofInt a + Int32.ofInt b = Int32.ofInt (w32 (a + b)) from by rw [ofInt_w32, Int32.ofInt_add]]
  exact h
theorem WP_isub {a b z : Int} (hd : decode mi.2.1 pc = .ok (.isub, 1)) (hz : w32 (a - b) = z) (hn : WP mi Q (pc + 1) ls (vI z :: st) D) : WP mi Q pc ls (vI b :: vI a :: st) D := by
  subst hz
  intro hl hs hD ad cA dC dI p l e s m args below meth c H lsR locs hA hG hK hP hS hL
  have ca : c32 a := cVs_h (cVs_t hs)
  have cb : c32 b := cVs_h hs
  show W p l e (rmO mi) s m args below meth c H locs 0 0 _ (F0 m pc lsR (.int (Int32.ofInt b) :: .int (Int32.ofInt a) :: st.map (reV ad)))
  refine lv_isub hG.1 hG.2.1 hd ?_
  have h := hn hl (cVs_c (w32_c _) (cVs_t (cVs_t hs))) hD ad cA dC dI p l e s m args below meth c H lsR locs hA hG hK hP hS hL
  rw [show Int32.ofInt a - Int32.ofInt b = Int32.ofInt (w32 (a - b)) from by rw [ofInt_w32, Int32.ofInt_sub]]
  exact h
theorem WP_imul {a b z : Int} (hd : decode mi.2.1 pc = .ok (.imul, 1)) (hz : w32 (a * b) = z) (hn : WP mi Q (pc + 1) ls (vI z :: st) D) : WP mi Q pc ls (vI b :: vI a :: st) D := by
  subst hz
  intro hl hs hD ad cA dC dI p l e s m args below meth c H lsR locs hA hG hK hP hS hL
  have ca : c32 a := cVs_h (cVs_t hs)
  have cb : c32 b := cVs_h hs
  show W p l e (rmO mi) s m args below meth c H locs 0 0 _ (F0 m pc lsR (.int (Int32.ofInt b) :: .int (Int32.ofInt a) :: st.map (reV ad)))
  refine lv_imul hG.1 hG.2.1 hd ?_
  have h := hn hl (cVs_c (w32_c _) (cVs_t (cVs_t hs))) hD ad cA dC dI p l e s m args below meth c H lsR locs hA hG hK hP hS hL
  rw [show Int32.ofInt a * Int32.ofInt b = Int32.ofInt (w32 (a * b)) from by rw [ofInt_w32, Int32.ofInt_mul]]
  exact h
def b_iand (a b : Int) : Int := (Int32.ofInt a &&& Int32.ofInt b).toInt
theorem WP_iand {a b z : Int} (hd : decode mi.2.1 pc = .ok (.iand, 1)) (hz : b_iand a b = z) (hn : WP mi Q (pc + 1) ls (vI z :: st) D) : WP mi Q pc ls (vI b :: vI a :: st) D := by
  subst hz
  intro hl hs hD ad cA dC dI p l e s m args below meth c H lsR locs hA hG hK hP hS hL
  have ca : c32 a := cVs_h (cVs_t hs)
  have cb : c32 b := cVs_h hs
  show W p l e (rmO mi) s m args below meth c H locs 0 0 _ (F0 m pc lsR (.int (Int32.ofInt b) :: .int (Int32.ofInt a) :: st.map (reV ad)))
  refine lv_iand hG.1 hG.2.1 hd ?_
  have h := hn hl (cVs_c (c32_ti _) (cVs_t (cVs_t hs))) hD ad cA dC dI p l e s m args below meth c H lsR locs hA hG hK hP hS hL
  rw [show Int32.ofInt a &&& Int32.ofInt b = Int32.ofInt (b_iand a b) from (ofInt_toInt32 _).symm]
  exact h
def b_ior (a b : Int) : Int := (Int32.ofInt a ||| Int32.ofInt b).toInt
theorem WP_ior {a b z : Int} (hd : decode mi.2.1 pc = .ok (.ior, 1)) (hz : b_ior a b = z) (hn : WP mi Q (pc + 1) ls (vI z :: st) D) : WP mi Q pc ls (vI b :: vI a :: st) D := by
  subst hz
  intro hl hs hD ad cA dC dI p l e s m args below meth c H lsR locs hA hG hK hP hS hL
  have ca : c32 a := cVs_h (cVs_t hs)
  have cb : c32 b := cVs_h hs
  show W p l e (rmO mi) s m args below meth c H locs 0 0 _ (F0 m pc lsR (.int (Int32.ofInt b) :: .int (Int32.ofInt a) :: st.map (reV ad)))
  refine lv_ior hG.1 hG.2.1 hd ?_
  have h := hn hl (cVs_c (c32_ti _) (cVs_t (cVs_t hs))) hD ad cA dC dI p l e s m args below meth c H lsR locs hA hG hK hP hS hL
  rw [show Int32.ofInt a ||| Int32.ofInt b = Int32.ofInt (b_ior a b) from (ofInt_toInt32 _).symm]
  exact h
def b_ixor (a b : Int) : Int := (Int32.ofInt a ^^^ Int32.ofInt b).toInt
theorem WP_ixor {a b z : Int} (hd : decode mi.2.1 pc = .ok (.ixor, 1)) (hz : b_ixor a b = z) (hn : WP mi Q (pc + 1) ls (vI z :: st) D) : WP mi Q pc ls (vI b :: vI a :: st) D := by
  subst hz
  intro hl hs hD ad cA dC dI p l e s m args below meth c H lsR locs hA hG hK hP hS hL
  have ca : c32 a := cVs_h (cVs_t hs)
  have cb : c32 b := cVs_h hs
  show W p l e (rmO mi) s m args below meth c H locs 0 0 _ (F0 m pc lsR (.int (Int32.ofInt b) :: .int (Int32.ofInt a) :: st.map (reV ad)))
  refine lv_ixor hG.1 hG.2.1 hd ?_
  have h := hn hl (cVs_c (c32_ti _) (cVs_t (cVs_t hs))) hD ad cA dC dI p l e s m args below meth c H lsR locs hA hG hK hP hS hL
  rw [show Int32.ofInt a ^^^ Int32.ofInt b = Int32.ofInt (b_ixor a b) from (ofInt_toInt32 _).symm]
  exact h
def b_ishl (a b : Int) : Int := (Int32.ofInt a <<< (Int32.ofInt b &&& 31)).toInt
theorem WP_ishl {a b z : Int} (hd : decode mi.2.1 pc = .ok (.ishl, 1)) (hz : b_ishl a b = z) (hn : WP mi Q (pc + 1) ls (vI z :: st) D) : WP mi Q pc ls (vI b :: vI a :: st) D := by
  subst hz
  intro hl hs hD ad cA dC dI p l e s m args below meth c H lsR locs hA hG hK hP hS hL
  have ca : c32 a := cVs_h (cVs_t hs)
  have cb : c32 b := cVs_h hs
  show W p l e (rmO mi) s m args below meth c H locs 0 0 _ (F0 m pc lsR (.int (Int32.ofInt b) :: .int (Int32.ofInt a) :: st.map (reV ad)))
  refine lv_ishl hG.1 hG.2.1 hd ?_
  have h := hn hl (cVs_c (c32_ti _) (cVs_t (cVs_t hs))) hD ad cA dC dI p l e s m args below meth c H lsR locs hA hG hK hP hS hL
  rw [show Int32.ofInt a <<< (Int32.ofInt b &&& 31) = Int32.ofInt (b_ishl a b) from (ofInt_toInt32 _).symm]
  exact h
def b_ishr (a b : Int) : Int := (Int32.ofInt a >>> (Int32.ofInt b &&& 31)).toInt
theorem WP_ishr {a b z : Int} (hd : decode mi.2.1 pc = .ok (.ishr, 1)) (hz : b_ishr a b = z) (hn : WP mi Q (pc + 1) ls (vI z :: st) D) : WP mi Q pc ls (vI b :: vI a :: st) D := by
  subst hz
  intro hl hs hD ad cA dC dI p l e s m args below meth c H lsR locs hA hG hK hP hS hL
  have ca : c32 a := cVs_h (cVs_t hs)
  have cb : c32 b := cVs_h hs
  show W p l e (rmO mi) s m args below meth c H locs 0 0 _ (F0 m pc lsR (.int (Int32.ofInt b) :: .int (Int32.ofInt a) :: st.map (reV ad)))
  refine lv_ishr hG.1 hG.2.1 hd ?_
  have h := hn hl (cVs_c (c32_ti _) (cVs_t (cVs_t hs))) hD ad cA dC dI p l e s m args below meth c H lsR locs hA hG hK hP hS hL
  rw [show Int32.ofInt a >>> (Int32.ofInt b &&& 31) = Int32.ofInt (b_ishr a b) from (ofInt_toInt32 _).symm]
  exact h
def b_iushr (a b : Int) : Int := ((Int32.ofInt a).toUInt32 >>> ((Int32.ofInt b).toUInt32 &&& Int32.toUInt32 31)).toInt32.toInt
theorem WP_iushr {a b z : Int} (hd : decode mi.2.1 pc = .ok (.iushr, 1)) (hz : b_iushr a b = z) (hn : WP mi Q (pc + 1) ls (vI z :: st) D) : WP mi Q pc ls (vI b :: vI a :: st) D := by
  subst hz
  intro hl hs hD ad cA dC dI p l e s m args below meth c H lsR locs hA hG hK hP hS hL
  have ca : c32 a := cVs_h (cVs_t hs)
  have cb : c32 b := cVs_h hs
  show W p l e (rmO mi) s m args below meth c H locs 0 0 _ (F0 m pc lsR (.int (Int32.ofInt b) :: .int (Int32.ofInt a) :: st.map (reV ad)))
  refine lv_iushr hG.1 hG.2.1 hd rfl ?_
  have h := hn hl (cVs_c (c32_ti _) (cVs_t (cVs_t hs))) hD ad cA dC dI p l e s m args below meth c H lsR locs hA hG hK hP hS hL
  rw [show ((Int32.ofInt a).toUInt32 >>> ((Int32.ofInt b).toUInt32 &&& Int32.toUInt32 31)).toInt32 = Int32.ofInt (b_iushr a b) from (ofInt_toInt32 _).symm]
  exact h
theorem WP_idiv {a b z : Int} (hd : decode mi.2.1 pc = .ok (.idiv, 1)) (h0 : 0 ≤ a) (h1 : 0 < b) (hz : a / b = z) (hn : WP mi Q (pc + 1) ls (vI z :: st) D) : WP mi Q pc ls (vI b :: vI a :: st) D := by
  subst hz
  intro hl hs hD ad cA dC dI p l e s m args below meth c H lsR locs hA hG hK hP hS hL
  have ca : c32 a := cVs_h (cVs_t hs)
  have cb : c32 b := cVs_h hs
  show W p l e (rmO mi) s m args below meth c H locs 0 0 _ (F0 m pc lsR (.int (Int32.ofInt b) :: .int (Int32.ofInt a) :: st.map (reV ad)))
  refine lv_idiv hG.1 hG.2.1 hd (ne32 cb h1) ?_
  have h := hn hl (cVs_c (div_c ca h0 h1) (cVs_t (cVs_t hs))) hD ad cA dC dI p l e s m args below meth c H lsR locs hA hG hK hP hS hL
  rw [show Int32.ofInt a / Int32.ofInt b = Int32.ofInt (a / b) from div32 ca cb h0 h1]
  exact h
theorem WP_irem {a b z : Int} (hd : decode mi.2.1 pc = .ok (.irem, 1)) (h0 : 0 ≤ a) (h1 : 0 < b) (hz : a % b = z) (hn : WP mi Q (pc + 1) ls (vI z :: st) D) : WP mi Q pc ls (vI b :: vI a :: st) D := by
  subst hz
  intro hl hs hD ad cA dC dI p l e s m args below meth c H lsR locs hA hG hK hP hS hL
  have ca : c32 a := cVs_h (cVs_t hs)
  have cb : c32 b := cVs_h hs
  show W p l e (rmO mi) s m args below meth c H locs 0 0 _ (F0 m pc lsR (.int (Int32.ofInt b) :: .int (Int32.ofInt a) :: st.map (reV ad)))
  refine lv_irem hG.1 hG.2.1 hd (ne32 cb h1) ?_
  have h := hn hl (cVs_c (rem_c ca h0 h1) (cVs_t (cVs_t hs))) hD ad cA dC dI p l e s m args below meth c H lsR locs hA hG hK hP hS hL
  rw [show Int32.ofInt a - Int32.ofInt a / Int32.ofInt b * Int32.ofInt b = Int32.ofInt (a % b) from rem32 ca cb h0 h1]
  exact h
theorem WP_ineg {a z : Int} (hd : decode mi.2.1 pc = .ok (.ineg, 1)) (hz : w32 (-a) = z) (hn : WP mi Q (pc + 1) ls (vI z :: st) D) : WP mi Q pc ls (vI a :: st) D := by
  subst hz
  intro hl hs hD ad cA dC dI p l e s m args below meth c H lsR locs hA hG hK hP hS hL
  show W p l e (rmO mi) s m args below meth c H locs 0 0 _ (F0 m pc lsR (.int (Int32.ofInt a) :: st.map (reV ad)))
  refine lv_ineg hG.1 hG.2.1 hd ?_
  have h := hn hl (cVs_c (w32_c _) (cVs_t hs)) hD ad cA dC dI p l e s m args below meth c H lsR locs hA hG hK hP hS hL
  rw [show -Int32.ofInt a = Int32.ofInt (w32 (-a)) from by rw [ofInt_w32, Int32.ofInt_neg]]
  exact h
theorem WP_ladd {a b z : Int} (hd : decode mi.2.1 pc = .ok (.ladd, 1)) (hz : w64 (a + b) = z) (hn : WP mi Q (pc + 1) ls (vL z :: st) D) : WP mi Q pc ls (vL b :: vL a :: st) D := by
  subst hz
  intro hl hs hD ad cA dC dI p l e s m args below meth c H lsR locs hA hG hK hP hS hL
  have ca : c64 a := cVs_h (cVs_t hs)
  have cb : c64 b := cVs_h hs
  show W p l e (rmO mi) s m args below meth c H locs 0 0 _ (F0 m pc lsR (.long (Int64.ofInt b) :: .long (Int64.ofInt a) :: st.map (reV ad)))
  refine lv_ladd hG.1 hG.2.1 hd ?_
  have h := hn hl (cVs_c (w64_c _) (cVs_t (cVs_t hs))) hD ad cA dC dI p l e s m args below meth c H lsR locs hA hG hK hP hS hL
  rw [show Int64.ofInt a + Int64.ofInt b = Int64.ofInt (w64 (a + b)) from by rw [ofInt_w64, Int64.ofInt_add]]
  exact h
theorem WP_lsub {a b z : Int} (hd : decode mi.2.1 pc = .ok (.lsub, 1)) (hz : w64 (a - b) = z) (hn : WP mi Q (pc + 1) ls (vL z :: st) D) : WP mi Q pc ls (vL b :: vL a :: st) D := by
  subst hz
  intro hl hs hD ad cA dC dI p l e s m args below meth c H lsR locs hA hG hK hP hS hL
  have ca : c64 a := cVs_h (cVs_t hs)
  have cb : c64 b := cVs_h hs
  show W p l e (rmO mi) s m args below meth c H locs 0 0 _ (F0 m pc lsR (.long (Int64.ofInt b) :: .long (Int64.ofInt a) :: st.map (reV ad)))
  refine lv_lsub hG.1 hG.2.1 hd ?_
  have h := hn hl (cVs_c (w64_c _) (cVs_t (cVs_t hs))) hD ad cA dC dI p l e s m args below meth c H lsR locs hA hG hK hP hS hL
  rw [show Int64.ofInt a - Int64.ofInt b = Int64.ofInt (w64 (a - b)) from by rw [ofInt_w64, Int64.ofInt_sub]]
  exact h
theorem WP_lmul {a b z : Int} (hd : decode mi.2.1 pc = .ok (.lmul, 1)) (hz : w64 (a * b) = z) (hn : WP mi Q (pc + 1) ls (vL z :: st) D) : WP mi Q pc ls (vL b :: vL a :: st) D := by
  subst hz
  intro hl hs hD ad cA dC dI p l e s m args below meth c H lsR locs hA hG hK hP hS hL
  have ca : c64 a := cVs_h (cVs_t hs)
  have cb : c64 b := cVs_h hs
  show W p l e (rmO mi) s m args below meth c H locs 0 0 _ (F0 m pc lsR (.long (Int64.ofInt b) :: .long (Int64.ofInt a) :: st.map (reV ad)))
  refine lv_lmul hG.1 hG.2.1 hd ?_
  have h := hn hl (cVs_c (w64_c _) (cVs_t (cVs_t hs))) hD ad cA dC dI p l e s m args below meth c H lsR locs hA hG hK hP hS hL
  rw [show Int64.ofInt a * Int64.ofInt b = Int64.ofInt (w64 (a * b)) from by rw [ofInt_w64, Int64.ofInt_mul]]
  exact h
def b_land (a b : Int) : Int := (Int64.ofInt a &&& Int64.ofInt b).toInt
theorem WP_land {a b z : Int} (hd : decode mi.2.1 pc = .ok (.land, 1)) (hz : b_land a b = z) (hn : WP mi Q (pc + 1) ls (vL z :: st) D) : WP mi Q pc ls (vL b :: vL a :: st) D := by
  subst hz
  intro hl hs hD ad cA dC dI p l e s m args below meth c H lsR locs hA hG hK hP hS hL
  have ca : c64 a := cVs_h (cVs_t hs)
  have cb : c64 b := cVs_h hs
  show W p l e (rmO mi) s m args below meth c H locs 0 0 _ (F0 m pc lsR (.long (Int64.ofInt b) :: .long (Int64.ofInt a) :: st.map (reV ad)))
  refine lv_land hG.1 hG.2.1 hd ?_
  have h := hn hl (cVs_c (c64_ti _) (cVs_t (cVs_t hs))) hD ad cA dC dI p l e s m args below meth c H lsR locs hA hG hK hP hS hL
  rw [show Int64.ofInt a &&& Int64.ofInt b = Int64.ofInt (b_land a b) from (ofInt_toInt64 _).symm]
  exact h
def b_lor (a b : Int) : Int := (Int64.ofInt a ||| Int64.ofInt b).toInt
theorem WP_lor {a b z : Int} (hd : decode mi.2.1 pc = .ok (.lor, 1)) (hz : b_lor a b = z) (hn : WP mi Q (pc + 1) ls (vL z :: st) D) : WP mi Q pc ls (vL b :: vL a :: st) D := by
  subst hz
  intro hl hs hD ad cA dC dI p l e s m args below meth c H lsR locs hA hG hK hP hS hL
  have ca : c64 a := cVs_h (cVs_t hs)
  have cb : c64 b := cVs_h hs
  show W p l e (rmO mi) s m args below meth c H locs 0 0 _ (F0 m pc lsR (.long (Int64.ofInt b) :: .long (Int64.ofInt a) :: st.map (reV ad)))
  refine lv_lor hG.1 hG.2.1 hd ?_
  have h := hn hl (cVs_c (c64_ti _) (cVs_t (cVs_t hs))) hD ad cA dC dI p l e s m args below meth c H lsR locs hA hG hK hP hS hL
  rw [show Int64.ofInt a ||| Int64.ofInt b = Int64.ofInt (b_lor a b) from (ofInt_toInt64 _).symm]
  exact h
theorem WP_ldiv {a b z : Int} (hd : decode mi.2.1 pc = .ok (.ldiv, 1)) (h0 : 0 ≤ a) (h1 : 0 < b) (hz : a / b = z) (hn : WP mi Q (pc + 1) ls (vL z :: st) D) : WP mi Q pc ls (vL b :: vL a :: st) D := by
  subst hz
  intro hl hs hD ad cA dC dI p l e s m args below meth c H lsR locs hA hG hK hP hS hL
  have ca : c64 a := cVs_h (cVs_t hs)
  have cb : c64 b := cVs_h hs
  show W p l e (rmO mi) s m args below meth c H locs 0 0 _ (F0 m pc lsR (.long (Int64.ofInt b) :: .long (Int64.ofInt a) :: st.map (reV ad)))
  refine lv_ldiv hG.1 hG.2.1 hd (ne64 cb h1) ?_
  have h := hn hl (cVs_c (divl_c ca h0 h1) (cVs_t (cVs_t hs))) hD ad cA dC dI p l e s m args below meth c H lsR locs hA hG hK hP hS hL
  rw [show Int64.ofInt a / Int64.ofInt b = Int64.ofInt (a / b) from div64 ca cb h0 h1]
  exact h
theorem WP_lrem {a b z : Int} (hd : decode mi.2.1 pc = .ok (.lrem, 1)) (h0 : 0 ≤ a) (h1 : 0 < b) (hz : a % b = z) (hn : WP mi Q (pc + 1) ls (vL z :: st) D) : WP mi Q pc ls (vL b :: vL a :: st) D := by
  subst hz
  intro hl hs hD ad cA dC dI p l e s m args below meth c H lsR locs hA hG hK hP hS hL
  have ca : c64 a := cVs_h (cVs_t hs)
  have cb : c64 b := cVs_h hs
  show W p l e (rmO mi) s m args below meth c H locs 0 0 _ (F0 m pc lsR (.long (Int64.ofInt b) :: .long (Int64.ofInt a) :: st.map (reV ad)))
  refine lv_lrem hG.1 hG.2.1 hd (ne64 cb h1) ?_
  have h := hn hl (cVs_c (reml_c ca h0 h1) (cVs_t (cVs_t hs))) hD ad cA dC dI p l e s m args below meth c H lsR locs hA hG hK hP hS hL
  rw [show Int64.ofInt a - Int64.ofInt a / Int64.ofInt b * Int64.ofInt b = Int64.ofInt (a % b) from rem64 ca cb h0 h1]
  exact h
def b_lshl (a b : Int) : Int := (Int64.ofInt a <<< ((Int32.ofInt b).toInt64 &&& 63)).toInt
theorem WP_lshl {a b z : Int} (hd : decode mi.2.1 pc = .ok (.lshl, 1)) (hz : b_lshl a b = z) (hn : WP mi Q (pc + 1) ls (vL z :: st) D) : WP mi Q pc ls (vI b :: vL a :: st) D := by
  subst hz
  intro hl hs hD ad cA dC dI p l e s m args below meth c H lsR locs hA hG hK hP hS hL
  show W p l e (rmO mi) s m args below meth c H locs 0 0 _ (F0 m pc lsR (.int (Int32.ofInt b) :: .long (Int64.ofInt a) :: st.map (reV ad)))
  refine lv_lshl hG.1 hG.2.1 hd rfl ?_
  have h := hn hl (cVs_c (c64_ti _) (cVs_t (cVs_t hs))) hD ad cA dC dI p l e s m args below meth c H lsR locs hA hG hK hP hS hL
  rw [show Int64.ofInt a <<< ((Int32.ofInt b).toInt64 &&& 63) = Int64.ofInt (b_lshl a b) from (ofInt_toInt64 _).symm]
  exact h
def b_lshr (a b : Int) : Int := (Int64.ofInt a >>> ((Int32.ofInt b).toInt64 &&& 63)).toInt
theorem WP_lshr {a b z : Int} (hd : decode mi.2.1 pc = .ok (.lshr, 1)) (hz : b_lshr a b = z) (hn : WP mi Q (pc + 1) ls (vL z :: st) D) : WP mi Q pc ls (vI b :: vL a :: st) D := by
  subst hz
  intro hl hs hD ad cA dC dI p l e s m args below meth c H lsR locs hA hG hK hP hS hL
  show W p l e (rmO mi) s m args below meth c H locs 0 0 _ (F0 m pc lsR (.int (Int32.ofInt b) :: .long (Int64.ofInt a) :: st.map (reV ad)))
  refine lv_lshr hG.1 hG.2.1 hd rfl ?_
  have h := hn hl (cVs_c (c64_ti _) (cVs_t (cVs_t hs))) hD ad cA dC dI p l e s m args below meth c H lsR locs hA hG hK hP hS hL
  rw [show Int64.ofInt a >>> ((Int32.ofInt b).toInt64 &&& 63) = Int64.ofInt (b_lshr a b) from (ofInt_toInt64 _).symm]
  exact h
theorem WP_i2l {a : Int} (hd : decode mi.2.1 pc = .ok (.i2l, 1)) (hn : WP mi Q (pc + 1) ls (vL a :: st) D) : WP mi Q pc ls (vI a :: st) D := by
  intro hl hs hD ad cA dC dI p l e s m args below meth c H lsR locs hA hG hK hP hS hL
  have ca : c32 a := cVs_h hs
  show W p l e (rmO mi) s m args below meth c H locs 0 0 _ (F0 m pc lsR (.int (Int32.ofInt a) :: st.map (reV ad)))
  exact lv_i2l hG.1 hG.2.1 hd (i2l32 ca) (hn hl (cVs_c (show c64 a from ⟨by have := ca.1; omega, by have := ca.2; omega⟩) (cVs_t hs)) hD ad cA dC dI p l e s m args below meth c H lsR locs hA hG hK hP hS hL)
def b_i2b (a : Int) : Int := (Int32.ofInt a).toInt8.toInt32.toInt
theorem WP_i2b {a z : Int} (hd : decode mi.2.1 pc = .ok (.i2b, 1)) (hz : b_i2b a = z) (hn : WP mi Q (pc + 1) ls (vI z :: st) D) : WP mi Q pc ls (vI a :: st) D := by
  subst hz
  intro hl hs hD ad cA dC dI p l e s m args below meth c H lsR locs hA hG hK hP hS hL
  show W p l e (rmO mi) s m args below meth c H locs 0 0 _ (F0 m pc lsR (.int (Int32.ofInt a) :: st.map (reV ad)))
  refine lv_i2b hG.1 hG.2.1 hd rfl ?_
  have h := hn hl (cVs_c (c32_ti _) (cVs_t hs)) hD ad cA dC dI p l e s m args below meth c H lsR locs hA hG hK hP hS hL
  rw [show (Int32.ofInt a).toInt8.toInt32 = Int32.ofInt (b_i2b a) from (ofInt_toInt32 _).symm]
  exact h
def b_i2s (a : Int) : Int := (Int32.ofInt a).toInt16.toInt32.toInt
theorem WP_i2s {a z : Int} (hd : decode mi.2.1 pc = .ok (.i2s, 1)) (hz : b_i2s a = z) (hn : WP mi Q (pc + 1) ls (vI z :: st) D) : WP mi Q pc ls (vI a :: st) D := by
  subst hz
  intro hl hs hD ad cA dC dI p l e s m args below meth c H lsR locs hA hG hK hP hS hL
  show W p l e (rmO mi) s m args below meth c H locs 0 0 _ (F0 m pc lsR (.int (Int32.ofInt a) :: st.map (reV ad)))
  refine lv_i2s hG.1 hG.2.1 hd rfl ?_
  have h := hn hl (cVs_c (c32_ti _) (cVs_t hs)) hD ad cA dC dI p l e s m args below meth c H lsR locs hA hG hK hP hS hL
  rw [show (Int32.ofInt a).toInt16.toInt32 = Int32.ofInt (b_i2s a) from (ofInt_toInt32 _).symm]
  exact h
theorem WP_lcmp {a b z : Int} (hd : decode mi.2.1 pc = .ok (.lcmp, 1)) (hz : (if b < a then 1 else if a = b then 0 else -1) = z) (hn : WP mi Q (pc + 1) ls (vI z :: st) D) : WP mi Q pc ls (vL b :: vL a :: st) D := by
  subst hz
  intro hl hs hD ad cA dC dI p l e s m args below meth c H lsR locs hA hG hK hP hS hL
  have ca : c64 a := cVs_h (cVs_t hs)
  have cb : c64 b := cVs_h hs
  show W p l e (rmO mi) s m args below meth c H locs 0 0 _ (F0 m pc lsR (.long (Int64.ofInt b) :: .long (Int64.ofInt a) :: st.map (reV ad)))
  refine W.lcmp hG.1 hG.2.1 hd ?_
  have h := hn hl (cVs_c (cmp_c a b) (cVs_t (cVs_t hs))) hD ad cA dC dI p l e s m args below meth c H lsR locs hA hG hK hP hS hL
  rw [cmp64 ca cb]
  exact h
theorem WP_dup {v : MV} (hd : decode mi.2.1 pc = .ok (.dup, 1)) (hv : v.1 ≠ 1) (hn : WP mi Q (pc + 1) ls (v :: v :: st) D) : WP mi Q pc ls (v :: st) D := by
  intro hl hs hD ad cA dC dI p l e s m args below meth c H lsR locs hA hG hK hP hS hL
  exact lv_dup hG.1 hG.2.1 hd (by rw [reV_cat, if_neg hv]) (hn hl (cVs_c (cVs_h hs) hs) hD ad cA dC dI p l e s m args below meth c H lsR locs hA hG hK hP hS hL)
theorem WP_pop {v : MV} (hd : decode mi.2.1 pc = .ok (.pop, 1)) (hv : v.1 ≠ 1) (hn : WP mi Q (pc + 1) ls st D) : WP mi Q pc ls (v :: st) D := by
  intro hl hs hD ad cA dC dI p l e s m args below meth c H lsR locs hA hG hK hP hS hL
  exact lv_pop hG.1 hG.2.1 hd (by rw [reV_cat, if_neg hv]) (hn hl (cVs_t hs) hD ad cA dC dI p l e s m args below meth c H lsR locs hA hG hK hP hS hL)
theorem WP_dup2 {v w : MV} (hd : decode mi.2.1 pc = .ok (.dup2, 1)) (hv : v.1 ≠ 1) (hw : w.1 ≠ 1) (hn : WP mi Q (pc + 1) ls (v :: w :: v :: w :: st) D) : WP mi Q pc ls (v :: w :: st) D := by
  intro hl hs hD ad cA dC dI p l e s m args below meth c H lsR locs hA hG hK hP hS hL
  exact lv_dup2_11 hG.1 hG.2.1 hd (by rw [reV_cat, if_neg hv]) (by rw [reV_cat, if_neg hw]) (hn hl (cVs_c (cVs_h hs) (cVs_c (cVs_h (cVs_t hs)) hs)) hD ad cA dC dI p l e s m args below meth c H lsR locs hA hG hK hP hS hL)
theorem WP_goto {off : Int} {tgt : Nat} (hd : decode mi.2.1 pc = .ok (.goto off, 3)) (ht : (pc : Int) + off = (tgt : Int)) (hn : WP mi Q tgt ls st D) : WP mi Q pc ls st D := by
  intro hl hs hD ad cA dC dI p l e s m args below meth c H lsR locs hA hG hK hP hS hL
  exact lv_goto hG.1 hG.2.1 hd ht (hn hl hs hD ad cA dC dI p l e s m args below meth c H lsR locs hA hG hK hP hS hL)
theorem WP_icmp_eq {a b off : Int} {tgt : Nat} (hd : decode mi.2.1 pc = .ok (.if_icmp .eq off, 3)) (ht : (pc : Int) + off = (tgt : Int)) (hT : a = b → WP mi Q tgt ls st D) (hF : ¬ a = b → WP mi Q (pc + 3) ls st D) : WP mi Q pc ls (vI b :: vI a :: st) D := by
  intro hl hs hD ad cA dC dI p l e s m args below meth c H lsR locs hA hG hK hP hS hL
  have ca : c32 a := cVs_h (cVs_t hs)
  have cb : c32 b := cVs_h hs
  show W p l e (rmO mi) s m args below meth c H locs 0 0 _ (F0 m pc lsR (.int (Int32.ofInt b) :: .int (Int32.ofInt a) :: st.map (reV ad)))
  exact lv_icmp_eq hG.1 hG.2.1 hd ht (fun q => hT ((eq32 ca cb).mp q) hl (cVs_t (cVs_t hs)) hD ad cA dC dI p l e s m args below meth c H lsR locs hA hG hK hP hS hL) (fun q => hF (fun z => q ((eq32 ca cb).mpr z)) hl (cVs_t (cVs_t hs)) hD ad cA dC dI p l e s m args below meth c H lsR locs hA hG hK hP hS hL)
theorem WP_if_eq {a off : Int} {tgt : Nat} (hd : decode mi.2.1 pc = .ok (.ifCond .eq off, 3)) (ht : (pc : Int) + off = (tgt : Int)) (hT : a = 0 → WP mi Q tgt ls st D) (hF : ¬ a = 0 → WP mi Q (pc + 3) ls st D) : WP mi Q pc ls (vI a :: st) D := by
  intro hl hs hD ad cA dC dI p l e s m args below meth c H lsR locs hA hG hK hP hS hL
  have ca : c32 a := cVs_h hs
  show W p l e (rmO mi) s m args below meth c H locs 0 0 _ (F0 m pc lsR (.int (Int32.ofInt a) :: st.map (reV ad)))
  exact lv_if_eq hG.1 hG.2.1 hd ht (fun q => hT ((eq32 ca c0).mp q) hl (cVs_t hs) hD ad cA dC dI p l e s m args below meth c H lsR locs hA hG hK hP hS hL) (fun q => hF (fun z => q ((eq32 ca c0).mpr z)) hl (cVs_t hs) hD ad cA dC dI p l e s m args below meth c H lsR locs hA hG hK hP hS hL)
theorem WP_icmp_ne {a b off : Int} {tgt : Nat} (hd : decode mi.2.1 pc = .ok (.if_icmp .ne off, 3)) (ht : (pc : Int) + off = (tgt : Int)) (hT : ¬ a = b → WP mi Q tgt ls st D) (hF : a = b → WP mi Q (pc + 3) ls st D) : WP mi Q pc ls (vI b :: vI a :: st) D := by
  intro hl hs hD ad cA dC dI p l e s m args below meth c H lsR locs hA hG hK hP hS hL
  have ca : c32 a := cVs_h (cVs_t hs)
  have cb : c32 b := cVs_h hs
  show W p l e (rmO mi) s m args below meth c H locs 0 0 _ (F0 m pc lsR (.int (Int32.ofInt b) :: .int (Int32.ofInt a) :: st.map (reV ad)))
  exact lv_icmp_ne hG.1 hG.2.1 hd ht (fun q => hT (fun z => q ((eq32 ca cb).mpr z)) hl (cVs_t (cVs_t hs)) hD ad cA dC dI p l e s m args below meth c H lsR locs hA hG hK hP hS hL) (fun q => hF ((eq32 ca cb).mp q) hl (cVs_t (cVs_t hs)) hD ad cA dC dI p l e s m args below meth c H lsR locs hA hG hK hP hS hL)
theorem WP_if_ne {a off : Int} {tgt : Nat} (hd : decode mi.2.1 pc = .ok (.ifCond .ne off, 3)) (ht : (pc : Int) + off = (tgt : Int)) (hT : ¬ a = 0 → WP mi Q tgt ls st D) (hF : a = 0 → WP mi Q (pc + 3) ls st D) : WP mi Q pc ls (vI a :: st) D := by
  intro hl hs hD ad cA dC dI p l e s m args below meth c H lsR locs hA hG hK hP hS hL
  have ca : c32 a := cVs_h hs
  show W p l e (rmO mi) s m args below meth c H locs 0 0 _ (F0 m pc lsR (.int (Int32.ofInt a) :: st.map (reV ad)))
  exact lv_if_ne hG.1 hG.2.1 hd ht (fun q => hT (fun z => q ((eq32 ca c0).mpr z)) hl (cVs_t hs) hD ad cA dC dI p l e s m args below meth c H lsR locs hA hG hK hP hS hL) (fun q => hF ((eq32 ca c0).mp q) hl (cVs_t hs) hD ad cA dC dI p l e s m args below meth c H lsR locs hA hG hK hP hS hL)
theorem WP_icmp_lt {a b off : Int} {tgt : Nat} (hd : decode mi.2.1 pc = .ok (.if_icmp .lt off, 3)) (ht : (pc : Int) + off = (tgt : Int)) (hT : a < b → WP mi Q tgt ls st D) (hF : ¬ a < b → WP mi Q (pc + 3) ls st D) : WP mi Q pc ls (vI b :: vI a :: st) D := by
  intro hl hs hD ad cA dC dI p l e s m args below meth c H lsR locs hA hG hK hP hS hL
  have ca : c32 a := cVs_h (cVs_t hs)
  have cb : c32 b := cVs_h hs
  show W p l e (rmO mi) s m args below meth c H locs 0 0 _ (F0 m pc lsR (.int (Int32.ofInt b) :: .int (Int32.ofInt a) :: st.map (reV ad)))
  exact lv_icmp_lt hG.1 hG.2.1 hd ht (fun q => hT ((lt32 ca cb).mp q) hl (cVs_t (cVs_t hs)) hD ad cA dC dI p l e s m args below meth c H lsR locs hA hG hK hP hS hL) (fun q => hF (fun z => q ((lt32 ca cb).mpr z)) hl (cVs_t (cVs_t hs)) hD ad cA dC dI p l e s m args below meth c H lsR locs hA hG hK hP hS hL)
theorem WP_if_lt {a off : Int} {tgt : Nat} (hd : decode mi.2.1 pc = .ok (.ifCond .lt off, 3)) (ht : (pc : Int) + off = (tgt : Int)) (hT : a < 0 → WP mi Q tgt ls st D) (hF : ¬ a < 0 → WP mi Q (pc + 3) ls st D) : WP mi Q pc ls (vI a :: st) D := by
  intro hl hs hD ad cA dC dI p l e s m args below meth c H lsR locs hA hG hK hP hS hL
  have ca : c32 a := cVs_h hs
  show W p l e (rmO mi) s m args below meth c H locs 0 0 _ (F0 m pc lsR (.int (Int32.ofInt a) :: st.map (reV ad)))
  exact lv_if_lt hG.1 hG.2.1 hd ht (fun q => hT ((lt32 ca c0).mp q) hl (cVs_t hs) hD ad cA dC dI p l e s m args below meth c H lsR locs hA hG hK hP hS hL) (fun q => hF (fun z => q ((lt32 ca c0).mpr z)) hl (cVs_t hs) hD ad cA dC dI p l e s m args below meth c H lsR locs hA hG hK hP hS hL)
theorem WP_icmp_ge {a b off : Int} {tgt : Nat} (hd : decode mi.2.1 pc = .ok (.if_icmp .ge off, 3)) (ht : (pc : Int) + off = (tgt : Int)) (hT : b ≤ a → WP mi Q tgt ls st D) (hF : ¬ b ≤ a → WP mi Q (pc + 3) ls st D) : WP mi Q pc ls (vI b :: vI a :: st) D := by
  intro hl hs hD ad cA dC dI p l e s m args below meth c H lsR locs hA hG hK hP hS hL
  have ca : c32 a := cVs_h (cVs_t hs)
  have cb : c32 b := cVs_h hs
  show W p l e (rmO mi) s m args below meth c H locs 0 0 _ (F0 m pc lsR (.int (Int32.ofInt b) :: .int (Int32.ofInt a) :: st.map (reV ad)))
  exact lv_icmp_ge hG.1 hG.2.1 hd ht (fun q => hT ((le32 cb ca).mp q) hl (cVs_t (cVs_t hs)) hD ad cA dC dI p l e s m args below meth c H lsR locs hA hG hK hP hS hL) (fun q => hF (fun z => q ((le32 cb ca).mpr z)) hl (cVs_t (cVs_t hs)) hD ad cA dC dI p l e s m args below meth c H lsR locs hA hG hK hP hS hL)
theorem WP_if_ge {a off : Int} {tgt : Nat} (hd : decode mi.2.1 pc = .ok (.ifCond .ge off, 3)) (ht : (pc : Int) + off = (tgt : Int)) (hT : 0 ≤ a → WP mi Q tgt ls st D) (hF : ¬ 0 ≤ a → WP mi Q (pc + 3) ls st D) : WP mi Q pc ls (vI a :: st) D := by
  intro hl hs hD ad cA dC dI p l e s m args below meth c H lsR locs hA hG hK hP hS hL
  have ca : c32 a := cVs_h hs
  show W p l e (rmO mi) s m args below meth c H locs 0 0 _ (F0 m pc lsR (.int (Int32.ofInt a) :: st.map (reV ad)))
  exact lv_if_ge hG.1 hG.2.1 hd ht (fun q => hT ((le32 c0 ca).mp q) hl (cVs_t hs) hD ad cA dC dI p l e s m args below meth c H lsR locs hA hG hK hP hS hL) (fun q => hF (fun z => q ((le32 c0 ca).mpr z)) hl (cVs_t hs) hD ad cA dC dI p l e s m args below meth c H lsR locs hA hG hK hP hS hL)
theorem WP_icmp_gt {a b off : Int} {tgt : Nat} (hd : decode mi.2.1 pc = .ok (.if_icmp .gt off, 3)) (ht : (pc : Int) + off = (tgt : Int)) (hT : b < a → WP mi Q tgt ls st D) (hF : ¬ b < a → WP mi Q (pc + 3) ls st D) : WP mi Q pc ls (vI b :: vI a :: st) D := by
  intro hl hs hD ad cA dC dI p l e s m args below meth c H lsR locs hA hG hK hP hS hL
  have ca : c32 a := cVs_h (cVs_t hs)
  have cb : c32 b := cVs_h hs
  show W p l e (rmO mi) s m args below meth c H locs 0 0 _ (F0 m pc lsR (.int (Int32.ofInt b) :: .int (Int32.ofInt a) :: st.map (reV ad)))
  exact lv_icmp_gt hG.1 hG.2.1 hd ht (fun q => hT ((lt32 cb ca).mp q) hl (cVs_t (cVs_t hs)) hD ad cA dC dI p l e s m args below meth c H lsR locs hA hG hK hP hS hL) (fun q => hF (fun z => q ((lt32 cb ca).mpr z)) hl (cVs_t (cVs_t hs)) hD ad cA dC dI p l e s m args below meth c H lsR locs hA hG hK hP hS hL)
theorem WP_if_gt {a off : Int} {tgt : Nat} (hd : decode mi.2.1 pc = .ok (.ifCond .gt off, 3)) (ht : (pc : Int) + off = (tgt : Int)) (hT : 0 < a → WP mi Q tgt ls st D) (hF : ¬ 0 < a → WP mi Q (pc + 3) ls st D) : WP mi Q pc ls (vI a :: st) D := by
  intro hl hs hD ad cA dC dI p l e s m args below meth c H lsR locs hA hG hK hP hS hL
  have ca : c32 a := cVs_h hs
  show W p l e (rmO mi) s m args below meth c H locs 0 0 _ (F0 m pc lsR (.int (Int32.ofInt a) :: st.map (reV ad)))
  exact lv_if_gt hG.1 hG.2.1 hd ht (fun q => hT ((lt32 c0 ca).mp q) hl (cVs_t hs) hD ad cA dC dI p l e s m args below meth c H lsR locs hA hG hK hP hS hL) (fun q => hF (fun z => q ((lt32 c0 ca).mpr z)) hl (cVs_t hs) hD ad cA dC dI p l e s m args below meth c H lsR locs hA hG hK hP hS hL)
theorem WP_icmp_le {a b off : Int} {tgt : Nat} (hd : decode mi.2.1 pc = .ok (.if_icmp .le off, 3)) (ht : (pc : Int) + off = (tgt : Int)) (hT : a ≤ b → WP mi Q tgt ls st D) (hF : ¬ a ≤ b → WP mi Q (pc + 3) ls st D) : WP mi Q pc ls (vI b :: vI a :: st) D := by
  intro hl hs hD ad cA dC dI p l e s m args below meth c H lsR locs hA hG hK hP hS hL
  have ca : c32 a := cVs_h (cVs_t hs)
  have cb : c32 b := cVs_h hs
  show W p l e (rmO mi) s m args below meth c H locs 0 0 _ (F0 m pc lsR (.int (Int32.ofInt b) :: .int (Int32.ofInt a) :: st.map (reV ad)))
  exact lv_icmp_le hG.1 hG.2.1 hd ht (fun q => hT ((le32 ca cb).mp q) hl (cVs_t (cVs_t hs)) hD ad cA dC dI p l e s m args below meth c H lsR locs hA hG hK hP hS hL) (fun q => hF (fun z => q ((le32 ca cb).mpr z)) hl (cVs_t (cVs_t hs)) hD ad cA dC dI p l e s m args below meth c H lsR locs hA hG hK hP hS hL)
theorem WP_if_le {a off : Int} {tgt : Nat} (hd : decode mi.2.1 pc = .ok (.ifCond .le off, 3)) (ht : (pc : Int) + off = (tgt : Int)) (hT : a ≤ 0 → WP mi Q tgt ls st D) (hF : ¬ a ≤ 0 → WP mi Q (pc + 3) ls st D) : WP mi Q pc ls (vI a :: st) D := by
  intro hl hs hD ad cA dC dI p l e s m args below meth c H lsR locs hA hG hK hP hS hL
  have ca : c32 a := cVs_h hs
  show W p l e (rmO mi) s m args below meth c H locs 0 0 _ (F0 m pc lsR (.int (Int32.ofInt a) :: st.map (reV ad)))
  exact lv_if_le hG.1 hG.2.1 hd ht (fun q => hT ((le32 ca c0).mp q) hl (cVs_t hs) hD ad cA dC dI p l e s m args below meth c H lsR locs hA hG hK hP hS hL) (fun q => hF (fun z => q ((le32 ca c0).mpr z)) hl (cVs_t hs) hD ad cA dC dI p l e s m args below meth c H lsR locs hA hG hK hP hS hL)
theorem WP_tabOut {a dflt lo hi : Int} {offs : Array Int} {len tgt : Nat} (hd : decode mi.2.1 pc = .ok (.tableswitch dflt lo hi offs, len)) (h : a < lo ∨ hi < a) (ht : (pc : Int) + dflt = (tgt : Int)) (hn : WP mi Q tgt ls st D) : WP mi Q pc ls (vI a :: st) D := by
  intro hl hs hD ad cA dC dI p l e s m args below meth c H lsR locs hA hG hK hP hS hL
  have ca : c32 a := cVs_h hs
  show W p l e (rmO mi) s m args below meth c H locs 0 0 _ (F0 m pc lsR (.int (Int32.ofInt a) :: st.map (reV ad)))
  exact lv_tableOut hG.1 hG.2.1 hd (by rw [ti32 ca]; exact h) ht (hn hl (cVs_t hs) hD ad cA dC dI p l e s m args below meth c H lsR locs hA hG hK hP hS hL)
theorem WP_tabIn {a dflt lo hi off : Int} {offs : Array Int} {len tgt : Nat} (hd : decode mi.2.1 pc = .ok (.tableswitch dflt lo hi offs, len)) (h1 : ¬ a < lo) (h2 : ¬ hi < a) (ho : offs[(a - lo).toNat]? = some off) (ht : (pc : Int) + off = (tgt : Int)) (hn : WP mi Q tgt ls st D) : WP mi Q pc ls (vI a :: st) D := by
  intro hl hs hD ad cA dC dI p l e s m args below meth c H lsR locs hA hG hK hP hS hL
  have ca : c32 a := cVs_h hs
  show W p l e (rmO mi) s m args below meth c H locs 0 0 _ (F0 m pc lsR (.int (Int32.ofInt a) :: st.map (reV ad)))
  exact lv_tableIn hG.1 hG.2.1 hd (by rw [ti32 ca]; exact h1) (by rw [ti32 ca]; exact h2) (by rw [ti32 ca]; exact ho) ht (hn hl (cVs_t hs) hD ad cA dC dI p l e s m args below meth c H lsR locs hA hG hK hP hS hL)
theorem WP_look {a dflt off : Int} {ps : Array (Int × Int)} {len tgt : Nat} (hd : decode mi.2.1 pc = .ok (.lookupswitch dflt ps, len)) (hp : (ps.toList.zip (ps.toList.drop 1)).all (fun (a, next) => a.1 < next.1) = true) (ho : Op.lookupswitch.offset ps.toList dflt a = off) (ht : (pc : Int) + off = (tgt : Int)) (hn : WP mi Q tgt ls st D) : WP mi Q pc ls (vI a :: st) D := by
  intro hl hs hD ad cA dC dI p l e s m args below meth c H lsR locs hA hG hK hP hS hL
  have ca : c32 a := cVs_h hs
  show W p l e (rmO mi) s m args below meth c H locs 0 0 _ (F0 m pc lsR (.int (Int32.ofInt a) :: st.map (reV ad)))
  exact lv_lookup hG.1 hG.2.1 hd hp (by rw [ti32 ca]; exact ho) ht (hn hl (cVs_t hs) hD ad cA dC dI p l e s m args below meth c H lsR locs hA hG hK hP hS hL)
theorem WP_cD (h : cD D → WP mi Q pc ls st D) : WP mi Q pc ls st D := fun a b c => h c a b c
theorem WP_cl (h : cVs ls → WP mi Q pc ls st D) : WP mi Q pc ls st D := fun a b c => h a a b c
theorem WP_cs (h : cVs st → WP mi Q pc ls st D) : WP mi Q pc ls st D := fun a b c => h b a b c
theorem WP_getI {k j idx ci : Nat} {z : Int} (hd : decode mi.2.1 pc = .ok (.getfield idx, 3)) (hf : FLok mi.1.cls idx ci j) (hk : kc k = (0, ci)) (hj : fk ci j = 0) (hz : D k j = z) (hn : WP mi Q (pc + 3) ls (vI z :: st) D) : WP mi Q pc ls (vR k :: st) D := by
  subst hz
  intro hl hs hD ad cA dC dI p l e s m args below meth c H lsR locs hA hG hK hP hS hL
  obtain ⟨C, T, N, ty, hc, hjN, hm⟩ := hf
  show W p l e (rmO mi) s m args below meth c H locs 0 0 _ (F0 m pc lsR (.ref (ad k) :: st.map (reV ad)))
  refine va_get hG.1 hG.2.1 hG.2.2.2.1 hc.2.1 hG.2.2.2.2.1 hK hP k (fs := (List.range (nf ci)).map (fV ad D k ci)) ?_ hc.1 j hjN (hG.2.2.2.1 _ hm) (fun x h => h) (v := .int (Int32.ofInt (D k j))) ?_ hd ?_
  · rw [WD_at _ _ _ (kc_lt hk (by decide))]; simp only [cellOf, hk]
  · have hj2 : j < nf ci := hc.2.2.1 ▸ hjN
    simp [hj2, fV, hj]
  · exact hn hl (cVs_c (cD_i hD (by simp [isL, hk, hj])) (cVs_t hs)) hD ad cA dC dI p l e s m args below meth c H lsR locs hA hG hK hP hS hL
theorem WP_getL {k j idx ci : Nat} {z : Int} (hd : decode mi.2.1 pc = .ok (.getfield idx, 3)) (hf : FLok mi.1.cls idx ci j) (hk : kc k = (0, ci)) (hj : fk ci j = 1) (hz : D k j = z) (hn : WP mi Q (pc + 3) ls (vL z :: st) D) : WP mi Q pc ls (vR k :: st) D := by
  subst hz
  intro hl hs hD ad cA dC dI p l e s m args below meth c H lsR locs hA hG hK hP hS hL
  obtain ⟨C, T, N, ty, hc, hjN, hm⟩ := hf
  show W p l e (rmO mi) s m args below meth c H locs 0 0 _ (F0 m pc lsR (.ref (ad k) :: st.map (reV ad)))
  refine va_get hG.1 hG.2.1 hG.2.2.2.1 hc.2.1 hG.2.2.2.2.1 hK hP k (fs := (List.range (nf ci)).map (fV ad D k ci)) ?_ hc.1 j hjN (hG.2.2.2.1 _ hm) (fun x h => h) (v := .long (Int64.ofInt (D k j))) ?_ hd ?_
  · rw [WD_at _ _ _ (kc_lt hk (by decide))]; simp only [cellOf, hk]
  · have hj2 : j < nf ci := hc.2.2.1 ▸ hjN
    simp [hj2, fV, hj]
  · exact hn hl (cVs_c (cD_l hD (by simp [isL, hk, hj])) (cVs_t hs)) hD ad cA dC dI p l e s m args below meth c H lsR locs hA hG hK hP hS hL
theorem WP_getR {k j idx ci z : Nat} (hd : decode mi.2.1 pc = .ok (.getfield idx, 3)) (hf : FLok mi.1.cls idx ci j) (hk : kc k = (0, ci)) (hj : fk ci j = 2) (hz : sr k j = z) (hn : WP mi Q (pc + 3) ls (vR z :: st) D) : WP mi Q pc ls (vR k :: st) D := by
  subst hz
  intro hl hs hD ad cA dC dI p l e s m args below meth c H lsR locs hA hG hK hP hS hL
  obtain ⟨C, T, N, ty, hc, hjN, hm⟩ := hf
  show W p l e (rmO mi) s m args below meth c H locs 0 0 _ (F0 m pc lsR (.ref (ad k) :: st.map (reV ad)))
  refine va_get hG.1 hG.2.1 hG.2.2.2.1 hc.2.1 hG.2.2.2.2.1 hK hP k (fs := (List.range (nf ci)).map (fV ad D k ci)) ?_ hc.1 j hjN (hG.2.2.2.1 _ hm) (fun x h => h) (v := .ref (ad (sr k j))) ?_ hd ?_
  · rw [WD_at _ _ _ (kc_lt hk (by decide))]; simp only [cellOf, hk]
  · have hj2 : j < nf ci := hc.2.2.1 ▸ hjN
    simp [hj2, fV, hj]
  · exact hn hl (cVs_c (show cV (vR _) from trivial) (cVs_t hs)) hD ad cA dC dI p l e s m args below meth c H lsR locs hA hG hK hP hS hL
theorem WP_putI {k j idx ci : Nat} {z : Int} (hd : decode mi.2.1 pc = .ok (.putfield idx, 3)) (hf : FPok mi.1.cls idx ci j .int) (hk : kc k = (0, ci)) (hj : fk ci j = 0) (hn : WP mi Q (pc + 3) ls st (hu D k j z)) : WP mi Q pc ls (vI z :: vR k :: st) D := by
  intro hl hs hD ad cA dC dI p l e s m args below meth c H lsR locs hA hG hK hP hS hL
  obtain ⟨C, T, N, ty, hc, hjN, hm, hfin, hty⟩ := hf
  show W p l e (rmO mi) s m args below meth c H locs 0 0 _ (F0 m pc lsR (.int (Int32.ofInt z) :: .ref (ad k) :: st.map (reV ad)))
  have hj2 : j < nf ci := hc.2.2.1 ▸ hjN
  have h80 := kc_lt hk (by decide)
  refine va_put hG.1 hG.2.1 hG.2.2.2.1 hc.2.1 ty hc.2.2.2.1 hc.2.2.2.2 hG.2.2.2.2.1 hK hP (WD_D hA) hS k (fs := (List.range (nf ci)).map (fV ad D k ci)) ?_ hc.1 j hjN (hG.2.2.2.1 _ hm) (fun x h => h) hfin (ty := .int) hty rfl rfl (by simpa using hj2) hd ?_
  · rw [WD_at _ _ _ h80]; simp only [cellOf, hk]
  · intro H1 locs1 hP1 _ hS1
    rw [WD_set (D' := hu D k j z) h80 (by simp only [cellOf, hk]; congr 2; exact fV_set (by simp [fV, hj, hu_s]) hj2) (fun a h => cellOf_ne h)] at hP1
    exact hn hl (cVs_t (cVs_t hs)) (cD_u hD (show cB _ _ from by rw [show isL k j = false from by simp [isL, hk, hj]]; exact cVs_h hs)) ad cA dC dI p l e s m args below meth c H1 lsR locs1 hA hG hK hP1 hS1 hL
theorem WP_putL {k j idx ci : Nat} {z : Int} (hd : decode mi.2.1 pc = .ok (.putfield idx, 3)) (hf : FPok mi.1.cls idx ci j .long) (hk : kc k = (0, ci)) (hj : fk ci j = 1) (hn : WP mi Q (pc + 3) ls st (hu D k j z)) : WP mi Q pc ls (vL z :: vR k :: st) D := by
  intro hl hs hD ad cA dC dI p l e s m args below meth c H lsR locs hA hG hK hP hS hL
  obtain ⟨C, T, N, ty, hc, hjN, hm, hfin, hty⟩ := hf
  show W p l e (rmO mi) s m args below meth c H locs 0 0 _ (F0 m pc lsR (.long (Int64.ofInt z) :: .ref (ad k) :: st.map (reV ad)))
  have hj2 : j < nf ci := hc.2.2.1 ▸ hjN
  have h80 := kc_lt hk (by decide)
  refine va_put hG.1 hG.2.1 hG.2.2.2.1 hc.2.1 ty hc.2.2.2.1 hc.2.2.2.2 hG.2.2.2.2.1 hK hP (WD_D hA) hS k (fs := (List.range (nf ci)).map (fV ad D k ci)) ?_ hc.1 j hjN (hG.2.2.2.1 _ hm) (fun x h => h) hfin (ty := .long) hty rfl rfl (by simpa using hj2) hd ?_
  · rw [WD_at _ _ _ h80]; simp only [cellOf, hk]
  · intro H1 locs1 hP1 _ hS1
    rw [WD_set (D' := hu D k j z) h80 (by simp only [cellOf, hk]; congr 2; exact fV_set (by simp [fV, hj, hu_s]) hj2) (fun a h => cellOf_ne h)] at hP1
    exact hn hl (cVs_t (cVs_t hs)) (cD_u hD (show cB _ _ from by rw [show isL k j = true from by simp [isL, hk, hj]]; exact cVs_h hs)) ad cA dC dI p l e s m args below meth c H1 lsR locs1 hA hG hK hP1 hS1 hL
theorem WP_iald {k n : Nat} {i z : Int} (hd : decode mi.2.1 pc = .ok (.iaload, 1)) (hk : kc k = (1, n)) (h0 : 0 ≤ i) (h1 : i < n) (hz : D k i.toNat = z) (hn : WP mi Q (pc + 1) ls (vI z :: st) D) : WP mi Q pc ls (vI i :: vR k :: st) D := by
  subst hz
  intro hl hs hD ad cA dC dI p l e s m args below meth c H lsR locs hA hG hK hP hS hL
  have ci : c32 i := cVs_h hs
  show W p l e (rmO mi) s m args below meth c H locs 0 0 _ (F0 m pc lsR (.int (Int32.ofInt i) :: .ref (ad k) :: st.map (reV ad)))
  refine va_iald hG.1 hG.2.1 hK hP k 0 (cA := cA 1) (n := n) (f := fun j => Int32.ofInt (D k j)) ?_ rfl (in32 h0 h1 ci) hd ?_
  · rw [WD_at _ _ _ (kc_lt hk (by decide))]; simp only [cellOf, hk]
  · rw [cl32 h0 ci]
    exact hn hl (cVs_c (cD_i hD (by simp [isL, hk])) (cVs_t (cVs_t hs))) hD ad cA dC dI p l e s m args below meth c H lsR locs hA hG hK hP hS hL
theorem WP_zald {k n : Nat} {i z : Int} (hd : decode mi.2.1 pc = .ok (.baload, 1)) (hk : kc k = (2, n)) (h0 : 0 ≤ i) (h1 : i < n) (hz : D k i.toNat = z) (hn : WP mi Q (pc + 1) ls (vI z :: st) D) : WP mi Q pc ls (vI i :: vR k :: st) D := by
  subst hz
  intro hl hs hD ad cA dC dI p l e s m args below meth c H lsR locs hA hG hK hP hS hL
  have ci : c32 i := cVs_h hs
  show W p l e (rmO mi) s m args below meth c H locs 0 0 _ (F0 m pc lsR (.int (Int32.ofInt i) :: .ref (ad k) :: st.map (reV ad)))
  refine va_zald hG.1 hG.2.1 hK hP k 1 (cA := cA 2) (n := n) (f := fun j => Int32.ofInt (D k j)) ?_ rfl (in32 h0 h1 ci) hd ?_
  · rw [WD_at _ _ _ (kc_lt hk (by decide))]; simp only [cellOf, hk]
  · rw [cl32 h0 ci]
    exact hn hl (cVs_c (cD_i hD (by simp [isL, hk])) (cVs_t (cVs_t hs))) hD ad cA dC dI p l e s m args below meth c H lsR locs hA hG hK hP hS hL
theorem WP_lald {k n : Nat} {i z : Int} (hd : decode mi.2.1 pc = .ok (.laload, 1)) (hk : kc k = (3, n)) (h0 : 0 ≤ i) (h1 : i < n) (hz : D k i.toNat = z) (hn : WP mi Q (pc + 1) ls (vL z :: st) D) : WP mi Q pc ls (vI i :: vR k :: st) D := by
  subst hz
  intro hl hs hD ad cA dC dI p l e s m args below meth c H lsR locs hA hG hK hP hS hL
  have ci : c32 i := cVs_h hs
  show W p l e (rmO mi) s m args below meth c H locs 0 0 _ (F0 m pc lsR (.int (Int32.ofInt i) :: .ref (ad k) :: st.map (reV ad)))
  refine va_lald hG.1 hG.2.1 hK hP k 2 (cA := cA 3) (n := n) (f := fun j => Int64.ofInt (D k j)) ?_ rfl (in32 h0 h1 ci) hd ?_
  · rw [WD_at _ _ _ (kc_lt hk (by decide))]; simp only [cellOf, hk]
  · rw [cl32 h0 ci]
    exact hn hl (cVs_c (cD_l hD (by simp [isL, hk])) (cVs_t (cVs_t hs))) hD ad cA dC dI p l e s m args below meth c H lsR locs hA hG hK hP hS hL
theorem WP_aald4 {k n z : Nat} {i : Int} (hd : decode mi.2.1 pc = .ok (.aaload, 1)) (hk : kc k = (4, n)) (h0 : 0 ≤ i) (h1 : i < n) (hz : sr k i.toNat = z) (hn : WP mi Q (pc + 1) ls (vR z :: st) D) : WP mi Q pc ls (vI i :: vR k :: st) D := by
  subst hz
  intro hl hs hD ad cA dC dI p l e s m args below meth c H lsR locs hA hG hK hP hS hL
  have ci : c32 i := cVs_h hs
  show W p l e (rmO mi) s m args below meth c H locs 0 0 _ (F0 m pc lsR (.int (Int32.ofInt i) :: .ref (ad k) :: st.map (reV ad)))
  refine va_aldq hG.1 hG.2.1 hK hP k 3 (cA := cA 4) (C := RX2) (n := n) (f := fun j => some (ad (sr k j))) ?_ rfl (in32 h0 h1 ci) hd ?_
  · rw [WD_at _ _ _ (kc_lt hk (by decide))]; simp only [cellOf, hk]
  · rw [cl32 h0 ci]
    exact hn hl (cVs_c (show cV (vR _) from trivial) (cVs_t (cVs_t hs))) hD ad cA dC dI p l e s m args below meth c H lsR locs hA hG hK hP hS hL
theorem WP_aald5 {k n z : Nat} {i : Int} (hd : decode mi.2.1 pc = .ok (.aaload, 1)) (hk : kc k = (5, n)) (h0 : 0 ≤ i) (h1 : i < n) (hz : sr k i.toNat = z) (hn : WP mi Q (pc + 1) ls (vR z :: st) D) : WP mi Q pc ls (vI i :: vR k :: st) D := by
  subst hz
  intro hl hs hD ad cA dC dI p l e s m args below meth c H lsR locs hA hG hK hP hS hL
  have ci : c32 i := cVs_h hs
  show W p l e (rmO mi) s m args below meth c H locs 0 0 _ (F0 m pc lsR (.int (Int32.ofInt i) :: .ref (ad k) :: st.map (reV ad)))
  refine va_aldq hG.1 hG.2.1 hK hP k 4 (cA := cA 5) (C := RX3) (n := n) (f := fun j => some (ad (sr k j))) ?_ rfl (in32 h0 h1 ci) hd ?_
  · rw [WD_at _ _ _ (kc_lt hk (by decide))]; simp only [cellOf, hk]
  · rw [cl32 h0 ci]
    exact hn hl (cVs_c (show cV (vR _) from trivial) (cVs_t (cVs_t hs))) hD ad cA dC dI p l e s m args below meth c H lsR locs hA hG hK hP hS hL
theorem WP_alen {k n kd : Nat} {z : Int} (hd : decode mi.2.1 pc = .ok (.arraylength, 1)) (hk : kc k = (kd, n)) (hkd : kd = 1 ∨ kd = 3) (hz : (n : Int) = z) (hc : c32 z) (hn : WP mi Q (pc + 1) ls (vI z :: st) D) : WP mi Q pc ls (vR k :: st) D := by
  subst hz
  intro hl hs hD ad cA dC dI p l e s m args below meth c H lsR locs hA hG hK hP hS hL
  show W p l e (rmO mi) s m args below meth c H locs 0 0 _ (F0 m pc lsR (.ref (ad k) :: st.map (reV ad)))
  rcases hkd with rfl | rfl
  · refine va_alen hG.1 hG.2.1 hK hP k 0 (cA := cA 1) (x := (n, .inl (fun j => Int32.ofInt (D k j)))) ?_ rfl (v := Int32.ofInt (n : Int)) rfl hd (hn hl (cVs_c hc (cVs_t hs)) hD ad cA dC dI p l e s m args below meth c H lsR locs hA hG hK hP hS hL)
    rw [WD_at _ _ _ (kc_lt hk (by decide))]; simp only [cellOf, hk]
  · refine va_alen hG.1 hG.2.1 hK hP k 2 (cA := cA 3) (x := (n, .inr (.inl (fun j => Int64.ofInt (D k j))))) ?_ rfl (v := Int32.ofInt (n : Int)) rfl hd (hn hl (cVs_c hc (cVs_t hs)) hD ad cA dC dI p l e s m args below meth c H lsR locs hA hG hK hP hS hL)
    rw [WD_at _ _ _ (kc_lt hk (by decide))]; simp only [cellOf, hk]
theorem WP_iast {k n : Nat} {i z : Int} (hd : decode mi.2.1 pc = .ok (.iastore, 1)) (hk : kc k = (1, n)) (h0 : 0 ≤ i) (h1 : i < n) (hn : WP mi Q (pc + 1) ls st (hu D k i.toNat z)) : WP mi Q pc ls (vI z :: vI i :: vR k :: st) D := by
  intro hl hs hD ad cA dC dI p l e s m args below meth c H lsR locs hA hG hK hP hS hL
  have ci : c32 i := cVs_h (cVs_t hs)
  have h80 := kc_lt hk (by decide)
  show W p l e (rmO mi) s m args below meth c H locs 0 0 _ (F0 m pc lsR (.int (Int32.ofInt z) :: .int (Int32.ofInt i) :: .ref (ad k) :: st.map (reV ad)))
  refine va_iast hG.1 hG.2.1 hK hP (WD_D hA) hS k 0 (cA := cA 1) (n := n) (f := fun j => Int32.ofInt (D k j)) ?_ rfl (in32 h0 h1 ci) hd ?_
  · rw [WD_at _ _ _ h80]; simp only [cellOf, hk]
  · intro H1 locs1 hP1 _ hS1
    rw [cl32 h0 ci] at hP1
    rw [WD_set (D' := hu D k i.toNat z) h80 (by simp only [cellOf, hk]; rw [upd_hu]) (fun a h => cellOf_ne h)] at hP1
    exact hn hl (cVs_t (cVs_t (cVs_t hs))) (cD_u hD (show cB _ _ from by rw [show isL k i.toNat = false from by simp [isL, hk]]; exact cVs_h hs)) ad cA dC dI p l e s m args below meth c H1 lsR locs1 hA hG hK hP1 hS1 hL
theorem WP_zast {k n : Nat} {i z : Int} (hd : decode mi.2.1 pc = .ok (.bastore, 1)) (hk : kc k = (2, n)) (h0 : 0 ≤ i) (h1 : i < n) (hb : z = 0 ∨ z = 1) (hn : WP mi Q (pc + 1) ls st (hu D k i.toNat z)) : WP mi Q pc ls (vI z :: vI i :: vR k :: st) D := by
  intro hl hs hD ad cA dC dI p l e s m args below meth c H lsR locs hA hG hK hP hS hL
  have ci : c32 i := cVs_h (cVs_t hs)
  have h80 := kc_lt hk (by decide)
  show W p l e (rmO mi) s m args below meth c H locs 0 0 _ (F0 m pc lsR (.int (Int32.ofInt z) :: .int (Int32.ofInt i) :: .ref (ad k) :: st.map (reV ad)))
  refine va_zast hG.1 hG.2.1 hK hP (WD_D hA) hS k 1 (cA := cA 2) (n := n) (f := fun j => Int32.ofInt (D k j)) ?_ rfl (in32 h0 h1 ci) hd ?_
  · rw [WD_at _ _ _ h80]; simp only [cellOf, hk]
  · intro H1 locs1 hP1 _ hS1
    rw [cl32 h0 ci, nar_z hb] at hP1
    rw [WD_set (D' := hu D k i.toNat z) h80 (by simp only [cellOf, hk]; rw [upd_hu]) (fun a h => cellOf_ne h)] at hP1
    exact hn hl (cVs_t (cVs_t (cVs_t hs))) (cD_u hD (show cB _ _ from by rw [show isL k i.toNat = false from by simp [isL, hk]]; exact cVs_h hs)) ad cA dC dI p l e s m args below meth c H1 lsR locs1 hA hG hK hP1 hS1 hL
theorem WP_last {k n : Nat} {i z : Int} (hd : decode mi.2.1 pc = .ok (.lastore, 1)) (hk : kc k = (3, n)) (h0 : 0 ≤ i) (h1 : i < n) (hn : WP mi Q (pc + 1) ls st (hu D k i.toNat z)) : WP mi Q pc ls (vL z :: vI i :: vR k :: st) D := by
  intro hl hs hD ad cA dC dI p l e s m args below meth c H lsR locs hA hG hK hP hS hL
  have ci : c32 i := cVs_h (cVs_t hs)
  have h80 := kc_lt hk (by decide)
  show W p l e (rmO mi) s m args below meth c H locs 0 0 _ (F0 m pc lsR (.long (Int64.ofInt z) :: .int (Int32.ofInt i) :: .ref (ad k) :: st.map (reV ad)))
  refine va_last hG.1 hG.2.1 hK hP (WD_D hA) hS k 2 (cA := cA 3) (n := n) (f := fun j => Int64.ofInt (D k j)) ?_ rfl (in32 h0 h1 ci) hd ?_
  · rw [WD_at _ _ _ h80]; simp only [cellOf, hk]
  · intro H1 locs1 hP1 _ hS1
    rw [cl32 h0 ci] at hP1
    rw [WD_set (D' := hu D k i.toNat z) h80 (by simp only [cellOf, hk]; rw [updL_hu]) (fun a h => cellOf_ne h)] at hP1
    exact hn hl (cVs_t (cVs_t (cVs_t hs))) (cD_u hD (show cB _ _ from by rw [show isL k i.toNat = true from by simp [isL, hk]]; exact cVs_h hs)) ad cA dC dI p l e s m args below meth c H1 lsR locs1 hA hG hK hP1 hS1 hL
theorem WP_ireturn {z : Int} (hd : decode mi.2.1 pc = .ok (.ireturn, 1)) (hr : mi.2.2.2.1 = some .int) (hq : Q (some (vI z)) D) : WP mi Q pc ls [vI z] D := by
  intro hl hs hD ad cA dC dI p l e s m args below meth c H lsR locs hA hG hK hP hS hL
  refine W.iret (v := Int32.ofInt z) hG.1 hG.2.1 (hG.2.2.1.trans hr) (fun t ht _ => ⟨⟨some (vI z), D, rfl, ?_, hD, hq, by rw [ht]; exact hP⟩, hS.F ht⟩) hS.2.2 hd hG.2.2.2.2.2.1
  rw [hr]
  exact ⟨z, rfl, cVs_h hs⟩
theorem WP_zreturn {z : Int} (hd : decode mi.2.1 pc = .ok (.ireturn, 1)) (hr : mi.2.2.2.1 = some .boolean) (hb : z = 0 ∨ z = 1) (hq : Q (some (vI z)) D) : WP mi Q pc ls [vI z] D := by
  intro hl hs hD ad cA dC dI p l e s m args below meth c H lsR locs hA hG hK hP hS hL
  refine W.zret (v := Int32.ofInt z) hG.1 hG.2.1 (hG.2.2.1.trans hr) (by rcases hb with rfl | rfl <;> rfl) (fun t ht _ => ⟨⟨some (vI z), D, rfl, ?_, hD, hq, by rw [ht]; exact hP⟩, hS.F ht⟩) hS.2.2 hd hG.2.2.2.2.2.1
  rw [hr]
  exact ⟨z, rfl, cVs_h hs⟩
theorem WP_lreturn {z : Int} (hd : decode mi.2.1 pc = .ok (.lreturn, 1)) (hr : mi.2.2.2.1 = some .long) (hq : Q (some (vL z)) D) : WP mi Q pc ls [vL z] D := by
  intro hl hs hD ad cA dC dI p l e s m args below meth c H lsR locs hA hG hK hP hS hL
  refine W.lret (v := Int64.ofInt z) hG.1 hG.2.1 (hG.2.2.1.trans hr) (fun t ht _ => ⟨⟨some (vL z), D, rfl, ?_, hD, hq, by rw [ht]; exact hP⟩, hS.F ht⟩) hS.2.2 hd hG.2.2.2.2.2.1
  rw [hr]
  exact ⟨z, rfl, cVs_h hs⟩
theorem WP_return (hd : decode mi.2.1 pc = .ok (.return_, 1)) (hr : mi.2.2.2.1 = none) (hq : Q none D) : WP mi Q pc ls [] D := by
  intro hl hs hD ad cA dC dI p l e s m args below meth c H lsR locs hA hG hK hP hS hL
  refine W.vret hG.1 hG.2.1 (hG.2.2.1.trans hr) (fun t ht _ => ⟨⟨none, D, rfl, ?_, hD, hq, by rw [ht]; exact hP⟩, hS.F ht⟩) hS.2.2 hd hG.2.2.2.2.2.1
  rw [hr]
  rfl
end ROWS
end
section
set_option maxRecDepth 20000 in
theorem allGood : wsL_law.all goodWord = true := by decide +kernel
/-! calls -/
def MOv (g : MI) (n : Nat) : Prop := Cond.instanceMethod g.1 ∈ wsL_law ∧ Cond.selects g.1.cls g.1 g.1 ∈ wsL_law ∧ Cond.initialized g.1.cls ∈ wsL_law ∧ Cond.code g.1 g.2.1 g.2.2.1 g.2.2.2.1 ∈ wsL_law ∧ (g.1.cls ≠ "java/lang/invoke/MethodHandle" ∧ g.1.cls ≠ "java/lang/invoke/VarHandle" ∧ (parseMethodDescriptor g.1.desc).map (fun d => d.parameters.length) = some n)
def MOs (g : MI) (n : Nat) : Prop := Cond.static g.1 ∈ wsL_law ∧ Cond.initialized g.1.cls ∈ wsL_law ∧ Cond.code g.1 g.2.1 g.2.2.1 g.2.2.2.1 ∈ wsL_law ∧ (g.1.cls ≠ "java/lang/invoke/MethodHandle" ∧ g.1.cls ≠ "java/lang/invoke/VarHandle" ∧ (parseMethodDescriptor g.1.desc).map (fun d => d.parameters.length) = some n)
theorem wsO_mem {g : MI} (h : Cond.code g.1 g.2.1 g.2.2.1 g.2.2.2.1 ∈ wsL_law) : ∀ w ∈ wsO g, w ∈ wsL_law := fun w hw => (List.mem_cons.mp hw).elim (fun e => e ▸ h) id
theorem good_mem {ws : List Cond} (h : ∀ w ∈ ws, w ∈ wsL_law) : GoodIn wsL_law ws := fun w hw => ⟨h w hw, good_of_word (List.all_eq_true.mp allGood w (h w hw))⟩
/-- the callee's frames and words fit the caller's -/
def RMok (mi g : MI) : Prop := g.2.2.2.2.1 + 1 ≤ mi.2.2.2.2.1 ∧ 8 + (g.2.2.1 + 11) + g.2.2.2.2.2 ≤ mi.2.2.2.2.2
theorem callU {p : Program} {l : Launch} {e : Env} {R : Room} {s : State} {m : MethodId} {args : Array Value} {below : List Frame} {meth : Method} {c : Code} {H : Heap} {locs : List Loc} {Q : State → Prop} {pc : Nat} {ls : Array Slot} {rest st0 : List Value} {a : Array Value} {ret : Option FieldType} {Qg : Option MV → HP → Prop} {ad : Nat → Nat} {cA dC : Nat → ClassId} {dI : Nat → Nat → Nat} {H0 : Heap}
    (hr : va_Run p l e R s m args below meth c H locs 0 0 0 0 (F0 m pc ls st0) rest (QX ret Qg ad cA dC dI a) (AW ad)) (hS : va_S (AW ad) H0 H locs)
    (kk : ∀ (r : Option MV) (D' : HP) (H1 : Heap) (locs1 : List Loc), okR ret r → cD D' → Qg r D' → va_P (dC, dI) vwCl (WD ad cA D') H1 → va_S (AW ad) H0 H1 locs1 → W p l e R s m args below meth c H1 locs1 0 0 Q (F0 m (pc + 3) ls ((r.map (reV ad)).toList ++ rest))) : W p l e R s m args below meth c H locs 0 0 Q (F0 m pc ls st0) := by
  intro T hT X
  obtain ⟨v, st₀, t, T', L, h0, X', hL, e1, e2, ⟨⟨r, D', hv, hok, hcd, hq, hp⟩, hz, hk⟩, st⟩ := hr T hT X
  cases hv
  rw [h0] at hz hk
  obtain ⟨t2, a1, b1⟩ := kk r D' T'.heap (locs ++ L) hok hcd hq (by rw [e1]; exact hp)
    ⟨Nat.le_trans hS.1 (by rw [e1]; exact hz), fun q h1 h2 => by rw [e1, hk q (Nat.lt_of_lt_of_le h1 hS.1) h2]; exact hS.2.1 q h1 h2, fun q hq => by
      rcases List.mem_append.mp hq with h | h
      · exact hS.2.2 q h
      · exact hL q h⟩ T' rfl X'
  exact ⟨t2, st t2 a1, b1⟩
theorem PX_blind {ad : Nat → Nat} {cA dC : Nat → ClassId} {dI : Nat → Nat → Nat} {as : List MV} {D : HP} : FrameBlind (PX ad cA dC dI as D) := fun a U g mk q => by
  obtain ⟨q0, qP, qK⟩ := q
  exact ⟨q0, qP, va_K.moved (u := U) (U := U.calling g mk a) (Vm.Alike.refl U.vm) qK⟩
section CALLS
variable {mi g : MI} {Q Qg : Option MV → HP → Prop} {pc idx n : Nat} {ls st rest as : List MV} {D : HP}
theorem cVs_back {r : Option MV} {ret : Option FieldType} (h : okR ret r) (hr : cVs rest) : cVs (r.toList ++ rest) := by
  refine cVs_app (fun w hw => ?_) hr
  cases r with
  | none => cases hw
  | some v =>
    have hw : w = v := by simpa using hw
    subst hw
    match ret, h with
    | none, h => cases h
    | some .long, ⟨z, h1, h2⟩ => cases h1; exact h2
    | some .int, ⟨z, h1, h2⟩ => cases h1; exact h2
    | some .boolean, ⟨z, h1, h2⟩ => cases h1; exact h2
    | some .byte, ⟨z, h1, h2⟩ => cases h1; exact h2
    | some .char, ⟨z, h1, h2⟩ => cases h1; exact h2
    | some .short, ⟨z, h1, h2⟩ => cases h1; exact h2
    | some .float, ⟨z, h1, h2⟩ => cases h1; exact h2
    | some .double, ⟨z, h1, h2⟩ => cases h1; exact h2
    | some (.object _), ⟨z, h1, h2⟩ => cases h1; exact h2
    | some (.array _), ⟨z, h1, h2⟩ => cases h1; exact h2
theorem toL_map {ad : Nat → Nat} {r : Option MV} : (r.map (reV ad)).toList ++ rest.map (reV ad) = (r.toList ++ rest).map (reV ad) := by cases r <;> rfl
theorem cat_sum {ad : Nat → Nat} (h : (rest.map (fun v => if v.1 = 1 then 2 else 1)).sum ≤ 8) : ((rest.map (reV ad)).map fun v => v.category).sum ≤ 8 := by
  rw [List.map_map, show (fun v : Value => v.category) ∘ reV ad = fun v => if v.1 = 1 then 2 else 1 from funext fun v => reV_cat]
  exact h
theorem WP_callV {k ci : Nat} {T : u_T} {N : Nat} (hd : decode mi.2.1 pc = .ok (.invokevirtual idx, 3)) (hl0 : Cond.methodLink mi.1.cls idx g.1 ∈ wsL_law) (hm : MOv g n) (hk : kc k = (0, ci)) (hci : vwCl[ci]? = some (g.1.cls, T, N)) (hst : as.reverse ++ vR k :: rest = st) (hlen : as.length = n) (hR : RMok mi g) (hrest : (rest.map (fun v => if v.1 = 1 then 2 else 1)).sum ≤ 8)
    (hct : CT g (vR k :: as) D Qg) (hn : ∀ r D', Qg r D' → okR g.2.2.2.1 r → cD D' → WP mi Q (pc + 3) ls (r.toList ++ rest) D') : WP mi Q pc ls st D := by
  subst hst
  intro hl hs hD ad cA dC dI p l e s m args below meth c H lsR locs hA hG hK hP hS hL
  have hsr : cVs rest := fun w hw => hs w (List.mem_append_right _ (List.mem_cons_of_mem _ hw))
  have hsa : cVs (vR k :: as) := cVs_c (show cV (vR k) from trivial) (fun w hw => hs w (List.mem_append_left _ (List.mem_reverse.mpr hw)))
  have h80 := kc_lt hk (by decide)
  have hgood : GoodIn wsL_law (wsV mi.1.cls idx g.1.cls g.1 (wsO g)) := good_mem (fun w hw => by
    rcases List.mem_append.mp hw with h | h
    · simp only [List.mem_cons, List.not_mem_nil, or_false] at h
      rcases h with rfl | rfl | rfl | rfl
      · exact hl0
      · exact hm.1
      · exact hm.2.1
      · exact hm.2.2.1
    · exact wsO_mem hm.2.2.2.1 w h)
  have hrun := va_runV (p := p) (l := l) (e := e) (R := rmO mi) (s := s) (m := m) (args := args) (below := below) (meth := meth) (c := c) (H := H) (locs := locs) (cells := 0) (slots := 0) (As := as.map (reV ad)) (rest := rest.map (reV ad)) (b := ad k) (g := F0 m pc lsR ((as.map (reV ad)).reverse ++ .ref (ad k) :: rest.map (reV ad))) ⟨hG.1, hG.2.1, hG.2.2.2.2.2.2, hG.2.2.2.2.1, hG.2.2.2.1⟩ (hct hsa hD l ad cA dC dI hA) (cwV n hG.2.2.2.1 hgood rfl rfl rfl ⟨rfl, hm.2.2.2.2⟩ hR)
    ⟨PX_blind, va_recv hK hP (ci := ci) (q0 := k) (fs := (List.range (nf ci)).map (fV ad D k ci)) hci (by rw [WD_at _ _ _ h80]; simp only [cellOf, hk]), fun U hU hW => ⟨rfl, by rw [hU]; exact hP, va_K.moved hW.alike hK⟩⟩ rfl (by rw [List.length_map]; exact hlen) hL.1 rfl (lv_room (cat_sum hrest)) hd ⟨Nat.le_refl _, Nat.le_refl _⟩
  rw [List.map_append, List.map_cons, reV_R, List.map_reverse]
  refine callU hrun hS (fun r D' H1 locs1 hok hcd hq hp hS1 => ?_)
  rw [toL_map]
  exact hn r D' hq hok hcd hl (cVs_back hok hsr) hcd ad cA dC dI p l e s m args below meth c H1 lsR locs1 hA hG hK hp hS1 hL
theorem WP_callS (hd : decode mi.2.1 pc = .ok (.invokestatic idx, 3)) (hl0 : Cond.methodLink mi.1.cls idx g.1 ∈ wsL_law) (hm : MOs g n) (hst : as.reverse ++ rest = st) (hlen : as.length = n) (hR : RMok mi g) (hrest : (rest.map (fun v => if v.1 = 1 then 2 else 1)).sum ≤ 8)
    (hct : CT g as D Qg) (hn : ∀ r D', Qg r D' → okR g.2.2.2.1 r → cD D' → WP mi Q (pc + 3) ls (r.toList ++ rest) D') : WP mi Q pc ls st D := by
  subst hst
  intro hl hs hD ad cA dC dI p l e s m args below meth c H lsR locs hA hG hK hP hS hL
  have hsr : cVs rest := fun w hw => hs w (List.mem_append_right _ hw)
  have hsa : cVs as := fun w hw => hs w (List.mem_append_left _ (List.mem_reverse.mpr hw))
  have hgood : GoodIn wsL_law (va_wsS mi.1.cls idx g.1 (wsO g)) := good_mem (fun w hw => by
    rcases List.mem_append.mp hw with h | h
    · simp only [List.mem_cons, List.not_mem_nil, or_false] at h
      rcases h with rfl | rfl | rfl
      · exact hl0
      · exact hm.1
      · exact hm.2.1
    · exact wsO_mem hm.2.2.1 w h)
  have hrun := va_runS (p := p) (l := l) (e := e) (R := rmO mi) (s := s) (m := m) (args := args) (below := below) (meth := meth) (c := c) (H := H) (locs := locs) (cells := 0) (slots := 0) (As := as.map (reV ad)) (rest := rest.map (reV ad)) (g := F0 m pc lsR ((as.map (reV ad)).reverse ++ rest.map (reV ad))) ⟨hG.1, hG.2.1, hG.2.2.2.2.2.2, hG.2.2.2.2.1, hG.2.2.2.1⟩ (hct hsa hD l ad cA dC dI hA) (va_cwS n hG.2.2.2.1 hgood rfl rfl rfl hm.2.2.2 hR)
    ⟨PX_blind, fun U hU hW => ⟨rfl, by rw [hU]; exact hP, va_K.moved hW.alike hK⟩⟩ rfl (by rw [List.length_map]; exact hlen) hL.1 rfl (lv_room (cat_sum hrest)) hd ⟨Nat.le_refl _, Nat.le_refl _⟩
  rw [List.map_append, List.map_reverse]
  refine callU hrun hS (fun r D' H1 locs1 hok hcd hq hp hS1 => ?_)
  rw [toL_map]
  exact hn r D' hq hok hcd hl (cVs_back hok hsr) hcd ad cA dC dI p l e s m args below meth c H1 lsR locs1 hA hG hK hp hS1 hL
/-- Math.max, Math.min -/
theorem WP_max {a b z : Int} (hd : decode mi.2.1 pc = .ok (.invokestatic idx, 3)) (hl0 : Cond.methodLink mi.1.cls idx Lib.Math.max.name ∈ wsL_law) (hw : Cond.static Lib.Math.max.name ∈ wsL_law ∧ Cond.initialized "java/lang/Math" ∈ wsL_law ∧ Cond.code Lib.Math.max.name Lib.Math.max.code 2 (some .int) ∈ wsL_law) (hR : 1 ≤ mi.2.2.2.2.1 ∧ 8 + 13 ≤ mi.2.2.2.2.2) (hrest : (st.map (fun v => if v.1 = 1 then 2 else 1)).sum ≤ 8) (hz : (if a < b then b else a) = z) (hn : WP mi Q (pc + 3) ls (vI z :: st) D) : WP mi Q pc ls (vI b :: vI a :: st) D := by
  subst hz
  intro hl hs hD ad cA dC dI p l e s m args below meth c H lsR locs hA hG hK hP hS hL
  have ca : c32 a := cVs_h (cVs_t hs)
  have cb : c32 b := cVs_h hs
  show W p l e (rmO mi) s m args below meth c H locs 0 0 _ (F0 m pc lsR (.int (Int32.ofInt b) :: .int (Int32.ofInt a) :: st.map (reV ad)))
  have h4 := cat_sum (ad := ad) hrest
  refine va_mmax hG.1 hG.2.1 (hG.2.2.2.2.2.2.trans hL.1.symm) hG.2.2.2.2.1 (hG.2.2.2.1 _ hl0) (hG.2.2.2.1 _ hw.1) (hG.2.2.2.1 _ hw.2.1) (hG.2.2.2.1 _ hw.2.2) hR.1 (Nat.le_trans (Nat.add_le_add_right h4 13) hR.2) (Nat.zero_le _) (Nat.zero_le _) hd ?_
  have e1 : (if Int32.ofInt a < Int32.ofInt b then Int32.ofInt b else Int32.ofInt a) = Int32.ofInt (if a < b then b else a) := by
    by_cases q : a < b
    · rw [if_pos ((lt32 ca cb).mpr q), if_pos q]
    · rw [if_neg (fun r => q ((lt32 ca cb).mp r)), if_neg q]
  rw [e1]
  exact hn hl (cVs_c (by show c32 (if a < b then b else a); split <;> assumption) (cVs_t (cVs_t hs))) hD ad cA dC dI p l e s m args below meth c H lsR locs hA hG hK hP hS hL
theorem WP_min {a b z : Int} (hd : decode mi.2.1 pc = .ok (.invokestatic idx, 3)) (hl0 : Cond.methodLink mi.1.cls idx Lib.Math.min.name ∈ wsL_law) (hw : Cond.static Lib.Math.min.name ∈ wsL_law ∧ Cond.initialized "java/lang/Math" ∈ wsL_law ∧ Cond.code Lib.Math.min.name Lib.Math.min.code 2 (some .int) ∈ wsL_law) (hR : 1 ≤ mi.2.2.2.2.1 ∧ 8 + 13 ≤ mi.2.2.2.2.2) (hrest : (st.map (fun v => if v.1 = 1 then 2 else 1)).sum ≤ 8) (hz : (if b < a then b else a) = z) (hn : WP mi Q (pc + 3) ls (vI z :: st) D) : WP mi Q pc ls (vI b :: vI a :: st) D := by
  subst hz
  intro hl hs hD ad cA dC dI p l e s m args below meth c H lsR locs hA hG hK hP hS hL
  have ca : c32 a := cVs_h (cVs_t hs)
  have cb : c32 b := cVs_h hs
  show W p l e (rmO mi) s m args below meth c H locs 0 0 _ (F0 m pc lsR (.int (Int32.ofInt b) :: .int (Int32.ofInt a) :: st.map (reV ad)))
  have h4 := cat_sum (ad := ad) hrest
  refine va_mmin hG.1 hG.2.1 (hG.2.2.2.2.2.2.trans hL.1.symm) hG.2.2.2.2.1 (hG.2.2.2.1 _ hl0) (hG.2.2.2.1 _ hw.1) (hG.2.2.2.1 _ hw.2.1) (hG.2.2.2.1 _ hw.2.2) hR.1 (Nat.le_trans (Nat.add_le_add_right h4 13) hR.2) (Nat.zero_le _) (Nat.zero_le _) hd ?_
  have e1 : (if Int32.ofInt b < Int32.ofInt a then Int32.ofInt b else Int32.ofInt a) = Int32.ofInt (if b < a then b else a) := by
    by_cases q : b < a
    · rw [if_pos ((lt32 cb ca).mpr q), if_pos q]
    · rw [if_neg (fun r => q ((lt32 cb ca).mp r)), if_neg q]
  rw [e1]
  exact hn hl (cVs_c (by show c32 (if b < a then b else a); split <;> assumption) (cVs_t (cVs_t hs))) hD ad cA dC dI p l e s m args below meth c H lsR locs hA hG hK hP hS hL
/-- System.arraycopy between int arrays -/
def hc (D : HP) (k0 sp k1 dp n : Nat) : HP := fun a b => if a = k1 ∧ dp ≤ b ∧ b < dp + n then D k0 (sp + (b - dp)) else D a b
theorem hc_ne {D : HP} {k0 sp k1 dp n a : Nat} (h : a ≠ k1) (b : Nat) : hc D k0 sp k1 dp n a b = D a b := by simp [hc, h]
theorem cellOf_hc {ad : Nat → Nat} {cA : Nat → ClassId} {D : HP} {k0 sp k1 dp n a : Nat} (h : a ≠ k1) : cellOf ad cA (hc D k0 sp k1 dp n) a = cellOf ad cA D a := by
  have h1 : ∀ j, hc D k0 sp k1 dp n a j = D a j := fun j => hc_ne h j
  have h2 : ∀ c j, fV ad (hc D k0 sp k1 dp n) a c j = fV ad D a c j := fun c j => by unfold fV; rw [h1]
  unfold cellOf
  rw [show (fun j => Int32.ofInt (hc D k0 sp k1 dp n a j)) = (fun j => Int32.ofInt (D a j)) from funext fun j => by rw [h1], show (fun j => Int64.ofInt (hc D k0 sp k1 dp n a j)) = (fun j => Int64.ofInt (D a j)) from funext fun j => by rw [h1], show fV ad (hc D k0 sp k1 dp n) a (kc a).2 = fV ad D a (kc a).2 from funext fun j => h2 _ j]
theorem WP_copy {k0 k1 n0 n1 : Nat} {sp dp n : Int} (hd : decode mi.2.1 pc = .ok (.invokestatic idx, 3)) (hl0 : Cond.methodLink mi.1.cls idx arraycopyName ∈ wsL_law) (hw : Cond.native arraycopyName ∈ wsL_law ∧ Cond.static arraycopyName ∈ wsL_law ∧ Cond.initialized "java/lang/System" ∈ wsL_law) (hR : 1 ≤ mi.2.2.2.2.1 ∧ 8 + (nativeFrameWords "java/lang/System" "arraycopy" 5 + 11) ≤ mi.2.2.2.2.2) (hrest : (st.map (fun v => if v.1 = 1 then 2 else 1)).sum ≤ 8)
    (hk0 : kc k0 = (1, n0)) (hk1 : kc k1 = (1, n1)) (h1 : 0 ≤ sp) (h2 : 0 ≤ dp) (h3 : 0 ≤ n) (h4 : sp + n ≤ n0) (h5 : dp + n ≤ n1) (hn : WP mi Q (pc + 3) ls st (hc D k0 sp.toNat k1 dp.toNat n.toNat)) : WP mi Q pc ls (vI n :: vI dp :: vR k1 :: vI sp :: vR k0 :: st) D := by
  intro hl hs hD ad cA dC dI p l e s m args below meth c H lsR locs hA hG hK hP hS hL
  have cn : c32 n := cVs_h hs
  have cd : c32 dp := cVs_h (cVs_t hs)
  have cs : c32 sp := cVs_h (cVs_t (cVs_t (cVs_t hs)))
  have e80 := kc_lt hk0 (by decide)
  have f80 := kc_lt hk1 (by decide)
  show W p l e (rmO mi) s m args below meth c H locs 0 0 _ (F0 m pc lsR (.int (Int32.ofInt n) :: .int (Int32.ofInt dp) :: .ref (ad k1) :: .int (Int32.ofInt sp) :: .ref (ad k0) :: st.map (reV ad)))
  have h7 := cat_sum (ad := ad) hrest
  refine va_copyi hG.1 hG.2.1 (hG.2.2.2.2.2.2.trans hL.1.symm) hG.2.2.2.2.1 (hG.2.2.2.1 _ hl0) (hG.2.2.2.1 _ hw.1) (hG.2.2.2.1 _ hw.2.1) (hG.2.2.2.1 _ hw.2.2) hK hP (WD_D hA) hS k0 k1 0 0 (a0 := ad k0) (c0 := cA 1) (c1 := cA 1) (n0 := n0) (n1 := n1) (f := fun j => Int32.ofInt (D k0 j)) (g := fun j => Int32.ofInt (D k1 j)) (ty := .int) ?_ ?_ rfl rfl rfl (fun q => absurd ((lt32 cs c0).mp q) (by omega)) (fun q => absurd ((lt32 cd c0).mp q) (by omega)) (fun q => absurd ((lt32 cn c0).mp q) (by omega)) ?_ ?_ (fun i _ => rfl) hR.1 (Nat.le_trans (Nat.add_le_add_right h7 _) hR.2) hd ?_
  · rw [WD_at _ _ _ e80]; simp only [cellOf, hk0]
  · rw [WD_at _ _ _ f80]; simp only [cellOf, hk1]
  · rw [cl32 h1 cs, cl32 h3 cn]; omega
  · rw [cl32 h2 cd, cl32 h3 cn]; omega
  · intro H1 locs1 hP1 _ hS1
    rw [cl32 h1 cs, cl32 h2 cd, cl32 h3 cn] at hP1
    rw [WD_set (D' := hc D k0 sp.toNat k1 dp.toNat n.toNat) f80 (by
      simp only [cellOf, hk1]
      congr 4
      funext j
      unfold hc va_cpy
      by_cases q : dp.toNat ≤ j ∧ j < dp.toNat + n.toNat
      · simp [q]
      · rw [if_neg (fun r => q r.2), if_neg q]) (fun a h => cellOf_hc h)] at hP1
    refine hn hl (cVs_t (cVs_t (cVs_t (cVs_t (cVs_t hs))))) (fun a b => ?_) ad cA dC dI p l e s m args below meth c H1 lsR locs1 hA hG hK hP1 hS1 hL
    unfold hc
    split
    · rename_i q
      have z1 := hD k0 (sp.toNat + (b - dp.toNat))
      rw [show isL k0 (sp.toNat + (b - dp.toNat)) = false from by simp [isL, hk0]] at z1
      rw [q.1, show isL k1 b = false from by simp [isL, hk1]]
      exact z1
    · exact hD a b
end CALLS
end
section
theorem wm_0 : Cond.classLink RL 7 RX5 ∈ wsL_law := List.mem_of_getElem? (i := 0) (by decide +kernel)
theorem wm_1 : Cond.instantiable RX5 13 ∈ wsL_law := List.mem_of_getElem? (i := 1) (by decide +kernel)
theorem wm_2 : Cond.initialized RX5 ∈ wsL_law := List.mem_of_getElem? (i := 2) (by decide +kernel)
theorem wm_3 : Cond.classLink RL 10 RX6 ∈ wsL_law := List.mem_of_getElem? (i := 3) (by decide +kernel)
theorem wm_4 : Cond.instantiable RX6 29 ∈ wsL_law := List.mem_of_getElem? (i := 4) (by decide +kernel)
theorem wm_5 : Cond.initialized RX6 ∈ wsL_law := List.mem_of_getElem? (i := 5) (by decide +kernel)
theorem wm_6 : Cond.methodLink RL 9 yX5_init ∈ wsL_law := List.mem_of_getElem? (i := 6) (by decide +kernel)
theorem wm_7 : Cond.instanceMethod yX5_init ∈ wsL_law := List.mem_of_getElem? (i := 7) (by decide +kernel)
theorem wm_8 : Cond.code yX5_init cX5_init 2 none ∈ wsL_law := List.mem_of_getElem? (i := 8) (by decide +kernel)
theorem wm_9 : Cond.methodLink RX5 1 objectInit ∈ wsL_law := List.mem_of_getElem? (i := 9) (by decide +kernel)
theorem wm_10 : Cond.instanceMethod objectInit ∈ wsL_law := List.mem_of_getElem? (i := 10) (by decide +kernel)
theorem wm_11 : Cond.code objectInit ⟨#[0xb1]⟩ 1 none ∈ wsL_law := List.mem_of_getElem? (i := 11) (by decide +kernel)
theorem wm_12 : Cond.classLink RX5 9 RX2 ∈ wsL_law := List.mem_of_getElem? (i := 12) (by decide +kernel)
theorem wm_13 : Cond.fieldLink RX5 11 "ElectingWind" "texts" "[LElectingWind$Script;" ∈ wsL_law := List.mem_of_getElem? (i := 13) (by decide +kernel)
theorem wm_14 : Cond.arrayClass .int ∈ wsL_law := List.mem_of_getElem? (i := 14) (by decide +kernel)
theorem wm_15 : Cond.fieldLink RX5 15 "ElectingWind" "faults" "[I" ∈ wsL_law := List.mem_of_getElem? (i := 15) (by decide +kernel)
theorem wm_16 : Cond.classLink RX5 19 RX0 ∈ wsL_law := List.mem_of_getElem? (i := 16) (by decide +kernel)
theorem wm_17 : Cond.instantiable RX0 8 ∈ wsL_law := List.mem_of_getElem? (i := 17) (by decide +kernel)
theorem wm_18 : Cond.initialized RX0 ∈ wsL_law := List.mem_of_getElem? (i := 18) (by decide +kernel)
theorem wm_19 : Cond.fieldLink RX5 22 "ElectingWind" "told" "LElectingWind$Course;" ∈ wsL_law := List.mem_of_getElem? (i := 19) (by decide +kernel)
theorem wm_20 : Cond.fieldLink RX5 26 "ElectingWind" "trial" "LElectingWind$Course;" ∈ wsL_law := List.mem_of_getElem? (i := 20) (by decide +kernel)
theorem wm_21 : Cond.classLink RX5 29 RX4 ∈ wsL_law := List.mem_of_getElem? (i := 21) (by decide +kernel)
theorem wm_22 : Cond.instantiable RX4 3 ∈ wsL_law := List.mem_of_getElem? (i := 22) (by decide +kernel)
theorem wm_23 : Cond.initialized RX4 ∈ wsL_law := List.mem_of_getElem? (i := 23) (by decide +kernel)
theorem wm_24 : Cond.fieldLink RX5 32 "ElectingWind" "sightings" "LElectingWind$Sightings;" ∈ wsL_law := List.mem_of_getElem? (i := 24) (by decide +kernel)
theorem wm_25 : Cond.classLink RX5 36 RX3 ∈ wsL_law := List.mem_of_getElem? (i := 25) (by decide +kernel)
theorem wm_26 : Cond.fieldLink RX5 38 "ElectingWind" "sheets" "[LElectingWind$Sheet;" ∈ wsL_law := List.mem_of_getElem? (i := 26) (by decide +kernel)
theorem wm_27 : Cond.fieldLink RX5 42 "ElectingWind" "latestFinding" "I" ∈ wsL_law := List.mem_of_getElem? (i := 27) (by decide +kernel)
theorem wm_28 : Cond.fieldLink RX5 46 "ElectingWind" "inquiredMinute" "I" ∈ wsL_law := List.mem_of_getElem? (i := 28) (by decide +kernel)
theorem wm_29 : Cond.fieldLink RX5 49 "ElectingWind" "mayHaveBlown" "J" ∈ wsL_law := List.mem_of_getElem? (i := 29) (by decide +kernel)
theorem wm_30 : Cond.fieldLink RX5 53 "ElectingWind" "tallies" "[I" ∈ wsL_law := List.mem_of_getElem? (i := 30) (by decide +kernel)
theorem wm_31 : Cond.fieldLink RX5 56 "ElectingWind" "weighedCalm" "I" ∈ wsL_law := List.mem_of_getElem? (i := 31) (by decide +kernel)
theorem wm_32 : Cond.arrayClass .long ∈ wsL_law := List.mem_of_getElem? (i := 32) (by decide +kernel)
theorem wm_33 : Cond.fieldLink RX5 59 "ElectingWind" "chances" "[J" ∈ wsL_law := List.mem_of_getElem? (i := 33) (by decide +kernel)
theorem wm_34 : Cond.fieldLink RX5 63 "ElectingWind" "weights" "[J" ∈ wsL_law := List.mem_of_getElem? (i := 34) (by decide +kernel)
theorem wm_35 : Cond.instantiable RX2 3 ∈ wsL_law := List.mem_of_getElem? (i := 35) (by decide +kernel)
theorem wm_36 : Cond.initialized RX2 ∈ wsL_law := List.mem_of_getElem? (i := 36) (by decide +kernel)
theorem wm_37 : Cond.instantiable RX3 3 ∈ wsL_law := List.mem_of_getElem? (i := 37) (by decide +kernel)
theorem wm_38 : Cond.initialized RX3 ∈ wsL_law := List.mem_of_getElem? (i := 38) (by decide +kernel)
theorem wm_39 : Cond.instanceMethod yX0_init ∈ wsL_law := List.mem_of_getElem? (i := 39) (by decide +kernel)
theorem wm_40 : Cond.code yX0_init cX0_init 1 none ∈ wsL_law := List.mem_of_getElem? (i := 40) (by decide +kernel)
theorem wm_41 : Cond.methodLink RX0 3 objectInit ∈ wsL_law := List.mem_of_getElem? (i := 41) (by decide +kernel)
theorem wm_42 : Cond.classLink RX0 9 RX1 ∈ wsL_law := List.mem_of_getElem? (i := 42) (by decide +kernel)
theorem wm_43 : Cond.instantiable RX1 12 ∈ wsL_law := List.mem_of_getElem? (i := 43) (by decide +kernel)
theorem wm_44 : Cond.initialized RX1 ∈ wsL_law := List.mem_of_getElem? (i := 44) (by decide +kernel)
theorem wm_45 : Cond.fieldLink RX0 12 "ElectingWind$Course" "scene" "LElectingWind$Scene;" ∈ wsL_law := List.mem_of_getElem? (i := 45) (by decide +kernel)
theorem wm_46 : Cond.fieldLink RX0 18 "ElectingWind$Course" "somewhere" "I" ∈ wsL_law := List.mem_of_getElem? (i := 46) (by decide +kernel)
theorem wm_47 : Cond.fieldLink RX0 22 "ElectingWind$Course" "standing" "[I" ∈ wsL_law := List.mem_of_getElem? (i := 47) (by decide +kernel)
theorem wm_48 : Cond.fieldLink RX0 26 "ElectingWind$Course" "turned" "[I" ∈ wsL_law := List.mem_of_getElem? (i := 48) (by decide +kernel)
theorem wm_49 : Cond.fieldLink RX0 29 "ElectingWind$Course" "ribs" "[I" ∈ wsL_law := List.mem_of_getElem? (i := 49) (by decide +kernel)
theorem wm_50 : Cond.fieldLink RX0 32 "ElectingWind$Course" "returned" "[I" ∈ wsL_law := List.mem_of_getElem? (i := 50) (by decide +kernel)
theorem wm_51 : Cond.fieldLink RX0 35 "ElectingWind$Course" "elected" "[I" ∈ wsL_law := List.mem_of_getElem? (i := 51) (by decide +kernel)
theorem wm_52 : Cond.fieldLink RX0 38 "ElectingWind$Course" "in" "[I" ∈ wsL_law := List.mem_of_getElem? (i := 52) (by decide +kernel)
theorem wm_53 : Cond.instanceMethod yX1_init ∈ wsL_law := List.mem_of_getElem? (i := 53) (by decide +kernel)
theorem wm_54 : Cond.code yX1_init cX1_init 1 none ∈ wsL_law := List.mem_of_getElem? (i := 54) (by decide +kernel)
theorem wm_55 : Cond.methodLink RX1 3 objectInit ∈ wsL_law := List.mem_of_getElem? (i := 55) (by decide +kernel)
theorem wm_56 : Cond.fieldLink RX1 9 "ElectingWind$Scene" "columns" "I" ∈ wsL_law := List.mem_of_getElem? (i := 56) (by decide +kernel)
theorem wm_57 : Cond.fieldLink RX1 15 "ElectingWind$Scene" "cells" "I" ∈ wsL_law := List.mem_of_getElem? (i := 57) (by decide +kernel)
theorem wm_58 : Cond.fieldLink RX1 18 "ElectingWind$Scene" "minutes" "I" ∈ wsL_law := List.mem_of_getElem? (i := 58) (by decide +kernel)
theorem wm_59 : Cond.fieldLink RX1 21 "ElectingWind$Scene" "candidates" "I" ∈ wsL_law := List.mem_of_getElem? (i := 59) (by decide +kernel)
theorem wm_60 : Cond.fieldLink RX1 24 "ElectingWind$Scene" "wall" "[I" ∈ wsL_law := List.mem_of_getElem? (i := 60) (by decide +kernel)
theorem wm_61 : Cond.fieldLink RX1 28 "ElectingWind$Scene" "lee" "[I" ∈ wsL_law := List.mem_of_getElem? (i := 61) (by decide +kernel)
theorem wm_62 : Cond.fieldLink RX1 31 "ElectingWind$Scene" "lay" "[I" ∈ wsL_law := List.mem_of_getElem? (i := 62) (by decide +kernel)
theorem wm_63 : Cond.fieldLink RX1 34 "ElectingWind$Scene" "from" "[I" ∈ wsL_law := List.mem_of_getElem? (i := 63) (by decide +kernel)
theorem wm_64 : Cond.fieldLink RX1 37 "ElectingWind$Scene" "force" "[I" ∈ wsL_law := List.mem_of_getElem? (i := 64) (by decide +kernel)
theorem wm_65 : Cond.fieldLink RX1 40 "ElectingWind$Scene" "at" "[I" ∈ wsL_law := List.mem_of_getElem? (i := 65) (by decide +kernel)
theorem wm_66 : Cond.fieldLink RX1 43 "ElectingWind$Scene" "ribs" "[I" ∈ wsL_law := List.mem_of_getElem? (i := 66) (by decide +kernel)
theorem wm_67 : Cond.fieldLink RX1 46 "ElectingWind$Scene" "held" "[I" ∈ wsL_law := List.mem_of_getElem? (i := 67) (by decide +kernel)
theorem wm_68 : Cond.instanceMethod yX4_init ∈ wsL_law := List.mem_of_getElem? (i := 68) (by decide +kernel)
theorem wm_69 : Cond.code yX4_init cX4_init 1 none ∈ wsL_law := List.mem_of_getElem? (i := 69) (by decide +kernel)
theorem wm_70 : Cond.methodLink RX4 3 objectInit ∈ wsL_law := List.mem_of_getElem? (i := 70) (by decide +kernel)
theorem wm_71 : Cond.fieldLink RX4 9 "ElectingWind$Sightings" "many" "I" ∈ wsL_law := List.mem_of_getElem? (i := 71) (by decide +kernel)
theorem wm_72 : Cond.fieldLink RX4 15 "ElectingWind$Sightings" "minutes" "[I" ∈ wsL_law := List.mem_of_getElem? (i := 72) (by decide +kernel)
theorem wm_73 : Cond.fieldLink RX4 19 "ElectingWind$Sightings" "who" "[I" ∈ wsL_law := List.mem_of_getElem? (i := 73) (by decide +kernel)
theorem wm_74 : Cond.methodLink RX5 66 yX2_init ∈ wsL_law := List.mem_of_getElem? (i := 74) (by decide +kernel)
theorem wm_75 : Cond.instanceMethod yX2_init ∈ wsL_law := List.mem_of_getElem? (i := 75) (by decide +kernel)
theorem wm_76 : Cond.code yX2_init cX2_init 2 none ∈ wsL_law := List.mem_of_getElem? (i := 76) (by decide +kernel)
theorem wm_77 : Cond.methodLink RX2 3 objectInit ∈ wsL_law := List.mem_of_getElem? (i := 77) (by decide +kernel)
theorem wm_78 : Cond.fieldLink RX2 9 "ElectingWind$Script" "bytes" "[I" ∈ wsL_law := List.mem_of_getElem? (i := 78) (by decide +kernel)
theorem wm_79 : Cond.fieldLink RX2 15 "ElectingWind$Script" "length" "I" ∈ wsL_law := List.mem_of_getElem? (i := 79) (by decide +kernel)
theorem wm_80 : Cond.methodLink RX2 19 Lib.Math.min.name ∈ wsL_law := List.mem_of_getElem? (i := 80) (by decide +kernel)
theorem wm_81 : Cond.static Lib.Math.min.name ∈ wsL_law := List.mem_of_getElem? (i := 81) (by decide +kernel)
theorem wm_82 : Cond.initialized "java/lang/Math" ∈ wsL_law := List.mem_of_getElem? (i := 82) (by decide +kernel)
theorem wm_83 : Cond.code Lib.Math.min.name Lib.Math.min.code 2 (some .int) ∈ wsL_law := List.mem_of_getElem? (i := 83) (by decide +kernel)
theorem wm_84 : Cond.fieldLink RX2 25 "ElectingWind$Script" "most" "I" ∈ wsL_law := List.mem_of_getElem? (i := 84) (by decide +kernel)
theorem wm_85 : Cond.instanceMethod yX3_init ∈ wsL_law := List.mem_of_getElem? (i := 85) (by decide +kernel)
theorem wm_86 : Cond.code yX3_init cX3_init 1 none ∈ wsL_law := List.mem_of_getElem? (i := 86) (by decide +kernel)
theorem wm_87 : Cond.methodLink RX3 3 objectInit ∈ wsL_law := List.mem_of_getElem? (i := 87) (by decide +kernel)
theorem wm_88 : Cond.fieldLink RX3 9 "ElectingWind$Sheet" "form" "I" ∈ wsL_law := List.mem_of_getElem? (i := 88) (by decide +kernel)
theorem wm_89 : Cond.fieldLink RX3 15 "ElectingWind$Sheet" "size" "I" ∈ wsL_law := List.mem_of_getElem? (i := 89) (by decide +kernel)
theorem wm_90 : Cond.fieldLink RX3 18 "ElectingWind$Sheet" "items" "[I" ∈ wsL_law := List.mem_of_getElem? (i := 90) (by decide +kernel)
theorem wm_91 : Cond.methodLink RL 12 yX6_init ∈ wsL_law := List.mem_of_getElem? (i := 91) (by decide +kernel)
theorem wm_92 : Cond.instanceMethod yX6_init ∈ wsL_law := List.mem_of_getElem? (i := 92) (by decide +kernel)
theorem wm_93 : Cond.code yX6_init cX6_init 1 none ∈ wsL_law := List.mem_of_getElem? (i := 93) (by decide +kernel)
theorem wm_94 : Cond.methodLink RX6 1 objectInit ∈ wsL_law := List.mem_of_getElem? (i := 94) (by decide +kernel)
theorem wm_95 : Cond.fieldLink RX6 7 "ElectingWindModel" "typed" "[I" ∈ wsL_law := List.mem_of_getElem? (i := 95) (by decide +kernel)
theorem wm_96 : Cond.fieldLink RX6 13 "ElectingWindModel" "texts" "[I" ∈ wsL_law := List.mem_of_getElem? (i := 96) (by decide +kernel)
theorem wm_97 : Cond.arrayClass .boolean ∈ wsL_law := List.mem_of_getElem? (i := 97) (by decide +kernel)
theorem wm_98 : Cond.fieldLink RX6 16 "ElectingWindModel" "isWall" "[Z" ∈ wsL_law := List.mem_of_getElem? (i := 98) (by decide +kernel)
theorem wm_99 : Cond.fieldLink RX6 20 "ElectingWindModel" "from" "[I" ∈ wsL_law := List.mem_of_getElem? (i := 99) (by decide +kernel)
theorem wm_100 : Cond.fieldLink RX6 23 "ElectingWindModel" "force" "[I" ∈ wsL_law := List.mem_of_getElem? (i := 100) (by decide +kernel)
theorem wm_101 : Cond.fieldLink RX6 26 "ElectingWindModel" "stands" "[I" ∈ wsL_law := List.mem_of_getElem? (i := 101) (by decide +kernel)
theorem wm_102 : Cond.fieldLink RX6 29 "ElectingWindModel" "ribsTold" "[I" ∈ wsL_law := List.mem_of_getElem? (i := 102) (by decide +kernel)
theorem wm_103 : Cond.fieldLink RX6 32 "ElectingWindModel" "held" "[I" ∈ wsL_law := List.mem_of_getElem? (i := 103) (by decide +kernel)
theorem wm_104 : Cond.fieldLink RX6 35 "ElectingWindModel" "ribsAt" "[I" ∈ wsL_law := List.mem_of_getElem? (i := 104) (by decide +kernel)
theorem wm_105 : Cond.fieldLink RX6 38 "ElectingWindModel" "turnAt" "[I" ∈ wsL_law := List.mem_of_getElem? (i := 105) (by decide +kernel)
theorem wm_106 : Cond.fieldLink RX6 41 "ElectingWindModel" "isReturned" "[Z" ∈ wsL_law := List.mem_of_getElem? (i := 106) (by decide +kernel)
theorem wm_107 : Cond.fieldLink RX6 44 "ElectingWindModel" "isElected" "[Z" ∈ wsL_law := List.mem_of_getElem? (i := 107) (by decide +kernel)
theorem wm_108 : Cond.fieldLink RX6 47 "ElectingWindModel" "inAt" "[I" ∈ wsL_law := List.mem_of_getElem? (i := 108) (by decide +kernel)
theorem wm_109 : Cond.fieldLink RX6 50 "ElectingWindModel" "seenMinute" "[I" ∈ wsL_law := List.mem_of_getElem? (i := 109) (by decide +kernel)
theorem wm_110 : Cond.fieldLink RX6 53 "ElectingWindModel" "seenWho" "[I" ∈ wsL_law := List.mem_of_getElem? (i := 110) (by decide +kernel)
theorem wm_111 : Cond.fieldLink RX6 56 "ElectingWindModel" "mayBlow" "[Z" ∈ wsL_law := List.mem_of_getElem? (i := 111) (by decide +kernel)
theorem wm_112 : Cond.fieldLink RX6 59 "ElectingWindModel" "inBy" "[I" ∈ wsL_law := List.mem_of_getElem? (i := 112) (by decide +kernel)
theorem wm_113 : Cond.fieldLink RX6 62 "ElectingWindModel" "forceTold" "[I" ∈ wsL_law := List.mem_of_getElem? (i := 113) (by decide +kernel)
theorem wm_114 : Cond.fieldLink RX6 65 "ElectingWindModel" "isThere" "[Z" ∈ wsL_law := List.mem_of_getElem? (i := 114) (by decide +kernel)
theorem wm_115 : Cond.fieldLink RX6 68 "ElectingWindModel" "forms" "[I" ∈ wsL_law := List.mem_of_getElem? (i := 115) (by decide +kernel)
theorem wm_116 : Cond.fieldLink RX6 71 "ElectingWindModel" "sizes" "[I" ∈ wsL_law := List.mem_of_getElem? (i := 116) (by decide +kernel)
theorem wm_117 : Cond.fieldLink RX6 74 "ElectingWindModel" "items" "[I" ∈ wsL_law := List.mem_of_getElem? (i := 117) (by decide +kernel)
theorem wm_118 : Cond.fieldLink RX6 77 "ElectingWindModel" "moved" "[I" ∈ wsL_law := List.mem_of_getElem? (i := 118) (by decide +kernel)
theorem wm_119 : Cond.methodLink RL 13 yX5_type ∈ wsL_law := List.mem_of_getElem? (i := 119) (by decide +kernel)
theorem wm_120 : Cond.instanceMethod yX5_type ∈ wsL_law := List.mem_of_getElem? (i := 120) (by decide +kernel)
theorem wm_121 : Cond.selects RX5 yX5_type yX5_type ∈ wsL_law := List.mem_of_getElem? (i := 121) (by decide +kernel)
theorem wm_122 : Cond.code yX5_type cX5_type 3 (some .int) ∈ wsL_law := List.mem_of_getElem? (i := 122) (by decide +kernel)
theorem wm_123 : Cond.methodLink RX5 70 yX5_isText ∈ wsL_law := List.mem_of_getElem? (i := 123) (by decide +kernel)
theorem wm_124 : Cond.static yX5_isText ∈ wsL_law := List.mem_of_getElem? (i := 124) (by decide +kernel)
theorem wm_125 : Cond.code yX5_isText cX5_isText 1 (some .boolean) ∈ wsL_law := List.mem_of_getElem? (i := 125) (by decide +kernel)
theorem wm_126 : Cond.methodLink RX5 74 yX2_isFull ∈ wsL_law := List.mem_of_getElem? (i := 126) (by decide +kernel)
theorem wm_127 : Cond.instanceMethod yX2_isFull ∈ wsL_law := List.mem_of_getElem? (i := 127) (by decide +kernel)
theorem wm_128 : Cond.selects RX2 yX2_isFull yX2_isFull ∈ wsL_law := List.mem_of_getElem? (i := 128) (by decide +kernel)
theorem wm_129 : Cond.code yX2_isFull cX2_isFull 1 (some .boolean) ∈ wsL_law := List.mem_of_getElem? (i := 129) (by decide +kernel)
theorem wm_130 : Cond.methodLink RX5 78 yX2_append ∈ wsL_law := List.mem_of_getElem? (i := 130) (by decide +kernel)
theorem wm_131 : Cond.instanceMethod yX2_append ∈ wsL_law := List.mem_of_getElem? (i := 131) (by decide +kernel)
theorem wm_132 : Cond.selects RX2 yX2_append yX2_append ∈ wsL_law := List.mem_of_getElem? (i := 132) (by decide +kernel)
theorem wm_133 : Cond.code yX2_append cX2_append 2 none ∈ wsL_law := List.mem_of_getElem? (i := 133) (by decide +kernel)
theorem wm_134 : Cond.methodLink RX5 81 yX5_retell ∈ wsL_law := List.mem_of_getElem? (i := 134) (by decide +kernel)
theorem wm_135 : Cond.instanceMethod yX5_retell ∈ wsL_law := List.mem_of_getElem? (i := 135) (by decide +kernel)
theorem wm_136 : Cond.selects RX5 yX5_retell yX5_retell ∈ wsL_law := List.mem_of_getElem? (i := 136) (by decide +kernel)
theorem wm_137 : Cond.code yX5_retell cX5_retell 2 none ∈ wsL_law := List.mem_of_getElem? (i := 137) (by decide +kernel)
theorem wm_138 : Cond.fieldLink RX5 91 "ElectingWind$Course" "scene" "LElectingWind$Scene;" ∈ wsL_law := List.mem_of_getElem? (i := 138) (by decide +kernel)
theorem wm_139 : Cond.methodLink RX5 389 yX1_readCorner ∈ wsL_law := List.mem_of_getElem? (i := 139) (by decide +kernel)
theorem wm_140 : Cond.instanceMethod yX1_readCorner ∈ wsL_law := List.mem_of_getElem? (i := 140) (by decide +kernel)
theorem wm_141 : Cond.selects RX1 yX1_readCorner yX1_readCorner ∈ wsL_law := List.mem_of_getElem? (i := 141) (by decide +kernel)
theorem wm_142 : Cond.code yX1_readCorner cX1_readCorner 3 (some .int) ∈ wsL_law := List.mem_of_getElem? (i := 142) (by decide +kernel)
theorem wm_143 : Cond.methodLink RX1 55 yX2_length ∈ wsL_law := List.mem_of_getElem? (i := 143) (by decide +kernel)
theorem wm_144 : Cond.instanceMethod yX2_length ∈ wsL_law := List.mem_of_getElem? (i := 144) (by decide +kernel)
theorem wm_145 : Cond.selects RX2 yX2_length yX2_length ∈ wsL_law := List.mem_of_getElem? (i := 145) (by decide +kernel)
theorem wm_146 : Cond.code yX2_length cX2_length 1 (some .int) ∈ wsL_law := List.mem_of_getElem? (i := 146) (by decide +kernel)
theorem wm_147 : Cond.methodLink RX1 61 yX1_readRows ∈ wsL_law := List.mem_of_getElem? (i := 147) (by decide +kernel)
theorem wm_148 : Cond.instanceMethod yX1_readRows ∈ wsL_law := List.mem_of_getElem? (i := 148) (by decide +kernel)
theorem wm_149 : Cond.selects RX1 yX1_readRows yX1_readRows ∈ wsL_law := List.mem_of_getElem? (i := 149) (by decide +kernel)
theorem wm_150 : Cond.code yX1_readRows cX1_readRows 8 (some .int) ∈ wsL_law := List.mem_of_getElem? (i := 150) (by decide +kernel)
theorem wm_151 : Cond.methodLink RX1 68 yX2_at ∈ wsL_law := List.mem_of_getElem? (i := 151) (by decide +kernel)
theorem wm_152 : Cond.instanceMethod yX2_at ∈ wsL_law := List.mem_of_getElem? (i := 152) (by decide +kernel)
theorem wm_153 : Cond.selects RX2 yX2_at yX2_at ∈ wsL_law := List.mem_of_getElem? (i := 153) (by decide +kernel)
theorem wm_154 : Cond.code yX2_at cX2_at 2 (some .int) ∈ wsL_law := List.mem_of_getElem? (i := 154) (by decide +kernel)
theorem wm_155 : Cond.methodLink RX1 71 yX1_addCell ∈ wsL_law := List.mem_of_getElem? (i := 155) (by decide +kernel)
theorem wm_156 : Cond.instanceMethod yX1_addCell ∈ wsL_law := List.mem_of_getElem? (i := 156) (by decide +kernel)
theorem wm_157 : Cond.selects RX1 yX1_addCell yX1_addCell ∈ wsL_law := List.mem_of_getElem? (i := 157) (by decide +kernel)
theorem wm_158 : Cond.code yX1_addCell cX1_addCell 2 none ∈ wsL_law := List.mem_of_getElem? (i := 158) (by decide +kernel)
theorem wm_159 : Cond.methodLink RX1 65 yX1_survey ∈ wsL_law := List.mem_of_getElem? (i := 159) (by decide +kernel)
theorem wm_160 : Cond.instanceMethod yX1_survey ∈ wsL_law := List.mem_of_getElem? (i := 160) (by decide +kernel)
theorem wm_161 : Cond.selects RX1 yX1_survey yX1_survey ∈ wsL_law := List.mem_of_getElem? (i := 161) (by decide +kernel)
theorem wm_162 : Cond.code yX1_survey cX1_survey 3 none ∈ wsL_law := List.mem_of_getElem? (i := 162) (by decide +kernel)
theorem wm_163 : Cond.methodLink RX1 99 yX1_beside ∈ wsL_law := List.mem_of_getElem? (i := 163) (by decide +kernel)
theorem wm_164 : Cond.instanceMethod yX1_beside ∈ wsL_law := List.mem_of_getElem? (i := 164) (by decide +kernel)
theorem wm_165 : Cond.selects RX1 yX1_beside yX1_beside ∈ wsL_law := List.mem_of_getElem? (i := 165) (by decide +kernel)
theorem wm_166 : Cond.code yX1_beside cX1_beside 4 (some .int) ∈ wsL_law := List.mem_of_getElem? (i := 166) (by decide +kernel)
theorem wm_167 : Cond.methodLink RX1 95 yX1_isCell ∈ wsL_law := List.mem_of_getElem? (i := 167) (by decide +kernel)
theorem wm_168 : Cond.instanceMethod yX1_isCell ∈ wsL_law := List.mem_of_getElem? (i := 168) (by decide +kernel)
theorem wm_169 : Cond.selects RX1 yX1_isCell yX1_isCell ∈ wsL_law := List.mem_of_getElem? (i := 169) (by decide +kernel)
theorem wm_170 : Cond.code yX1_isCell cX1_isCell 2 (some .boolean) ∈ wsL_law := List.mem_of_getElem? (i := 170) (by decide +kernel)
theorem wm_171 : Cond.methodLink RX1 102 yX1_layOf ∈ wsL_law := List.mem_of_getElem? (i := 171) (by decide +kernel)
theorem wm_172 : Cond.instanceMethod yX1_layOf ∈ wsL_law := List.mem_of_getElem? (i := 172) (by decide +kernel)
theorem wm_173 : Cond.selects RX1 yX1_layOf yX1_layOf ∈ wsL_law := List.mem_of_getElem? (i := 173) (by decide +kernel)
theorem wm_174 : Cond.code yX1_layOf cX1_layOf 6 (some .int) ∈ wsL_law := List.mem_of_getElem? (i := 174) (by decide +kernel)
theorem wm_175 : Cond.methodLink RX1 105 yX1_isWall ∈ wsL_law := List.mem_of_getElem? (i := 175) (by decide +kernel)
theorem wm_176 : Cond.instanceMethod yX1_isWall ∈ wsL_law := List.mem_of_getElem? (i := 176) (by decide +kernel)
theorem wm_177 : Cond.selects RX1 yX1_isWall yX1_isWall ∈ wsL_law := List.mem_of_getElem? (i := 177) (by decide +kernel)
theorem wm_178 : Cond.code yX1_isWall cX1_isWall 2 (some .boolean) ∈ wsL_law := List.mem_of_getElem? (i := 178) (by decide +kernel)
theorem wm_179 : Cond.methodLink RX5 393 yX1_readGusts ∈ wsL_law := List.mem_of_getElem? (i := 179) (by decide +kernel)
theorem wm_180 : Cond.instanceMethod yX1_readGusts ∈ wsL_law := List.mem_of_getElem? (i := 180) (by decide +kernel)
theorem wm_181 : Cond.selects RX1 yX1_readGusts yX1_readGusts ∈ wsL_law := List.mem_of_getElem? (i := 181) (by decide +kernel)
theorem wm_182 : Cond.code yX1_readGusts cX1_readGusts 7 (some .int) ∈ wsL_law := List.mem_of_getElem? (i := 182) (by decide +kernel)
theorem wm_183 : Cond.methodLink RX1 82 Lib.Math.min.name ∈ wsL_law := List.mem_of_getElem? (i := 183) (by decide +kernel)
theorem wm_184 : Cond.methodLink RX1 75 yX1_wayOf ∈ wsL_law := List.mem_of_getElem? (i := 184) (by decide +kernel)
theorem wm_185 : Cond.static yX1_wayOf ∈ wsL_law := List.mem_of_getElem? (i := 185) (by decide +kernel)
theorem wm_186 : Cond.code yX1_wayOf cX1_wayOf 1 (some .int) ∈ wsL_law := List.mem_of_getElem? (i := 186) (by decide +kernel)
theorem wm_187 : Cond.methodLink RX1 78 yX1_figureOf ∈ wsL_law := List.mem_of_getElem? (i := 187) (by decide +kernel)
theorem wm_188 : Cond.static yX1_figureOf ∈ wsL_law := List.mem_of_getElem? (i := 188) (by decide +kernel)
theorem wm_189 : Cond.code yX1_figureOf cX1_figureOf 4 (some .int) ∈ wsL_law := List.mem_of_getElem? (i := 189) (by decide +kernel)
theorem wm_190 : Cond.methodLink RX5 396 yX1_readCandidates ∈ wsL_law := List.mem_of_getElem? (i := 190) (by decide +kernel)
theorem wm_191 : Cond.instanceMethod yX1_readCandidates ∈ wsL_law := List.mem_of_getElem? (i := 191) (by decide +kernel)
theorem wm_192 : Cond.selects RX1 yX1_readCandidates yX1_readCandidates ∈ wsL_law := List.mem_of_getElem? (i := 192) (by decide +kernel)
theorem wm_193 : Cond.code yX1_readCandidates cX1_readCandidates 4 (some .int) ∈ wsL_law := List.mem_of_getElem? (i := 193) (by decide +kernel)
theorem wm_194 : Cond.methodLink RX1 88 yX1_readOfCandidate ∈ wsL_law := List.mem_of_getElem? (i := 194) (by decide +kernel)
theorem wm_195 : Cond.instanceMethod yX1_readOfCandidate ∈ wsL_law := List.mem_of_getElem? (i := 195) (by decide +kernel)
theorem wm_196 : Cond.selects RX1 yX1_readOfCandidate yX1_readOfCandidate ∈ wsL_law := List.mem_of_getElem? (i := 196) (by decide +kernel)
theorem wm_197 : Cond.code yX1_readOfCandidate cX1_readOfCandidate 4 (some .boolean) ∈ wsL_law := List.mem_of_getElem? (i := 197) (by decide +kernel)
theorem wm_198 : Cond.methodLink RX1 92 yX1_holdOf ∈ wsL_law := List.mem_of_getElem? (i := 198) (by decide +kernel)
theorem wm_199 : Cond.static yX1_holdOf ∈ wsL_law := List.mem_of_getElem? (i := 199) (by decide +kernel)
theorem wm_200 : Cond.code yX1_holdOf cX1_holdOf 1 (some .int) ∈ wsL_law := List.mem_of_getElem? (i := 200) (by decide +kernel)
theorem wm_201 : Cond.methodLink RX5 176 yX0_run ∈ wsL_law := List.mem_of_getElem? (i := 201) (by decide +kernel)
theorem wm_202 : Cond.instanceMethod yX0_run ∈ wsL_law := List.mem_of_getElem? (i := 202) (by decide +kernel)
theorem wm_203 : Cond.selects RX0 yX0_run yX0_run ∈ wsL_law := List.mem_of_getElem? (i := 203) (by decide +kernel)
theorem wm_204 : Cond.code yX0_run cX0_run 1 none ∈ wsL_law := List.mem_of_getElem? (i := 204) (by decide +kernel)
theorem wm_205 : Cond.methodLink RX0 41 yX0_start ∈ wsL_law := List.mem_of_getElem? (i := 205) (by decide +kernel)
theorem wm_206 : Cond.instanceMethod yX0_start ∈ wsL_law := List.mem_of_getElem? (i := 206) (by decide +kernel)
theorem wm_207 : Cond.selects RX0 yX0_start yX0_start ∈ wsL_law := List.mem_of_getElem? (i := 207) (by decide +kernel)
theorem wm_208 : Cond.code yX0_start cX0_start 3 none ∈ wsL_law := List.mem_of_getElem? (i := 208) (by decide +kernel)
theorem wm_209 : Cond.fieldLink RX0 73 "ElectingWind$Scene" "candidates" "I" ∈ wsL_law := List.mem_of_getElem? (i := 209) (by decide +kernel)
theorem wm_210 : Cond.fieldLink RX0 76 "ElectingWind$Scene" "at" "[I" ∈ wsL_law := List.mem_of_getElem? (i := 210) (by decide +kernel)
theorem wm_211 : Cond.fieldLink RX0 79 "ElectingWind$Scene" "ribs" "[I" ∈ wsL_law := List.mem_of_getElem? (i := 211) (by decide +kernel)
theorem wm_212 : Cond.methodLink RX0 67 yJ7_fill_53178 ∈ wsL_law := List.mem_of_getElem? (i := 212) (by decide +kernel)
theorem wm_213 : Cond.static yJ7_fill_53178 ∈ wsL_law := List.mem_of_getElem? (i := 213) (by decide +kernel)
theorem wm_214 : Cond.initialized RJ7 ∈ wsL_law := List.mem_of_getElem? (i := 214) (by decide +kernel)
theorem wm_215 : Cond.code yJ7_fill_53178 cJ7_fill_53178 4 none ∈ wsL_law := List.mem_of_getElem? (i := 215) (by decide +kernel)
theorem wm_216 : Cond.methodLink RX0 80 yX1_isCell ∈ wsL_law := List.mem_of_getElem? (i := 216) (by decide +kernel)
theorem wm_217 : Cond.methodLink RX0 84 yX1_isWall ∈ wsL_law := List.mem_of_getElem? (i := 217) (by decide +kernel)
theorem wm_218 : Cond.methodLink RX0 44 yX0_runOnFrom ∈ wsL_law := List.mem_of_getElem? (i := 218) (by decide +kernel)
theorem wm_219 : Cond.instanceMethod yX0_runOnFrom ∈ wsL_law := List.mem_of_getElem? (i := 219) (by decide +kernel)
theorem wm_220 : Cond.selects RX0 yX0_runOnFrom yX0_runOnFrom ∈ wsL_law := List.mem_of_getElem? (i := 220) (by decide +kernel)
theorem wm_221 : Cond.code yX0_runOnFrom cX0_runOnFrom 3 none ∈ wsL_law := List.mem_of_getElem? (i := 221) (by decide +kernel)
theorem wm_222 : Cond.methodLink RX0 48 Lib.Math.max.name ∈ wsL_law := List.mem_of_getElem? (i := 222) (by decide +kernel)
theorem wm_223 : Cond.static Lib.Math.max.name ∈ wsL_law := List.mem_of_getElem? (i := 223) (by decide +kernel)
theorem wm_224 : Cond.code Lib.Math.max.name Lib.Math.max.code 2 (some .int) ∈ wsL_law := List.mem_of_getElem? (i := 224) (by decide +kernel)
theorem wm_225 : Cond.fieldLink RX0 54 "ElectingWind$Scene" "minutes" "I" ∈ wsL_law := List.mem_of_getElem? (i := 225) (by decide +kernel)
theorem wm_226 : Cond.methodLink RX0 57 yX0_pass ∈ wsL_law := List.mem_of_getElem? (i := 226) (by decide +kernel)
theorem wm_227 : Cond.instanceMethod yX0_pass ∈ wsL_law := List.mem_of_getElem? (i := 227) (by decide +kernel)
theorem wm_228 : Cond.selects RX0 yX0_pass yX0_pass ∈ wsL_law := List.mem_of_getElem? (i := 228) (by decide +kernel)
theorem wm_229 : Cond.code yX0_pass cX0_pass 11 none ∈ wsL_law := List.mem_of_getElem? (i := 229) (by decide +kernel)
theorem wm_230 : Cond.fieldLink RX0 90 "ElectingWind$Scene" "held" "[I" ∈ wsL_law := List.mem_of_getElem? (i := 230) (by decide +kernel)
theorem wm_231 : Cond.methodLink RX0 87 yX0_windOn ∈ wsL_law := List.mem_of_getElem? (i := 231) (by decide +kernel)
theorem wm_232 : Cond.instanceMethod yX0_windOn ∈ wsL_law := List.mem_of_getElem? (i := 232) (by decide +kernel)
theorem wm_233 : Cond.selects RX0 yX0_windOn yX0_windOn ∈ wsL_law := List.mem_of_getElem? (i := 233) (by decide +kernel)
theorem wm_234 : Cond.code yX0_windOn cX0_windOn 8 (some .int) ∈ wsL_law := List.mem_of_getElem? (i := 234) (by decide +kernel)
theorem wm_235 : Cond.fieldLink RX0 100 "ElectingWind$Scene" "cells" "I" ∈ wsL_law := List.mem_of_getElem? (i := 235) (by decide +kernel)
theorem wm_236 : Cond.fieldLink RX0 103 "ElectingWind$Scene" "from" "[I" ∈ wsL_law := List.mem_of_getElem? (i := 236) (by decide +kernel)
theorem wm_237 : Cond.fieldLink RX0 106 "ElectingWind$Scene" "lay" "[I" ∈ wsL_law := List.mem_of_getElem? (i := 237) (by decide +kernel)
theorem wm_238 : Cond.fieldLink RX0 109 "ElectingWind$Scene" "force" "[I" ∈ wsL_law := List.mem_of_getElem? (i := 238) (by decide +kernel)
theorem wm_239 : Cond.fieldLink RX0 112 "ElectingWind$Scene" "lee" "[I" ∈ wsL_law := List.mem_of_getElem? (i := 239) (by decide +kernel)
theorem wm_240 : Cond.methodLink RX0 93 yX0_strainOf ∈ wsL_law := List.mem_of_getElem? (i := 240) (by decide +kernel)
theorem wm_241 : Cond.static yX0_strainOf ∈ wsL_law := List.mem_of_getElem? (i := 241) (by decide +kernel)
theorem wm_242 : Cond.code yX0_strainOf cX0_strainOf 2 (some .int) ∈ wsL_law := List.mem_of_getElem? (i := 242) (by decide +kernel)
theorem wm_243 : Cond.methodLink RX0 63 yX0_has ∈ wsL_law := List.mem_of_getElem? (i := 243) (by decide +kernel)
theorem wm_244 : Cond.static yX0_has ∈ wsL_law := List.mem_of_getElem? (i := 244) (by decide +kernel)
theorem wm_245 : Cond.code yX0_has cX0_has 2 (some .boolean) ∈ wsL_law := List.mem_of_getElem? (i := 245) (by decide +kernel)
theorem wm_246 : Cond.methodLink RX0 96 yX0_elect ∈ wsL_law := List.mem_of_getElem? (i := 246) (by decide +kernel)
theorem wm_247 : Cond.instanceMethod yX0_elect ∈ wsL_law := List.mem_of_getElem? (i := 247) (by decide +kernel)
theorem wm_248 : Cond.selects RX0 yX0_elect yX0_elect ∈ wsL_law := List.mem_of_getElem? (i := 248) (by decide +kernel)
theorem wm_249 : Cond.code yX0_elect cX0_elect 8 none ∈ wsL_law := List.mem_of_getElem? (i := 249) (by decide +kernel)
theorem wm_250 : Cond.methodLink RX0 60 yX0_end ∈ wsL_law := List.mem_of_getElem? (i := 250) (by decide +kernel)
theorem wm_251 : Cond.instanceMethod yX0_end ∈ wsL_law := List.mem_of_getElem? (i := 251) (by decide +kernel)
theorem wm_252 : Cond.selects RX0 yX0_end yX0_end ∈ wsL_law := List.mem_of_getElem? (i := 252) (by decide +kernel)
theorem wm_253 : Cond.code yX0_end cX0_end 1 none ∈ wsL_law := List.mem_of_getElem? (i := 253) (by decide +kernel)
theorem wm_254 : Cond.methodLink RX5 84 yX2_length ∈ wsL_law := List.mem_of_getElem? (i := 254) (by decide +kernel)
theorem wm_255 : Cond.methodLink RL 17 yX6_type ∈ wsL_law := List.mem_of_getElem? (i := 255) (by decide +kernel)
theorem wm_256 : Cond.instanceMethod yX6_type ∈ wsL_law := List.mem_of_getElem? (i := 256) (by decide +kernel)
theorem wm_257 : Cond.selects RX6 yX6_type yX6_type ∈ wsL_law := List.mem_of_getElem? (i := 257) (by decide +kernel)
theorem wm_258 : Cond.code yX6_type cX6_type 3 (some .int) ∈ wsL_law := List.mem_of_getElem? (i := 258) (by decide +kernel)
theorem wm_259 : Cond.methodLink RX6 86 yX6_isText ∈ wsL_law := List.mem_of_getElem? (i := 259) (by decide +kernel)
theorem wm_260 : Cond.static yX6_isText ∈ wsL_law := List.mem_of_getElem? (i := 260) (by decide +kernel)
theorem wm_261 : Cond.code yX6_isText cX6_isText 1 (some .boolean) ∈ wsL_law := List.mem_of_getElem? (i := 261) (by decide +kernel)
theorem wm_262 : Cond.methodLink RX6 82 yX6_within ∈ wsL_law := List.mem_of_getElem? (i := 262) (by decide +kernel)
theorem wm_263 : Cond.static yX6_within ∈ wsL_law := List.mem_of_getElem? (i := 263) (by decide +kernel)
theorem wm_264 : Cond.code yX6_within cX6_within 3 (some .boolean) ∈ wsL_law := List.mem_of_getElem? (i := 264) (by decide +kernel)
theorem wm_265 : Cond.methodLink RL 18 yX5_wipe ∈ wsL_law := List.mem_of_getElem? (i := 265) (by decide +kernel)
theorem wm_266 : Cond.instanceMethod yX5_wipe ∈ wsL_law := List.mem_of_getElem? (i := 266) (by decide +kernel)
theorem wm_267 : Cond.selects RX5 yX5_wipe yX5_wipe ∈ wsL_law := List.mem_of_getElem? (i := 267) (by decide +kernel)
theorem wm_268 : Cond.code yX5_wipe cX5_wipe 3 (some .int) ∈ wsL_law := List.mem_of_getElem? (i := 268) (by decide +kernel)
theorem wm_269 : Cond.methodLink RX5 88 yX2_shorten ∈ wsL_law := List.mem_of_getElem? (i := 269) (by decide +kernel)
theorem wm_270 : Cond.instanceMethod yX2_shorten ∈ wsL_law := List.mem_of_getElem? (i := 270) (by decide +kernel)
theorem wm_271 : Cond.selects RX2 yX2_shorten yX2_shorten ∈ wsL_law := List.mem_of_getElem? (i := 271) (by decide +kernel)
theorem wm_272 : Cond.code yX2_shorten cX2_shorten 2 none ∈ wsL_law := List.mem_of_getElem? (i := 272) (by decide +kernel)
theorem wm_273 : Cond.methodLink RX2 28 Lib.Math.max.name ∈ wsL_law := List.mem_of_getElem? (i := 273) (by decide +kernel)
theorem wm_274 : Cond.methodLink RL 22 yX6_wipe ∈ wsL_law := List.mem_of_getElem? (i := 274) (by decide +kernel)
theorem wm_275 : Cond.instanceMethod yX6_wipe ∈ wsL_law := List.mem_of_getElem? (i := 275) (by decide +kernel)
theorem wm_276 : Cond.selects RX6 yX6_wipe yX6_wipe ∈ wsL_law := List.mem_of_getElem? (i := 276) (by decide +kernel)
theorem wm_277 : Cond.code yX6_wipe cX6_wipe 3 (some .int) ∈ wsL_law := List.mem_of_getElem? (i := 277) (by decide +kernel)
theorem wm_278 : Cond.methodLink RL 23 yX5_undo ∈ wsL_law := List.mem_of_getElem? (i := 278) (by decide +kernel)
theorem wm_279 : Cond.instanceMethod yX5_undo ∈ wsL_law := List.mem_of_getElem? (i := 279) (by decide +kernel)
theorem wm_280 : Cond.selects RX5 yX5_undo yX5_undo ∈ wsL_law := List.mem_of_getElem? (i := 280) (by decide +kernel)
theorem wm_281 : Cond.code yX5_undo cX5_undo 2 (some .int) ∈ wsL_law := List.mem_of_getElem? (i := 281) (by decide +kernel)
theorem wm_282 : Cond.methodLink RL 26 yX6_undo ∈ wsL_law := List.mem_of_getElem? (i := 282) (by decide +kernel)
theorem wm_283 : Cond.instanceMethod yX6_undo ∈ wsL_law := List.mem_of_getElem? (i := 283) (by decide +kernel)
theorem wm_284 : Cond.selects RX6 yX6_undo yX6_undo ∈ wsL_law := List.mem_of_getElem? (i := 284) (by decide +kernel)
theorem wm_285 : Cond.code yX6_undo cX6_undo 2 (some .int) ∈ wsL_law := List.mem_of_getElem? (i := 285) (by decide +kernel)
theorem wm_286 : Cond.methodLink RL 27 yX5_fault ∈ wsL_law := List.mem_of_getElem? (i := 286) (by decide +kernel)
theorem wm_287 : Cond.instanceMethod yX5_fault ∈ wsL_law := List.mem_of_getElem? (i := 287) (by decide +kernel)
theorem wm_288 : Cond.selects RX5 yX5_fault yX5_fault ∈ wsL_law := List.mem_of_getElem? (i := 288) (by decide +kernel)
theorem wm_289 : Cond.code yX5_fault cX5_fault 2 (some .int) ∈ wsL_law := List.mem_of_getElem? (i := 289) (by decide +kernel)
theorem wm_290 : Cond.methodLink RL 30 yX6_fault ∈ wsL_law := List.mem_of_getElem? (i := 290) (by decide +kernel)
theorem wm_291 : Cond.instanceMethod yX6_fault ∈ wsL_law := List.mem_of_getElem? (i := 291) (by decide +kernel)
theorem wm_292 : Cond.selects RX6 yX6_fault yX6_fault ∈ wsL_law := List.mem_of_getElem? (i := 292) (by decide +kernel)
theorem wm_293 : Cond.code yX6_fault cX6_fault 2 (some .int) ∈ wsL_law := List.mem_of_getElem? (i := 293) (by decide +kernel)
theorem wm_294 : Cond.methodLink RX6 128 yX6_faultOf ∈ wsL_law := List.mem_of_getElem? (i := 294) (by decide +kernel)
theorem wm_295 : Cond.instanceMethod yX6_faultOf ∈ wsL_law := List.mem_of_getElem? (i := 295) (by decide +kernel)
theorem wm_296 : Cond.selects RX6 yX6_faultOf yX6_faultOf ∈ wsL_law := List.mem_of_getElem? (i := 296) (by decide +kernel)
theorem wm_297 : Cond.code yX6_faultOf cX6_faultOf 5 (some .int) ∈ wsL_law := List.mem_of_getElem? (i := 297) (by decide +kernel)
theorem wm_298 : Cond.methodLink RX6 118 yX6_readsCorner ∈ wsL_law := List.mem_of_getElem? (i := 298) (by decide +kernel)
theorem wm_299 : Cond.instanceMethod yX6_readsCorner ∈ wsL_law := List.mem_of_getElem? (i := 299) (by decide +kernel)
theorem wm_300 : Cond.selects RX6 yX6_readsCorner yX6_readsCorner ∈ wsL_law := List.mem_of_getElem? (i := 300) (by decide +kernel)
theorem wm_301 : Cond.code yX6_readsCorner cX6_readsCorner 7 (some .int) ∈ wsL_law := List.mem_of_getElem? (i := 301) (by decide +kernel)
theorem wm_302 : Cond.fieldLink RX6 94 "ElectingWindModel" "cells" "I" ∈ wsL_law := List.mem_of_getElem? (i := 302) (by decide +kernel)
theorem wm_303 : Cond.fieldLink RX6 98 "ElectingWindModel" "wide" "I" ∈ wsL_law := List.mem_of_getElem? (i := 303) (by decide +kernel)
theorem wm_304 : Cond.methodLink RX6 90 yX6_byteAt ∈ wsL_law := List.mem_of_getElem? (i := 304) (by decide +kernel)
theorem wm_305 : Cond.instanceMethod yX6_byteAt ∈ wsL_law := List.mem_of_getElem? (i := 305) (by decide +kernel)
theorem wm_306 : Cond.selects RX6 yX6_byteAt yX6_byteAt ∈ wsL_law := List.mem_of_getElem? (i := 306) (by decide +kernel)
theorem wm_307 : Cond.code yX6_byteAt cX6_byteAt 3 (some .int) ∈ wsL_law := List.mem_of_getElem? (i := 307) (by decide +kernel)
theorem wm_308 : Cond.methodLink RX6 122 yX6_readsGusts ∈ wsL_law := List.mem_of_getElem? (i := 308) (by decide +kernel)
theorem wm_309 : Cond.instanceMethod yX6_readsGusts ∈ wsL_law := List.mem_of_getElem? (i := 309) (by decide +kernel)
theorem wm_310 : Cond.selects RX6 yX6_readsGusts yX6_readsGusts ∈ wsL_law := List.mem_of_getElem? (i := 310) (by decide +kernel)
theorem wm_311 : Cond.code yX6_readsGusts cX6_readsGusts 4 (some .int) ∈ wsL_law := List.mem_of_getElem? (i := 311) (by decide +kernel)
theorem wm_312 : Cond.fieldLink RX6 101 "ElectingWindModel" "minutes" "I" ∈ wsL_law := List.mem_of_getElem? (i := 312) (by decide +kernel)
theorem wm_313 : Cond.methodLink RX6 104 yX6_wayOf ∈ wsL_law := List.mem_of_getElem? (i := 313) (by decide +kernel)
theorem wm_314 : Cond.static yX6_wayOf ∈ wsL_law := List.mem_of_getElem? (i := 314) (by decide +kernel)
theorem wm_315 : Cond.code yX6_wayOf cX6_wayOf 1 (some .int) ∈ wsL_law := List.mem_of_getElem? (i := 315) (by decide +kernel)
theorem wm_316 : Cond.methodLink RX6 108 yX6_figureAt ∈ wsL_law := List.mem_of_getElem? (i := 316) (by decide +kernel)
theorem wm_317 : Cond.instanceMethod yX6_figureAt ∈ wsL_law := List.mem_of_getElem? (i := 317) (by decide +kernel)
theorem wm_318 : Cond.selects RX6 yX6_figureAt yX6_figureAt ∈ wsL_law := List.mem_of_getElem? (i := 318) (by decide +kernel)
theorem wm_319 : Cond.code yX6_figureAt cX6_figureAt 6 (some .int) ∈ wsL_law := List.mem_of_getElem? (i := 319) (by decide +kernel)
theorem wm_320 : Cond.methodLink RX6 125 yX6_readsCandidates ∈ wsL_law := List.mem_of_getElem? (i := 320) (by decide +kernel)
theorem wm_321 : Cond.instanceMethod yX6_readsCandidates ∈ wsL_law := List.mem_of_getElem? (i := 321) (by decide +kernel)
theorem wm_322 : Cond.selects RX6 yX6_readsCandidates yX6_readsCandidates ∈ wsL_law := List.mem_of_getElem? (i := 322) (by decide +kernel)
theorem wm_323 : Cond.code yX6_readsCandidates cX6_readsCandidates 4 (some .int) ∈ wsL_law := List.mem_of_getElem? (i := 323) (by decide +kernel)
theorem wm_324 : Cond.fieldLink RX6 112 "ElectingWindModel" "candidates" "I" ∈ wsL_law := List.mem_of_getElem? (i := 324) (by decide +kernel)
theorem wm_325 : Cond.methodLink RX6 115 yX6_readsCandidate ∈ wsL_law := List.mem_of_getElem? (i := 325) (by decide +kernel)
theorem wm_326 : Cond.instanceMethod yX6_readsCandidate ∈ wsL_law := List.mem_of_getElem? (i := 326) (by decide +kernel)
theorem wm_327 : Cond.selects RX6 yX6_readsCandidate yX6_readsCandidate ∈ wsL_law := List.mem_of_getElem? (i := 327) (by decide +kernel)
theorem wm_328 : Cond.code yX6_readsCandidate cX6_readsCandidate 8 (some .int) ∈ wsL_law := List.mem_of_getElem? (i := 328) (by decide +kernel)
theorem wm_329 : Cond.methodLink RL 31 yX5_cell ∈ wsL_law := List.mem_of_getElem? (i := 329) (by decide +kernel)
theorem wm_330 : Cond.instanceMethod yX5_cell ∈ wsL_law := List.mem_of_getElem? (i := 330) (by decide +kernel)
theorem wm_331 : Cond.selects RX5 yX5_cell yX5_cell ∈ wsL_law := List.mem_of_getElem? (i := 331) (by decide +kernel)
theorem wm_332 : Cond.code yX5_cell cX5_cell 2 (some .int) ∈ wsL_law := List.mem_of_getElem? (i := 332) (by decide +kernel)
theorem wm_333 : Cond.methodLink RX5 95 yX1_isCell ∈ wsL_law := List.mem_of_getElem? (i := 333) (by decide +kernel)
theorem wm_334 : Cond.methodLink RX5 100 yX1_isWall ∈ wsL_law := List.mem_of_getElem? (i := 334) (by decide +kernel)
theorem wm_335 : Cond.methodLink RL 34 yX6_cell ∈ wsL_law := List.mem_of_getElem? (i := 335) (by decide +kernel)
theorem wm_336 : Cond.instanceMethod yX6_cell ∈ wsL_law := List.mem_of_getElem? (i := 336) (by decide +kernel)
theorem wm_337 : Cond.selects RX6 yX6_cell yX6_cell ∈ wsL_law := List.mem_of_getElem? (i := 337) (by decide +kernel)
theorem wm_338 : Cond.code yX6_cell cX6_cell 2 (some .int) ∈ wsL_law := List.mem_of_getElem? (i := 338) (by decide +kernel)
theorem wm_339 : Cond.methodLink RX6 134 yX6_isCell ∈ wsL_law := List.mem_of_getElem? (i := 339) (by decide +kernel)
theorem wm_340 : Cond.instanceMethod yX6_isCell ∈ wsL_law := List.mem_of_getElem? (i := 340) (by decide +kernel)
theorem wm_341 : Cond.selects RX6 yX6_isCell yX6_isCell ∈ wsL_law := List.mem_of_getElem? (i := 341) (by decide +kernel)
theorem wm_342 : Cond.code yX6_isCell cX6_isCell 2 (some .boolean) ∈ wsL_law := List.mem_of_getElem? (i := 342) (by decide +kernel)
theorem wm_343 : Cond.methodLink RX6 131 yX6_reads ∈ wsL_law := List.mem_of_getElem? (i := 343) (by decide +kernel)
theorem wm_344 : Cond.instanceMethod yX6_reads ∈ wsL_law := List.mem_of_getElem? (i := 344) (by decide +kernel)
theorem wm_345 : Cond.selects RX6 yX6_reads yX6_reads ∈ wsL_law := List.mem_of_getElem? (i := 345) (by decide +kernel)
theorem wm_346 : Cond.code yX6_reads cX6_reads 2 none ∈ wsL_law := List.mem_of_getElem? (i := 346) (by decide +kernel)
theorem wm_347 : Cond.methodLink RL 35 yX5_gust ∈ wsL_law := List.mem_of_getElem? (i := 347) (by decide +kernel)
theorem wm_348 : Cond.instanceMethod yX5_gust ∈ wsL_law := List.mem_of_getElem? (i := 348) (by decide +kernel)
theorem wm_349 : Cond.selects RX5 yX5_gust yX5_gust ∈ wsL_law := List.mem_of_getElem? (i := 349) (by decide +kernel)
theorem wm_350 : Cond.code yX5_gust cX5_gust 3 (some .int) ∈ wsL_law := List.mem_of_getElem? (i := 350) (by decide +kernel)
theorem wm_351 : Cond.fieldLink RX5 106 "ElectingWind$Scene" "from" "[I" ∈ wsL_law := List.mem_of_getElem? (i := 351) (by decide +kernel)
theorem wm_352 : Cond.fieldLink RX5 109 "ElectingWind$Scene" "force" "[I" ∈ wsL_law := List.mem_of_getElem? (i := 352) (by decide +kernel)
theorem wm_353 : Cond.methodLink RX5 103 yX5_isMinute ∈ wsL_law := List.mem_of_getElem? (i := 353) (by decide +kernel)
theorem wm_354 : Cond.instanceMethod yX5_isMinute ∈ wsL_law := List.mem_of_getElem? (i := 354) (by decide +kernel)
theorem wm_355 : Cond.selects RX5 yX5_isMinute yX5_isMinute ∈ wsL_law := List.mem_of_getElem? (i := 355) (by decide +kernel)
theorem wm_356 : Cond.code yX5_isMinute cX5_isMinute 2 (some .boolean) ∈ wsL_law := List.mem_of_getElem? (i := 356) (by decide +kernel)
theorem wm_357 : Cond.fieldLink RX5 150 "ElectingWind$Scene" "minutes" "I" ∈ wsL_law := List.mem_of_getElem? (i := 357) (by decide +kernel)
theorem wm_358 : Cond.methodLink RL 38 yX6_gust ∈ wsL_law := List.mem_of_getElem? (i := 358) (by decide +kernel)
theorem wm_359 : Cond.instanceMethod yX6_gust ∈ wsL_law := List.mem_of_getElem? (i := 359) (by decide +kernel)
theorem wm_360 : Cond.selects RX6 yX6_gust yX6_gust ∈ wsL_law := List.mem_of_getElem? (i := 360) (by decide +kernel)
theorem wm_361 : Cond.code yX6_gust cX6_gust 3 (some .int) ∈ wsL_law := List.mem_of_getElem? (i := 361) (by decide +kernel)
theorem wm_362 : Cond.methodLink RX6 137 yX6_isMinute ∈ wsL_law := List.mem_of_getElem? (i := 362) (by decide +kernel)
theorem wm_363 : Cond.instanceMethod yX6_isMinute ∈ wsL_law := List.mem_of_getElem? (i := 363) (by decide +kernel)
theorem wm_364 : Cond.selects RX6 yX6_isMinute yX6_isMinute ∈ wsL_law := List.mem_of_getElem? (i := 364) (by decide +kernel)
theorem wm_365 : Cond.code yX6_isMinute cX6_isMinute 2 (some .boolean) ∈ wsL_law := List.mem_of_getElem? (i := 365) (by decide +kernel)
theorem wm_366 : Cond.methodLink RL 39 yX5_candidate ∈ wsL_law := List.mem_of_getElem? (i := 366) (by decide +kernel)
theorem wm_367 : Cond.instanceMethod yX5_candidate ∈ wsL_law := List.mem_of_getElem? (i := 367) (by decide +kernel)
theorem wm_368 : Cond.selects RX5 yX5_candidate yX5_candidate ∈ wsL_law := List.mem_of_getElem? (i := 368) (by decide +kernel)
theorem wm_369 : Cond.code yX5_candidate cX5_candidate 3 (some .int) ∈ wsL_law := List.mem_of_getElem? (i := 369) (by decide +kernel)
theorem wm_370 : Cond.fieldLink RX5 115 "ElectingWind$Scene" "at" "[I" ∈ wsL_law := List.mem_of_getElem? (i := 370) (by decide +kernel)
theorem wm_371 : Cond.fieldLink RX5 118 "ElectingWind$Scene" "ribs" "[I" ∈ wsL_law := List.mem_of_getElem? (i := 371) (by decide +kernel)
theorem wm_372 : Cond.fieldLink RX5 121 "ElectingWind$Scene" "held" "[I" ∈ wsL_law := List.mem_of_getElem? (i := 372) (by decide +kernel)
theorem wm_373 : Cond.methodLink RX5 112 yX5_isCandidate ∈ wsL_law := List.mem_of_getElem? (i := 373) (by decide +kernel)
theorem wm_374 : Cond.instanceMethod yX5_isCandidate ∈ wsL_law := List.mem_of_getElem? (i := 374) (by decide +kernel)
theorem wm_375 : Cond.selects RX5 yX5_isCandidate yX5_isCandidate ∈ wsL_law := List.mem_of_getElem? (i := 375) (by decide +kernel)
theorem wm_376 : Cond.code yX5_isCandidate cX5_isCandidate 2 (some .boolean) ∈ wsL_law := List.mem_of_getElem? (i := 376) (by decide +kernel)
theorem wm_377 : Cond.fieldLink RX5 167 "ElectingWind$Scene" "candidates" "I" ∈ wsL_law := List.mem_of_getElem? (i := 377) (by decide +kernel)
theorem wm_378 : Cond.methodLink RX5 124 yX0_isSomewhere ∈ wsL_law := List.mem_of_getElem? (i := 378) (by decide +kernel)
theorem wm_379 : Cond.instanceMethod yX0_isSomewhere ∈ wsL_law := List.mem_of_getElem? (i := 379) (by decide +kernel)
theorem wm_380 : Cond.selects RX0 yX0_isSomewhere yX0_isSomewhere ∈ wsL_law := List.mem_of_getElem? (i := 380) (by decide +kernel)
theorem wm_381 : Cond.code yX0_isSomewhere cX0_isSomewhere 2 (some .boolean) ∈ wsL_law := List.mem_of_getElem? (i := 381) (by decide +kernel)
theorem wm_382 : Cond.methodLink RL 42 yX6_candidate ∈ wsL_law := List.mem_of_getElem? (i := 382) (by decide +kernel)
theorem wm_383 : Cond.instanceMethod yX6_candidate ∈ wsL_law := List.mem_of_getElem? (i := 383) (by decide +kernel)
theorem wm_384 : Cond.selects RX6 yX6_candidate yX6_candidate ∈ wsL_law := List.mem_of_getElem? (i := 384) (by decide +kernel)
theorem wm_385 : Cond.code yX6_candidate cX6_candidate 3 (some .int) ∈ wsL_law := List.mem_of_getElem? (i := 385) (by decide +kernel)
theorem wm_386 : Cond.methodLink RX6 143 yX6_isCandidate ∈ wsL_law := List.mem_of_getElem? (i := 386) (by decide +kernel)
theorem wm_387 : Cond.instanceMethod yX6_isCandidate ∈ wsL_law := List.mem_of_getElem? (i := 387) (by decide +kernel)
theorem wm_388 : Cond.selects RX6 yX6_isCandidate yX6_isCandidate ∈ wsL_law := List.mem_of_getElem? (i := 388) (by decide +kernel)
theorem wm_389 : Cond.code yX6_isCandidate cX6_isCandidate 2 (some .boolean) ∈ wsL_law := List.mem_of_getElem? (i := 389) (by decide +kernel)
theorem wm_390 : Cond.methodLink RX6 146 yX6_candidateOf ∈ wsL_law := List.mem_of_getElem? (i := 390) (by decide +kernel)
theorem wm_391 : Cond.instanceMethod yX6_candidateOf ∈ wsL_law := List.mem_of_getElem? (i := 391) (by decide +kernel)
theorem wm_392 : Cond.selects RX6 yX6_candidateOf yX6_candidateOf ∈ wsL_law := List.mem_of_getElem? (i := 392) (by decide +kernel)
theorem wm_393 : Cond.code yX6_candidateOf cX6_candidateOf 3 (some .int) ∈ wsL_law := List.mem_of_getElem? (i := 393) (by decide +kernel)
theorem wm_394 : Cond.methodLink RX6 140 yX6_isSomewhere ∈ wsL_law := List.mem_of_getElem? (i := 394) (by decide +kernel)
theorem wm_395 : Cond.instanceMethod yX6_isSomewhere ∈ wsL_law := List.mem_of_getElem? (i := 395) (by decide +kernel)
theorem wm_396 : Cond.selects RX6 yX6_isSomewhere yX6_isSomewhere ∈ wsL_law := List.mem_of_getElem? (i := 396) (by decide +kernel)
theorem wm_397 : Cond.code yX6_isSomewhere cX6_isSomewhere 2 (some .boolean) ∈ wsL_law := List.mem_of_getElem? (i := 397) (by decide +kernel)
theorem wm_398 : Cond.methodLink RL 43 yX5_wind ∈ wsL_law := List.mem_of_getElem? (i := 398) (by decide +kernel)
theorem wm_399 : Cond.instanceMethod yX5_wind ∈ wsL_law := List.mem_of_getElem? (i := 399) (by decide +kernel)
theorem wm_400 : Cond.selects RX5 yX5_wind yX5_wind ∈ wsL_law := List.mem_of_getElem? (i := 400) (by decide +kernel)
theorem wm_401 : Cond.code yX5_wind cX5_wind 3 (some .int) ∈ wsL_law := List.mem_of_getElem? (i := 401) (by decide +kernel)
theorem wm_402 : Cond.methodLink RX5 127 yX0_windOn ∈ wsL_law := List.mem_of_getElem? (i := 402) (by decide +kernel)
theorem wm_403 : Cond.methodLink RL 46 yX6_wind ∈ wsL_law := List.mem_of_getElem? (i := 403) (by decide +kernel)
theorem wm_404 : Cond.instanceMethod yX6_wind ∈ wsL_law := List.mem_of_getElem? (i := 404) (by decide +kernel)
theorem wm_405 : Cond.selects RX6 yX6_wind yX6_wind ∈ wsL_law := List.mem_of_getElem? (i := 405) (by decide +kernel)
theorem wm_406 : Cond.code yX6_wind cX6_wind 3 (some .int) ∈ wsL_law := List.mem_of_getElem? (i := 406) (by decide +kernel)
theorem wm_407 : Cond.methodLink RX6 178 yX6_windOf ∈ wsL_law := List.mem_of_getElem? (i := 407) (by decide +kernel)
theorem wm_408 : Cond.instanceMethod yX6_windOf ∈ wsL_law := List.mem_of_getElem? (i := 408) (by decide +kernel)
theorem wm_409 : Cond.selects RX6 yX6_windOf yX6_windOf ∈ wsL_law := List.mem_of_getElem? (i := 409) (by decide +kernel)
theorem wm_410 : Cond.code yX6_windOf cX6_windOf 3 (some .int) ∈ wsL_law := List.mem_of_getElem? (i := 410) (by decide +kernel)
theorem wm_411 : Cond.methodLink RX6 175 yX6_runsTold ∈ wsL_law := List.mem_of_getElem? (i := 411) (by decide +kernel)
theorem wm_412 : Cond.instanceMethod yX6_runsTold ∈ wsL_law := List.mem_of_getElem? (i := 412) (by decide +kernel)
theorem wm_413 : Cond.selects RX6 yX6_runsTold yX6_runsTold ∈ wsL_law := List.mem_of_getElem? (i := 413) (by decide +kernel)
theorem wm_414 : Cond.code yX6_runsTold cX6_runsTold 1 none ∈ wsL_law := List.mem_of_getElem? (i := 414) (by decide +kernel)
theorem wm_415 : Cond.methodLink RX6 172 yX6_runs ∈ wsL_law := List.mem_of_getElem? (i := 415) (by decide +kernel)
theorem wm_416 : Cond.instanceMethod yX6_runs ∈ wsL_law := List.mem_of_getElem? (i := 416) (by decide +kernel)
theorem wm_417 : Cond.selects RX6 yX6_runs yX6_runs ∈ wsL_law := List.mem_of_getElem? (i := 417) (by decide +kernel)
theorem wm_418 : Cond.code yX6_runs cX6_runs 2 none ∈ wsL_law := List.mem_of_getElem? (i := 418) (by decide +kernel)
theorem wm_419 : Cond.methodLink RX6 169 yX6_goesBy ∈ wsL_law := List.mem_of_getElem? (i := 419) (by decide +kernel)
theorem wm_420 : Cond.instanceMethod yX6_goesBy ∈ wsL_law := List.mem_of_getElem? (i := 420) (by decide +kernel)
theorem wm_421 : Cond.selects RX6 yX6_goesBy yX6_goesBy ∈ wsL_law := List.mem_of_getElem? (i := 421) (by decide +kernel)
theorem wm_422 : Cond.code yX6_goesBy cX6_goesBy 5 none ∈ wsL_law := List.mem_of_getElem? (i := 422) (by decide +kernel)
theorem wm_423 : Cond.methodLink RX6 159 yX6_windNow ∈ wsL_law := List.mem_of_getElem? (i := 423) (by decide +kernel)
theorem wm_424 : Cond.instanceMethod yX6_windNow ∈ wsL_law := List.mem_of_getElem? (i := 424) (by decide +kernel)
theorem wm_425 : Cond.selects RX6 yX6_windNow yX6_windNow ∈ wsL_law := List.mem_of_getElem? (i := 425) (by decide +kernel)
theorem wm_426 : Cond.code yX6_windNow cX6_windNow 8 (some .int) ∈ wsL_law := List.mem_of_getElem? (i := 426) (by decide +kernel)
theorem wm_427 : Cond.methodLink RX6 149 yX6_beside ∈ wsL_law := List.mem_of_getElem? (i := 427) (by decide +kernel)
theorem wm_428 : Cond.instanceMethod yX6_beside ∈ wsL_law := List.mem_of_getElem? (i := 428) (by decide +kernel)
theorem wm_429 : Cond.selects RX6 yX6_beside yX6_beside ∈ wsL_law := List.mem_of_getElem? (i := 429) (by decide +kernel)
theorem wm_430 : Cond.code yX6_beside cX6_beside 4 (some .int) ∈ wsL_law := List.mem_of_getElem? (i := 430) (by decide +kernel)
theorem wm_431 : Cond.methodLink RX6 152 yX6_isWallAt ∈ wsL_law := List.mem_of_getElem? (i := 431) (by decide +kernel)
theorem wm_432 : Cond.instanceMethod yX6_isWallAt ∈ wsL_law := List.mem_of_getElem? (i := 432) (by decide +kernel)
theorem wm_433 : Cond.selects RX6 yX6_isWallAt yX6_isWallAt ∈ wsL_law := List.mem_of_getElem? (i := 433) (by decide +kernel)
theorem wm_434 : Cond.code yX6_isWallAt cX6_isWallAt 2 (some .boolean) ∈ wsL_law := List.mem_of_getElem? (i := 434) (by decide +kernel)
theorem wm_435 : Cond.methodLink RX6 155 yX6_isLee ∈ wsL_law := List.mem_of_getElem? (i := 435) (by decide +kernel)
theorem wm_436 : Cond.instanceMethod yX6_isLee ∈ wsL_law := List.mem_of_getElem? (i := 436) (by decide +kernel)
theorem wm_437 : Cond.selects RX6 yX6_isLee yX6_isLee ∈ wsL_law := List.mem_of_getElem? (i := 437) (by decide +kernel)
theorem wm_438 : Cond.code yX6_isLee cX6_isLee 5 (some .boolean) ∈ wsL_law := List.mem_of_getElem? (i := 438) (by decide +kernel)
theorem wm_439 : Cond.methodLink RX6 162 yX6_strain ∈ wsL_law := List.mem_of_getElem? (i := 439) (by decide +kernel)
theorem wm_440 : Cond.instanceMethod yX6_strain ∈ wsL_law := List.mem_of_getElem? (i := 440) (by decide +kernel)
theorem wm_441 : Cond.selects RX6 yX6_strain yX6_strain ∈ wsL_law := List.mem_of_getElem? (i := 441) (by decide +kernel)
theorem wm_442 : Cond.code yX6_strain cX6_strain 3 (some .int) ∈ wsL_law := List.mem_of_getElem? (i := 442) (by decide +kernel)
theorem wm_443 : Cond.methodLink RX6 165 yX6_elects ∈ wsL_law := List.mem_of_getElem? (i := 443) (by decide +kernel)
theorem wm_444 : Cond.instanceMethod yX6_elects ∈ wsL_law := List.mem_of_getElem? (i := 444) (by decide +kernel)
theorem wm_445 : Cond.selects RX6 yX6_elects yX6_elects ∈ wsL_law := List.mem_of_getElem? (i := 445) (by decide +kernel)
theorem wm_446 : Cond.code yX6_elects cX6_elects 5 none ∈ wsL_law := List.mem_of_getElem? (i := 446) (by decide +kernel)
theorem wm_447 : Cond.methodLink RL 47 yX5_ribs ∈ wsL_law := List.mem_of_getElem? (i := 447) (by decide +kernel)
theorem wm_448 : Cond.instanceMethod yX5_ribs ∈ wsL_law := List.mem_of_getElem? (i := 448) (by decide +kernel)
theorem wm_449 : Cond.selects RX5 yX5_ribs yX5_ribs ∈ wsL_law := List.mem_of_getElem? (i := 449) (by decide +kernel)
theorem wm_450 : Cond.code yX5_ribs cX5_ribs 3 (some .int) ∈ wsL_law := List.mem_of_getElem? (i := 450) (by decide +kernel)
theorem wm_451 : Cond.methodLink RX5 131 yX0_ribsAhead ∈ wsL_law := List.mem_of_getElem? (i := 451) (by decide +kernel)
theorem wm_452 : Cond.instanceMethod yX0_ribsAhead ∈ wsL_law := List.mem_of_getElem? (i := 452) (by decide +kernel)
theorem wm_453 : Cond.selects RX0 yX0_ribsAhead yX0_ribsAhead ∈ wsL_law := List.mem_of_getElem? (i := 453) (by decide +kernel)
theorem wm_454 : Cond.code yX0_ribsAhead cX0_ribsAhead 4 (some .int) ∈ wsL_law := List.mem_of_getElem? (i := 454) (by decide +kernel)
theorem wm_455 : Cond.methodLink RL 50 yX6_ribs ∈ wsL_law := List.mem_of_getElem? (i := 455) (by decide +kernel)
theorem wm_456 : Cond.instanceMethod yX6_ribs ∈ wsL_law := List.mem_of_getElem? (i := 456) (by decide +kernel)
theorem wm_457 : Cond.selects RX6 yX6_ribs yX6_ribs ∈ wsL_law := List.mem_of_getElem? (i := 457) (by decide +kernel)
theorem wm_458 : Cond.code yX6_ribs cX6_ribs 3 (some .int) ∈ wsL_law := List.mem_of_getElem? (i := 458) (by decide +kernel)
theorem wm_459 : Cond.methodLink RX6 181 yX6_ribsOf ∈ wsL_law := List.mem_of_getElem? (i := 459) (by decide +kernel)
theorem wm_460 : Cond.instanceMethod yX6_ribsOf ∈ wsL_law := List.mem_of_getElem? (i := 460) (by decide +kernel)
theorem wm_461 : Cond.selects RX6 yX6_ribsOf yX6_ribsOf ∈ wsL_law := List.mem_of_getElem? (i := 461) (by decide +kernel)
theorem wm_462 : Cond.code yX6_ribsOf cX6_ribsOf 3 (some .int) ∈ wsL_law := List.mem_of_getElem? (i := 462) (by decide +kernel)
theorem wm_463 : Cond.methodLink RL 51 yX5_overturns ∈ wsL_law := List.mem_of_getElem? (i := 463) (by decide +kernel)
theorem wm_464 : Cond.instanceMethod yX5_overturns ∈ wsL_law := List.mem_of_getElem? (i := 464) (by decide +kernel)
theorem wm_465 : Cond.selects RX5 yX5_overturns yX5_overturns ∈ wsL_law := List.mem_of_getElem? (i := 465) (by decide +kernel)
theorem wm_466 : Cond.code yX5_overturns cX5_overturns 3 (some .int) ∈ wsL_law := List.mem_of_getElem? (i := 466) (by decide +kernel)
theorem wm_467 : Cond.methodLink RX5 134 yX0_turnsWhen ∈ wsL_law := List.mem_of_getElem? (i := 467) (by decide +kernel)
theorem wm_468 : Cond.instanceMethod yX0_turnsWhen ∈ wsL_law := List.mem_of_getElem? (i := 468) (by decide +kernel)
theorem wm_469 : Cond.selects RX0 yX0_turnsWhen yX0_turnsWhen ∈ wsL_law := List.mem_of_getElem? (i := 469) (by decide +kernel)
theorem wm_470 : Cond.code yX0_turnsWhen cX0_turnsWhen 3 (some .int) ∈ wsL_law := List.mem_of_getElem? (i := 470) (by decide +kernel)
theorem wm_471 : Cond.methodLink RX5 138 yX0_isReturned ∈ wsL_law := List.mem_of_getElem? (i := 471) (by decide +kernel)
theorem wm_472 : Cond.instanceMethod yX0_isReturned ∈ wsL_law := List.mem_of_getElem? (i := 472) (by decide +kernel)
theorem wm_473 : Cond.selects RX0 yX0_isReturned yX0_isReturned ∈ wsL_law := List.mem_of_getElem? (i := 473) (by decide +kernel)
theorem wm_474 : Cond.code yX0_isReturned cX0_isReturned 3 (some .boolean) ∈ wsL_law := List.mem_of_getElem? (i := 474) (by decide +kernel)
theorem wm_475 : Cond.methodLink RX0 115 yX0_turnsWhen ∈ wsL_law := List.mem_of_getElem? (i := 475) (by decide +kernel)
theorem wm_476 : Cond.methodLink RX5 141 yX0_isElected ∈ wsL_law := List.mem_of_getElem? (i := 476) (by decide +kernel)
theorem wm_477 : Cond.instanceMethod yX0_isElected ∈ wsL_law := List.mem_of_getElem? (i := 477) (by decide +kernel)
theorem wm_478 : Cond.selects RX0 yX0_isElected yX0_isElected ∈ wsL_law := List.mem_of_getElem? (i := 478) (by decide +kernel)
theorem wm_479 : Cond.code yX0_isElected cX0_isElected 3 (some .boolean) ∈ wsL_law := List.mem_of_getElem? (i := 479) (by decide +kernel)
theorem wm_480 : Cond.methodLink RX5 144 yX0_minutesBehindWhichIn ∈ wsL_law := List.mem_of_getElem? (i := 480) (by decide +kernel)
theorem wm_481 : Cond.instanceMethod yX0_minutesBehindWhichIn ∈ wsL_law := List.mem_of_getElem? (i := 481) (by decide +kernel)
theorem wm_482 : Cond.selects RX0 yX0_minutesBehindWhichIn yX0_minutesBehindWhichIn ∈ wsL_law := List.mem_of_getElem? (i := 482) (by decide +kernel)
theorem wm_483 : Cond.code yX0_minutesBehindWhichIn cX0_minutesBehindWhichIn 4 (some .int) ∈ wsL_law := List.mem_of_getElem? (i := 483) (by decide +kernel)
theorem wm_484 : Cond.methodLink RX0 119 yX0_whoIsIn ∈ wsL_law := List.mem_of_getElem? (i := 484) (by decide +kernel)
theorem wm_485 : Cond.instanceMethod yX0_whoIsIn ∈ wsL_law := List.mem_of_getElem? (i := 485) (by decide +kernel)
theorem wm_486 : Cond.selects RX0 yX0_whoIsIn yX0_whoIsIn ∈ wsL_law := List.mem_of_getElem? (i := 486) (by decide +kernel)
theorem wm_487 : Cond.code yX0_whoIsIn cX0_whoIsIn 2 (some .int) ∈ wsL_law := List.mem_of_getElem? (i := 487) (by decide +kernel)
theorem wm_488 : Cond.methodLink RL 54 yX6_overturns ∈ wsL_law := List.mem_of_getElem? (i := 488) (by decide +kernel)
theorem wm_489 : Cond.instanceMethod yX6_overturns ∈ wsL_law := List.mem_of_getElem? (i := 489) (by decide +kernel)
theorem wm_490 : Cond.selects RX6 yX6_overturns yX6_overturns ∈ wsL_law := List.mem_of_getElem? (i := 490) (by decide +kernel)
theorem wm_491 : Cond.code yX6_overturns cX6_overturns 3 (some .int) ∈ wsL_law := List.mem_of_getElem? (i := 491) (by decide +kernel)
theorem wm_492 : Cond.methodLink RX6 184 yX6_turnsOf ∈ wsL_law := List.mem_of_getElem? (i := 492) (by decide +kernel)
theorem wm_493 : Cond.instanceMethod yX6_turnsOf ∈ wsL_law := List.mem_of_getElem? (i := 493) (by decide +kernel)
theorem wm_494 : Cond.selects RX6 yX6_turnsOf yX6_turnsOf ∈ wsL_law := List.mem_of_getElem? (i := 494) (by decide +kernel)
theorem wm_495 : Cond.code yX6_turnsOf cX6_turnsOf 5 (some .int) ∈ wsL_law := List.mem_of_getElem? (i := 495) (by decide +kernel)
theorem wm_496 : Cond.methodLink RL 55 yX5_in ∈ wsL_law := List.mem_of_getElem? (i := 496) (by decide +kernel)
theorem wm_497 : Cond.instanceMethod yX5_in ∈ wsL_law := List.mem_of_getElem? (i := 497) (by decide +kernel)
theorem wm_498 : Cond.selects RX5 yX5_in yX5_in ∈ wsL_law := List.mem_of_getElem? (i := 498) (by decide +kernel)
theorem wm_499 : Cond.code yX5_in cX5_in 2 (some .int) ∈ wsL_law := List.mem_of_getElem? (i := 499) (by decide +kernel)
theorem wm_500 : Cond.methodLink RX5 147 yX0_whoIsIn ∈ wsL_law := List.mem_of_getElem? (i := 500) (by decide +kernel)
theorem wm_501 : Cond.methodLink RL 58 yX6_in ∈ wsL_law := List.mem_of_getElem? (i := 501) (by decide +kernel)
theorem wm_502 : Cond.instanceMethod yX6_in ∈ wsL_law := List.mem_of_getElem? (i := 502) (by decide +kernel)
theorem wm_503 : Cond.selects RX6 yX6_in yX6_in ∈ wsL_law := List.mem_of_getElem? (i := 503) (by decide +kernel)
theorem wm_504 : Cond.code yX6_in cX6_in 2 (some .int) ∈ wsL_law := List.mem_of_getElem? (i := 504) (by decide +kernel)
theorem wm_505 : Cond.methodLink RX6 187 yX6_inOf ∈ wsL_law := List.mem_of_getElem? (i := 505) (by decide +kernel)
theorem wm_506 : Cond.instanceMethod yX6_inOf ∈ wsL_law := List.mem_of_getElem? (i := 506) (by decide +kernel)
theorem wm_507 : Cond.selects RX6 yX6_inOf yX6_inOf ∈ wsL_law := List.mem_of_getElem? (i := 507) (by decide +kernel)
theorem wm_508 : Cond.code yX6_inOf cX6_inOf 2 (some .int) ∈ wsL_law := List.mem_of_getElem? (i := 508) (by decide +kernel)
theorem wm_509 : Cond.methodLink RL 59 yX5_first ∈ wsL_law := List.mem_of_getElem? (i := 509) (by decide +kernel)
theorem wm_510 : Cond.instanceMethod yX5_first ∈ wsL_law := List.mem_of_getElem? (i := 510) (by decide +kernel)
theorem wm_511 : Cond.selects RX5 yX5_first yX5_first ∈ wsL_law := List.mem_of_getElem? (i := 511) (by decide +kernel)
theorem wm_512 : Cond.code yX5_first cX5_first 4 (some .int) ∈ wsL_law := List.mem_of_getElem? (i := 512) (by decide +kernel)
theorem wm_513 : Cond.methodLink RL 62 yX6_first ∈ wsL_law := List.mem_of_getElem? (i := 513) (by decide +kernel)
theorem wm_514 : Cond.instanceMethod yX6_first ∈ wsL_law := List.mem_of_getElem? (i := 514) (by decide +kernel)
theorem wm_515 : Cond.selects RX6 yX6_first yX6_first ∈ wsL_law := List.mem_of_getElem? (i := 515) (by decide +kernel)
theorem wm_516 : Cond.code yX6_first cX6_first 2 (some .int) ∈ wsL_law := List.mem_of_getElem? (i := 516) (by decide +kernel)
theorem wm_517 : Cond.methodLink RX6 190 yX6_firstOf ∈ wsL_law := List.mem_of_getElem? (i := 517) (by decide +kernel)
theorem wm_518 : Cond.instanceMethod yX6_firstOf ∈ wsL_law := List.mem_of_getElem? (i := 518) (by decide +kernel)
theorem wm_519 : Cond.selects RX6 yX6_firstOf yX6_firstOf ∈ wsL_law := List.mem_of_getElem? (i := 519) (by decide +kernel)
theorem wm_520 : Cond.code yX6_firstOf cX6_firstOf 3 (some .int) ∈ wsL_law := List.mem_of_getElem? (i := 520) (by decide +kernel)
theorem wm_521 : Cond.methodLink RL 63 yX5_lulls ∈ wsL_law := List.mem_of_getElem? (i := 521) (by decide +kernel)
theorem wm_522 : Cond.instanceMethod yX5_lulls ∈ wsL_law := List.mem_of_getElem? (i := 522) (by decide +kernel)
theorem wm_523 : Cond.selects RX5 yX5_lulls yX5_lulls ∈ wsL_law := List.mem_of_getElem? (i := 523) (by decide +kernel)
theorem wm_524 : Cond.code yX5_lulls cX5_lulls 1 (some .int) ∈ wsL_law := List.mem_of_getElem? (i := 524) (by decide +kernel)
theorem wm_525 : Cond.methodLink RL 67 yX6_lulls ∈ wsL_law := List.mem_of_getElem? (i := 525) (by decide +kernel)
theorem wm_526 : Cond.instanceMethod yX6_lulls ∈ wsL_law := List.mem_of_getElem? (i := 526) (by decide +kernel)
theorem wm_527 : Cond.selects RX6 yX6_lulls yX6_lulls ∈ wsL_law := List.mem_of_getElem? (i := 527) (by decide +kernel)
theorem wm_528 : Cond.code yX6_lulls cX6_lulls 1 (some .int) ∈ wsL_law := List.mem_of_getElem? (i := 528) (by decide +kernel)
theorem wm_529 : Cond.methodLink RX6 193 yX6_lullsNow ∈ wsL_law := List.mem_of_getElem? (i := 529) (by decide +kernel)
theorem wm_530 : Cond.instanceMethod yX6_lullsNow ∈ wsL_law := List.mem_of_getElem? (i := 530) (by decide +kernel)
theorem wm_531 : Cond.selects RX6 yX6_lullsNow yX6_lullsNow ∈ wsL_law := List.mem_of_getElem? (i := 531) (by decide +kernel)
theorem wm_532 : Cond.code yX6_lullsNow cX6_lullsNow 3 (some .int) ∈ wsL_law := List.mem_of_getElem? (i := 532) (by decide +kernel)
theorem wm_533 : Cond.methodLink RL 68 yX5_stand ∈ wsL_law := List.mem_of_getElem? (i := 533) (by decide +kernel)
theorem wm_534 : Cond.instanceMethod yX5_stand ∈ wsL_law := List.mem_of_getElem? (i := 534) (by decide +kernel)
theorem wm_535 : Cond.selects RX5 yX5_stand yX5_stand ∈ wsL_law := List.mem_of_getElem? (i := 535) (by decide +kernel)
theorem wm_536 : Cond.code yX5_stand cX5_stand 7 (some .int) ∈ wsL_law := List.mem_of_getElem? (i := 536) (by decide +kernel)
theorem wm_537 : Cond.fieldLink RX5 157 "ElectingWind$Scene" "cells" "I" ∈ wsL_law := List.mem_of_getElem? (i := 537) (by decide +kernel)
theorem wm_538 : Cond.methodLink RX5 153 yX1_tellAs ∈ wsL_law := List.mem_of_getElem? (i := 538) (by decide +kernel)
theorem wm_539 : Cond.instanceMethod yX1_tellAs ∈ wsL_law := List.mem_of_getElem? (i := 539) (by decide +kernel)
theorem wm_540 : Cond.selects RX1 yX1_tellAs yX1_tellAs ∈ wsL_law := List.mem_of_getElem? (i := 540) (by decide +kernel)
theorem wm_541 : Cond.code yX1_tellAs cX1_tellAs 2 none ∈ wsL_law := List.mem_of_getElem? (i := 541) (by decide +kernel)
theorem wm_542 : Cond.methodLink RX1 49 arraycopyName ∈ wsL_law := List.mem_of_getElem? (i := 542) (by decide +kernel)
theorem wm_543 : Cond.native arraycopyName ∈ wsL_law := List.mem_of_getElem? (i := 543) (by decide +kernel)
theorem wm_544 : Cond.static arraycopyName ∈ wsL_law := List.mem_of_getElem? (i := 544) (by decide +kernel)
theorem wm_545 : Cond.initialized "java/lang/System" ∈ wsL_law := List.mem_of_getElem? (i := 545) (by decide +kernel)
theorem wm_546 : Cond.methodLink RX5 160 yX0_isFreeFor ∈ wsL_law := List.mem_of_getElem? (i := 546) (by decide +kernel)
theorem wm_547 : Cond.instanceMethod yX0_isFreeFor ∈ wsL_law := List.mem_of_getElem? (i := 547) (by decide +kernel)
theorem wm_548 : Cond.selects RX0 yX0_isFreeFor yX0_isFreeFor ∈ wsL_law := List.mem_of_getElem? (i := 548) (by decide +kernel)
theorem wm_549 : Cond.code yX0_isFreeFor cX0_isFreeFor 3 (some .boolean) ∈ wsL_law := List.mem_of_getElem? (i := 549) (by decide +kernel)
theorem wm_550 : Cond.methodLink RX5 164 yX0_runUntilTurned ∈ wsL_law := List.mem_of_getElem? (i := 550) (by decide +kernel)
theorem wm_551 : Cond.instanceMethod yX0_runUntilTurned ∈ wsL_law := List.mem_of_getElem? (i := 551) (by decide +kernel)
theorem wm_552 : Cond.selects RX0 yX0_runUntilTurned yX0_runUntilTurned ∈ wsL_law := List.mem_of_getElem? (i := 552) (by decide +kernel)
theorem wm_553 : Cond.code yX0_runUntilTurned cX0_runUntilTurned 3 (some .int) ∈ wsL_law := List.mem_of_getElem? (i := 553) (by decide +kernel)
theorem wm_554 : Cond.methodLink RL 71 yX6_stand ∈ wsL_law := List.mem_of_getElem? (i := 554) (by decide +kernel)
theorem wm_555 : Cond.instanceMethod yX6_stand ∈ wsL_law := List.mem_of_getElem? (i := 555) (by decide +kernel)
theorem wm_556 : Cond.selects RX6 yX6_stand yX6_stand ∈ wsL_law := List.mem_of_getElem? (i := 556) (by decide +kernel)
theorem wm_557 : Cond.code yX6_stand cX6_stand 3 (some .int) ∈ wsL_law := List.mem_of_getElem? (i := 557) (by decide +kernel)
theorem wm_558 : Cond.methodLink RX6 199 yX6_standOf ∈ wsL_law := List.mem_of_getElem? (i := 558) (by decide +kernel)
theorem wm_559 : Cond.instanceMethod yX6_standOf ∈ wsL_law := List.mem_of_getElem? (i := 559) (by decide +kernel)
theorem wm_560 : Cond.selects RX6 yX6_standOf yX6_standOf ∈ wsL_law := List.mem_of_getElem? (i := 560) (by decide +kernel)
theorem wm_561 : Cond.code yX6_standOf cX6_standOf 8 (some .int) ∈ wsL_law := List.mem_of_getElem? (i := 561) (by decide +kernel)
theorem wm_562 : Cond.methodLink RX6 196 yX6_isTaken ∈ wsL_law := List.mem_of_getElem? (i := 562) (by decide +kernel)
theorem wm_563 : Cond.instanceMethod yX6_isTaken ∈ wsL_law := List.mem_of_getElem? (i := 563) (by decide +kernel)
theorem wm_564 : Cond.selects RX6 yX6_isTaken yX6_isTaken ∈ wsL_law := List.mem_of_getElem? (i := 564) (by decide +kernel)
theorem wm_565 : Cond.code yX6_isTaken cX6_isTaken 5 (some .boolean) ∈ wsL_law := List.mem_of_getElem? (i := 565) (by decide +kernel)
theorem wm_566 : Cond.methodLink RL 72 yX5_shield ∈ wsL_law := List.mem_of_getElem? (i := 566) (by decide +kernel)
theorem wm_567 : Cond.instanceMethod yX5_shield ∈ wsL_law := List.mem_of_getElem? (i := 567) (by decide +kernel)
theorem wm_568 : Cond.selects RX5 yX5_shield yX5_shield ∈ wsL_law := List.mem_of_getElem? (i := 568) (by decide +kernel)
theorem wm_569 : Cond.code yX5_shield cX5_shield 4 (some .int) ∈ wsL_law := List.mem_of_getElem? (i := 569) (by decide +kernel)
theorem wm_570 : Cond.methodLink RX5 170 yX5_placeToShield ∈ wsL_law := List.mem_of_getElem? (i := 570) (by decide +kernel)
theorem wm_571 : Cond.instanceMethod yX5_placeToShield ∈ wsL_law := List.mem_of_getElem? (i := 571) (by decide +kernel)
theorem wm_572 : Cond.selects RX5 yX5_placeToShield yX5_placeToShield ∈ wsL_law := List.mem_of_getElem? (i := 572) (by decide +kernel)
theorem wm_573 : Cond.code yX5_placeToShield cX5_placeToShield 4 (some .int) ∈ wsL_law := List.mem_of_getElem? (i := 573) (by decide +kernel)
theorem wm_574 : Cond.methodLink RX5 182 yX0_isFree ∈ wsL_law := List.mem_of_getElem? (i := 574) (by decide +kernel)
theorem wm_575 : Cond.instanceMethod yX0_isFree ∈ wsL_law := List.mem_of_getElem? (i := 575) (by decide +kernel)
theorem wm_576 : Cond.selects RX0 yX0_isFree yX0_isFree ∈ wsL_law := List.mem_of_getElem? (i := 576) (by decide +kernel)
theorem wm_577 : Cond.code yX0_isFree cX0_isFree 2 (some .boolean) ∈ wsL_law := List.mem_of_getElem? (i := 577) (by decide +kernel)
theorem wm_578 : Cond.methodLink RL 75 yX6_shield ∈ wsL_law := List.mem_of_getElem? (i := 578) (by decide +kernel)
theorem wm_579 : Cond.instanceMethod yX6_shield ∈ wsL_law := List.mem_of_getElem? (i := 579) (by decide +kernel)
theorem wm_580 : Cond.selects RX6 yX6_shield yX6_shield ∈ wsL_law := List.mem_of_getElem? (i := 580) (by decide +kernel)
theorem wm_581 : Cond.code yX6_shield cX6_shield 2 (some .int) ∈ wsL_law := List.mem_of_getElem? (i := 581) (by decide +kernel)
theorem wm_582 : Cond.methodLink RX6 205 yX6_shieldOf ∈ wsL_law := List.mem_of_getElem? (i := 582) (by decide +kernel)
theorem wm_583 : Cond.instanceMethod yX6_shieldOf ∈ wsL_law := List.mem_of_getElem? (i := 583) (by decide +kernel)
theorem wm_584 : Cond.selects RX6 yX6_shieldOf yX6_shieldOf ∈ wsL_law := List.mem_of_getElem? (i := 584) (by decide +kernel)
theorem wm_585 : Cond.code yX6_shieldOf cX6_shieldOf 4 (some .int) ∈ wsL_law := List.mem_of_getElem? (i := 585) (by decide +kernel)
theorem wm_586 : Cond.methodLink RX6 202 yX6_doesStay ∈ wsL_law := List.mem_of_getElem? (i := 586) (by decide +kernel)
theorem wm_587 : Cond.instanceMethod yX6_doesStay ∈ wsL_law := List.mem_of_getElem? (i := 587) (by decide +kernel)
theorem wm_588 : Cond.selects RX6 yX6_doesStay yX6_doesStay ∈ wsL_law := List.mem_of_getElem? (i := 588) (by decide +kernel)
theorem wm_589 : Cond.code yX6_doesStay cX6_doesStay 5 (some .boolean) ∈ wsL_law := List.mem_of_getElem? (i := 589) (by decide +kernel)
theorem wm_590 : Cond.methodLink RL 76 yX5_move ∈ wsL_law := List.mem_of_getElem? (i := 590) (by decide +kernel)
theorem wm_591 : Cond.instanceMethod yX5_move ∈ wsL_law := List.mem_of_getElem? (i := 591) (by decide +kernel)
theorem wm_592 : Cond.selects RX5 yX5_move yX5_move ∈ wsL_law := List.mem_of_getElem? (i := 592) (by decide +kernel)
theorem wm_593 : Cond.code yX5_move cX5_move 6 (some .int) ∈ wsL_law := List.mem_of_getElem? (i := 593) (by decide +kernel)
theorem wm_594 : Cond.methodLink RX5 173 yX5_movesAnotherIn ∈ wsL_law := List.mem_of_getElem? (i := 594) (by decide +kernel)
theorem wm_595 : Cond.instanceMethod yX5_movesAnotherIn ∈ wsL_law := List.mem_of_getElem? (i := 595) (by decide +kernel)
theorem wm_596 : Cond.selects RX5 yX5_movesAnotherIn yX5_movesAnotherIn ∈ wsL_law := List.mem_of_getElem? (i := 596) (by decide +kernel)
theorem wm_597 : Cond.code yX5_movesAnotherIn cX5_movesAnotherIn 4 (some .boolean) ∈ wsL_law := List.mem_of_getElem? (i := 597) (by decide +kernel)
theorem wm_598 : Cond.fieldLink RX5 188 "ElectingWind$Scene" "wall" "[I" ∈ wsL_law := List.mem_of_getElem? (i := 598) (by decide +kernel)
theorem wm_599 : Cond.methodLink RX5 185 yX1_beside ∈ wsL_law := List.mem_of_getElem? (i := 599) (by decide +kernel)
theorem wm_600 : Cond.methodLink RX5 191 yX1_survey ∈ wsL_law := List.mem_of_getElem? (i := 600) (by decide +kernel)
theorem wm_601 : Cond.methodLink RX5 179 yX0_whoIsInLast ∈ wsL_law := List.mem_of_getElem? (i := 601) (by decide +kernel)
theorem wm_602 : Cond.instanceMethod yX0_whoIsInLast ∈ wsL_law := List.mem_of_getElem? (i := 602) (by decide +kernel)
theorem wm_603 : Cond.selects RX0 yX0_whoIsInLast yX0_whoIsInLast ∈ wsL_law := List.mem_of_getElem? (i := 603) (by decide +kernel)
theorem wm_604 : Cond.code yX0_whoIsInLast cX0_whoIsInLast 1 (some .int) ∈ wsL_law := List.mem_of_getElem? (i := 604) (by decide +kernel)
theorem wm_605 : Cond.methodLink RL 79 yX6_move ∈ wsL_law := List.mem_of_getElem? (i := 605) (by decide +kernel)
theorem wm_606 : Cond.instanceMethod yX6_move ∈ wsL_law := List.mem_of_getElem? (i := 606) (by decide +kernel)
theorem wm_607 : Cond.selects RX6 yX6_move yX6_move ∈ wsL_law := List.mem_of_getElem? (i := 607) (by decide +kernel)
theorem wm_608 : Cond.code yX6_move cX6_move 2 (some .int) ∈ wsL_law := List.mem_of_getElem? (i := 608) (by decide +kernel)
theorem wm_609 : Cond.methodLink RX6 211 yX6_moveOf ∈ wsL_law := List.mem_of_getElem? (i := 609) (by decide +kernel)
theorem wm_610 : Cond.instanceMethod yX6_moveOf ∈ wsL_law := List.mem_of_getElem? (i := 610) (by decide +kernel)
theorem wm_611 : Cond.selects RX6 yX6_moveOf yX6_moveOf ∈ wsL_law := List.mem_of_getElem? (i := 611) (by decide +kernel)
theorem wm_612 : Cond.code yX6_moveOf cX6_moveOf 9 (some .int) ∈ wsL_law := List.mem_of_getElem? (i := 612) (by decide +kernel)
theorem wm_613 : Cond.methodLink RX6 208 yX6_lastIn ∈ wsL_law := List.mem_of_getElem? (i := 613) (by decide +kernel)
theorem wm_614 : Cond.instanceMethod yX6_lastIn ∈ wsL_law := List.mem_of_getElem? (i := 614) (by decide +kernel)
theorem wm_615 : Cond.selects RX6 yX6_lastIn yX6_lastIn ∈ wsL_law := List.mem_of_getElem? (i := 615) (by decide +kernel)
theorem wm_616 : Cond.code yX6_lastIn cX6_lastIn 1 (some .int) ∈ wsL_law := List.mem_of_getElem? (i := 616) (by decide +kernel)
theorem wm_617 : Cond.methodLink RL 80 yX5_bribe ∈ wsL_law := List.mem_of_getElem? (i := 617) (by decide +kernel)
theorem wm_618 : Cond.instanceMethod yX5_bribe ∈ wsL_law := List.mem_of_getElem? (i := 618) (by decide +kernel)
theorem wm_619 : Cond.selects RX5 yX5_bribe yX5_bribe ∈ wsL_law := List.mem_of_getElem? (i := 619) (by decide +kernel)
theorem wm_620 : Cond.code yX5_bribe cX5_bribe 4 (some .int) ∈ wsL_law := List.mem_of_getElem? (i := 620) (by decide +kernel)
theorem wm_621 : Cond.methodLink RL 83 yX6_bribe ∈ wsL_law := List.mem_of_getElem? (i := 621) (by decide +kernel)
theorem wm_622 : Cond.instanceMethod yX6_bribe ∈ wsL_law := List.mem_of_getElem? (i := 622) (by decide +kernel)
theorem wm_623 : Cond.selects RX6 yX6_bribe yX6_bribe ∈ wsL_law := List.mem_of_getElem? (i := 623) (by decide +kernel)
theorem wm_624 : Cond.code yX6_bribe cX6_bribe 2 (some .int) ∈ wsL_law := List.mem_of_getElem? (i := 624) (by decide +kernel)
theorem wm_625 : Cond.methodLink RX6 214 yX6_bribeOf ∈ wsL_law := List.mem_of_getElem? (i := 625) (by decide +kernel)
theorem wm_626 : Cond.instanceMethod yX6_bribeOf ∈ wsL_law := List.mem_of_getElem? (i := 626) (by decide +kernel)
theorem wm_627 : Cond.selects RX6 yX6_bribeOf yX6_bribeOf ∈ wsL_law := List.mem_of_getElem? (i := 627) (by decide +kernel)
theorem wm_628 : Cond.code yX6_bribeOf cX6_bribeOf 5 (some .int) ∈ wsL_law := List.mem_of_getElem? (i := 628) (by decide +kernel)
theorem wm_629 : Cond.methodLink RL 84 yX5_seen ∈ wsL_law := List.mem_of_getElem? (i := 629) (by decide +kernel)
theorem wm_630 : Cond.instanceMethod yX5_seen ∈ wsL_law := List.mem_of_getElem? (i := 630) (by decide +kernel)
theorem wm_631 : Cond.selects RX5 yX5_seen yX5_seen ∈ wsL_law := List.mem_of_getElem? (i := 631) (by decide +kernel)
theorem wm_632 : Cond.code yX5_seen cX5_seen 3 (some .int) ∈ wsL_law := List.mem_of_getElem? (i := 632) (by decide +kernel)
theorem wm_633 : Cond.fieldLink RX5 201 "ElectingWind$Sightings" "many" "I" ∈ wsL_law := List.mem_of_getElem? (i := 633) (by decide +kernel)
theorem wm_634 : Cond.methodLink RX5 194 yX4_isSighting ∈ wsL_law := List.mem_of_getElem? (i := 634) (by decide +kernel)
theorem wm_635 : Cond.instanceMethod yX4_isSighting ∈ wsL_law := List.mem_of_getElem? (i := 635) (by decide +kernel)
theorem wm_636 : Cond.selects RX4 yX4_isSighting yX4_isSighting ∈ wsL_law := List.mem_of_getElem? (i := 636) (by decide +kernel)
theorem wm_637 : Cond.code yX4_isSighting cX4_isSighting 3 (some .boolean) ∈ wsL_law := List.mem_of_getElem? (i := 637) (by decide +kernel)
theorem wm_638 : Cond.methodLink RX5 197 yX4_isFull ∈ wsL_law := List.mem_of_getElem? (i := 638) (by decide +kernel)
theorem wm_639 : Cond.instanceMethod yX4_isFull ∈ wsL_law := List.mem_of_getElem? (i := 639) (by decide +kernel)
theorem wm_640 : Cond.selects RX4 yX4_isFull yX4_isFull ∈ wsL_law := List.mem_of_getElem? (i := 640) (by decide +kernel)
theorem wm_641 : Cond.code yX4_isFull cX4_isFull 1 (some .boolean) ∈ wsL_law := List.mem_of_getElem? (i := 641) (by decide +kernel)
theorem wm_642 : Cond.methodLink RX5 198 yX4_append ∈ wsL_law := List.mem_of_getElem? (i := 642) (by decide +kernel)
theorem wm_643 : Cond.instanceMethod yX4_append ∈ wsL_law := List.mem_of_getElem? (i := 643) (by decide +kernel)
theorem wm_644 : Cond.selects RX4 yX4_append yX4_append ∈ wsL_law := List.mem_of_getElem? (i := 644) (by decide +kernel)
theorem wm_645 : Cond.code yX4_append cX4_append 3 none ∈ wsL_law := List.mem_of_getElem? (i := 645) (by decide +kernel)
theorem wm_646 : Cond.methodLink RL 87 yX6_seen ∈ wsL_law := List.mem_of_getElem? (i := 646) (by decide +kernel)
theorem wm_647 : Cond.instanceMethod yX6_seen ∈ wsL_law := List.mem_of_getElem? (i := 647) (by decide +kernel)
theorem wm_648 : Cond.selects RX6 yX6_seen yX6_seen ∈ wsL_law := List.mem_of_getElem? (i := 648) (by decide +kernel)
theorem wm_649 : Cond.code yX6_seen cX6_seen 3 (some .int) ∈ wsL_law := List.mem_of_getElem? (i := 649) (by decide +kernel)
theorem wm_650 : Cond.fieldLink RX6 217 "ElectingWindModel" "seens" "I" ∈ wsL_law := List.mem_of_getElem? (i := 650) (by decide +kernel)
theorem wm_651 : Cond.methodLink RL 88 yX5_forget ∈ wsL_law := List.mem_of_getElem? (i := 651) (by decide +kernel)
theorem wm_652 : Cond.instanceMethod yX5_forget ∈ wsL_law := List.mem_of_getElem? (i := 652) (by decide +kernel)
theorem wm_653 : Cond.selects RX5 yX5_forget yX5_forget ∈ wsL_law := List.mem_of_getElem? (i := 653) (by decide +kernel)
theorem wm_654 : Cond.code yX5_forget cX5_forget 2 (some .int) ∈ wsL_law := List.mem_of_getElem? (i := 654) (by decide +kernel)
theorem wm_655 : Cond.methodLink RL 91 yX6_forget ∈ wsL_law := List.mem_of_getElem? (i := 655) (by decide +kernel)
theorem wm_656 : Cond.instanceMethod yX6_forget ∈ wsL_law := List.mem_of_getElem? (i := 656) (by decide +kernel)
theorem wm_657 : Cond.selects RX6 yX6_forget yX6_forget ∈ wsL_law := List.mem_of_getElem? (i := 657) (by decide +kernel)
theorem wm_658 : Cond.code yX6_forget cX6_forget 2 (some .int) ∈ wsL_law := List.mem_of_getElem? (i := 658) (by decide +kernel)
theorem wm_659 : Cond.methodLink RL 92 yX5_read ∈ wsL_law := List.mem_of_getElem? (i := 659) (by decide +kernel)
theorem wm_660 : Cond.instanceMethod yX5_read ∈ wsL_law := List.mem_of_getElem? (i := 660) (by decide +kernel)
theorem wm_661 : Cond.selects RX5 yX5_read yX5_read ∈ wsL_law := List.mem_of_getElem? (i := 661) (by decide +kernel)
theorem wm_662 : Cond.code yX5_read cX5_read 4 (some .int) ∈ wsL_law := List.mem_of_getElem? (i := 662) (by decide +kernel)
theorem wm_663 : Cond.fieldLink RX5 213 "ElectingWind$Sheet" "size" "I" ∈ wsL_law := List.mem_of_getElem? (i := 663) (by decide +kernel)
theorem wm_664 : Cond.methodLink RX5 204 yX5_isSheet ∈ wsL_law := List.mem_of_getElem? (i := 664) (by decide +kernel)
theorem wm_665 : Cond.static yX5_isSheet ∈ wsL_law := List.mem_of_getElem? (i := 665) (by decide +kernel)
theorem wm_666 : Cond.code yX5_isSheet cX5_isSheet 1 (some .boolean) ∈ wsL_law := List.mem_of_getElem? (i := 666) (by decide +kernel)
theorem wm_667 : Cond.methodLink RX5 207 yX3_isLost ∈ wsL_law := List.mem_of_getElem? (i := 667) (by decide +kernel)
theorem wm_668 : Cond.instanceMethod yX3_isLost ∈ wsL_law := List.mem_of_getElem? (i := 668) (by decide +kernel)
theorem wm_669 : Cond.selects RX3 yX3_isLost yX3_isLost ∈ wsL_law := List.mem_of_getElem? (i := 669) (by decide +kernel)
theorem wm_670 : Cond.code yX3_isLost cX3_isLost 1 (some .boolean) ∈ wsL_law := List.mem_of_getElem? (i := 670) (by decide +kernel)
theorem wm_671 : Cond.methodLink RX5 210 yX5_finding ∈ wsL_law := List.mem_of_getElem? (i := 671) (by decide +kernel)
theorem wm_672 : Cond.instanceMethod yX5_finding ∈ wsL_law := List.mem_of_getElem? (i := 672) (by decide +kernel)
theorem wm_673 : Cond.selects RX5 yX5_finding yX5_finding ∈ wsL_law := List.mem_of_getElem? (i := 673) (by decide +kernel)
theorem wm_674 : Cond.code yX5_finding cX5_finding 2 (some .int) ∈ wsL_law := List.mem_of_getElem? (i := 674) (by decide +kernel)
theorem wm_675 : Cond.methodLink RX5 216 yX3_item ∈ wsL_law := List.mem_of_getElem? (i := 675) (by decide +kernel)
theorem wm_676 : Cond.instanceMethod yX3_item ∈ wsL_law := List.mem_of_getElem? (i := 676) (by decide +kernel)
theorem wm_677 : Cond.selects RX3 yX3_item yX3_item ∈ wsL_law := List.mem_of_getElem? (i := 677) (by decide +kernel)
theorem wm_678 : Cond.code yX3_item cX3_item 2 (some .int) ∈ wsL_law := List.mem_of_getElem? (i := 678) (by decide +kernel)
theorem wm_679 : Cond.methodLink RX5 219 yX5_seen ∈ wsL_law := List.mem_of_getElem? (i := 679) (by decide +kernel)
theorem wm_680 : Cond.methodLink RL 95 yX6_read ∈ wsL_law := List.mem_of_getElem? (i := 680) (by decide +kernel)
theorem wm_681 : Cond.instanceMethod yX6_read ∈ wsL_law := List.mem_of_getElem? (i := 681) (by decide +kernel)
theorem wm_682 : Cond.selects RX6 yX6_read yX6_read ∈ wsL_law := List.mem_of_getElem? (i := 682) (by decide +kernel)
theorem wm_683 : Cond.code yX6_read cX6_read 3 (some .int) ∈ wsL_law := List.mem_of_getElem? (i := 683) (by decide +kernel)
theorem wm_684 : Cond.methodLink RX6 220 yX6_isSheet ∈ wsL_law := List.mem_of_getElem? (i := 684) (by decide +kernel)
theorem wm_685 : Cond.static yX6_isSheet ∈ wsL_law := List.mem_of_getElem? (i := 685) (by decide +kernel)
theorem wm_686 : Cond.code yX6_isSheet cX6_isSheet 1 (some .boolean) ∈ wsL_law := List.mem_of_getElem? (i := 686) (by decide +kernel)
theorem wm_687 : Cond.methodLink RX6 223 yX6_meets ∈ wsL_law := List.mem_of_getElem? (i := 687) (by decide +kernel)
theorem wm_688 : Cond.instanceMethod yX6_meets ∈ wsL_law := List.mem_of_getElem? (i := 688) (by decide +kernel)
theorem wm_689 : Cond.selects RX6 yX6_meets yX6_meets ∈ wsL_law := List.mem_of_getElem? (i := 689) (by decide +kernel)
theorem wm_690 : Cond.code yX6_meets cX6_meets 2 (some .int) ∈ wsL_law := List.mem_of_getElem? (i := 690) (by decide +kernel)
theorem wm_691 : Cond.fieldLink RX6 268 "ElectingWindModel" "finding" "I" ∈ wsL_law := List.mem_of_getElem? (i := 691) (by decide +kernel)
theorem wm_692 : Cond.methodLink RX6 226 yX6_seen ∈ wsL_law := List.mem_of_getElem? (i := 692) (by decide +kernel)
theorem wm_693 : Cond.methodLink RL 96 yX5_blew ∈ wsL_law := List.mem_of_getElem? (i := 693) (by decide +kernel)
theorem wm_694 : Cond.instanceMethod yX5_blew ∈ wsL_law := List.mem_of_getElem? (i := 694) (by decide +kernel)
theorem wm_695 : Cond.selects RX5 yX5_blew yX5_blew ∈ wsL_law := List.mem_of_getElem? (i := 695) (by decide +kernel)
theorem wm_696 : Cond.code yX5_blew cX5_blew 5 (some .int) ∈ wsL_law := List.mem_of_getElem? (i := 696) (by decide +kernel)
theorem wm_697 : Cond.methodLink RX5 222 yX5_inquire ∈ wsL_law := List.mem_of_getElem? (i := 697) (by decide +kernel)
theorem wm_698 : Cond.instanceMethod yX5_inquire ∈ wsL_law := List.mem_of_getElem? (i := 698) (by decide +kernel)
theorem wm_699 : Cond.selects RX5 yX5_inquire yX5_inquire ∈ wsL_law := List.mem_of_getElem? (i := 699) (by decide +kernel)
theorem wm_700 : Cond.code yX5_inquire cX5_inquire 3 none ∈ wsL_law := List.mem_of_getElem? (i := 700) (by decide +kernel)
theorem wm_701 : Cond.methodLink RX5 246 yJ7_fill_53178 ∈ wsL_law := List.mem_of_getElem? (i := 701) (by decide +kernel)
theorem wm_702 : Cond.methodLink RX5 252 yX0_start ∈ wsL_law := List.mem_of_getElem? (i := 702) (by decide +kernel)
theorem wm_703 : Cond.methodLink RX5 255 yX0_runOnFrom ∈ wsL_law := List.mem_of_getElem? (i := 703) (by decide +kernel)
theorem wm_704 : Cond.methodLink RX5 225 yX4_comeOutSo ∈ wsL_law := List.mem_of_getElem? (i := 704) (by decide +kernel)
theorem wm_705 : Cond.instanceMethod yX4_comeOutSo ∈ wsL_law := List.mem_of_getElem? (i := 705) (by decide +kernel)
theorem wm_706 : Cond.selects RX4 yX4_comeOutSo yX4_comeOutSo ∈ wsL_law := List.mem_of_getElem? (i := 706) (by decide +kernel)
theorem wm_707 : Cond.code yX4_comeOutSo cX4_comeOutSo 4 (some .boolean) ∈ wsL_law := List.mem_of_getElem? (i := 707) (by decide +kernel)
theorem wm_708 : Cond.fieldLink RX4 22 "ElectingWind$Course" "scene" "LElectingWind$Scene;" ∈ wsL_law := List.mem_of_getElem? (i := 708) (by decide +kernel)
theorem wm_709 : Cond.fieldLink RX4 28 "ElectingWind$Scene" "minutes" "I" ∈ wsL_law := List.mem_of_getElem? (i := 709) (by decide +kernel)
theorem wm_710 : Cond.methodLink RX4 32 yX0_whoIsIn ∈ wsL_law := List.mem_of_getElem? (i := 710) (by decide +kernel)
theorem wm_711 : Cond.methodLink RX5 258 yX5_tallyTrial ∈ wsL_law := List.mem_of_getElem? (i := 711) (by decide +kernel)
theorem wm_712 : Cond.instanceMethod yX5_tallyTrial ∈ wsL_law := List.mem_of_getElem? (i := 712) (by decide +kernel)
theorem wm_713 : Cond.selects RX5 yX5_tallyTrial yX5_tallyTrial ∈ wsL_law := List.mem_of_getElem? (i := 713) (by decide +kernel)
theorem wm_714 : Cond.code yX5_tallyTrial cX5_tallyTrial 4 none ∈ wsL_law := List.mem_of_getElem? (i := 714) (by decide +kernel)
theorem wm_715 : Cond.methodLink RL 99 yX6_blew ∈ wsL_law := List.mem_of_getElem? (i := 715) (by decide +kernel)
theorem wm_716 : Cond.instanceMethod yX6_blew ∈ wsL_law := List.mem_of_getElem? (i := 716) (by decide +kernel)
theorem wm_717 : Cond.selects RX6 yX6_blew yX6_blew ∈ wsL_law := List.mem_of_getElem? (i := 717) (by decide +kernel)
theorem wm_718 : Cond.code yX6_blew cX6_blew 3 (some .int) ∈ wsL_law := List.mem_of_getElem? (i := 718) (by decide +kernel)
theorem wm_719 : Cond.methodLink RX6 236 yX6_blewOf ∈ wsL_law := List.mem_of_getElem? (i := 719) (by decide +kernel)
theorem wm_720 : Cond.instanceMethod yX6_blewOf ∈ wsL_law := List.mem_of_getElem? (i := 720) (by decide +kernel)
theorem wm_721 : Cond.selects RX6 yX6_blewOf yX6_blewOf ∈ wsL_law := List.mem_of_getElem? (i := 721) (by decide +kernel)
theorem wm_722 : Cond.code yX6_blewOf cX6_blewOf 6 (some .int) ∈ wsL_law := List.mem_of_getElem? (i := 722) (by decide +kernel)
theorem wm_723 : Cond.methodLink RX6 233 yX6_blows ∈ wsL_law := List.mem_of_getElem? (i := 723) (by decide +kernel)
theorem wm_724 : Cond.instanceMethod yX6_blows ∈ wsL_law := List.mem_of_getElem? (i := 724) (by decide +kernel)
theorem wm_725 : Cond.selects RX6 yX6_blows yX6_blows ∈ wsL_law := List.mem_of_getElem? (i := 725) (by decide +kernel)
theorem wm_726 : Cond.code yX6_blows cX6_blows 7 (some .int) ∈ wsL_law := List.mem_of_getElem? (i := 726) (by decide +kernel)
theorem wm_727 : Cond.methodLink RX6 229 yX6_isSeen ∈ wsL_law := List.mem_of_getElem? (i := 727) (by decide +kernel)
theorem wm_728 : Cond.instanceMethod yX6_isSeen ∈ wsL_law := List.mem_of_getElem? (i := 728) (by decide +kernel)
theorem wm_729 : Cond.selects RX6 yX6_isSeen yX6_isSeen ∈ wsL_law := List.mem_of_getElem? (i := 729) (by decide +kernel)
theorem wm_730 : Cond.code yX6_isSeen cX6_isSeen 4 (some .boolean) ∈ wsL_law := List.mem_of_getElem? (i := 730) (by decide +kernel)
theorem wm_731 : Cond.methodLink RL 100 yX5_had ∈ wsL_law := List.mem_of_getElem? (i := 731) (by decide +kernel)
theorem wm_732 : Cond.instanceMethod yX5_had ∈ wsL_law := List.mem_of_getElem? (i := 732) (by decide +kernel)
theorem wm_733 : Cond.selects RX5 yX5_had yX5_had ∈ wsL_law := List.mem_of_getElem? (i := 733) (by decide +kernel)
theorem wm_734 : Cond.code yX5_had cX5_had 4 (some .int) ∈ wsL_law := List.mem_of_getElem? (i := 734) (by decide +kernel)
theorem wm_735 : Cond.methodLink RL 103 yX6_had ∈ wsL_law := List.mem_of_getElem? (i := 735) (by decide +kernel)
theorem wm_736 : Cond.instanceMethod yX6_had ∈ wsL_law := List.mem_of_getElem? (i := 736) (by decide +kernel)
theorem wm_737 : Cond.selects RX6 yX6_had yX6_had ∈ wsL_law := List.mem_of_getElem? (i := 737) (by decide +kernel)
theorem wm_738 : Cond.code yX6_had cX6_had 2 (some .int) ∈ wsL_law := List.mem_of_getElem? (i := 738) (by decide +kernel)
theorem wm_739 : Cond.methodLink RX6 239 yX6_hadOf ∈ wsL_law := List.mem_of_getElem? (i := 739) (by decide +kernel)
theorem wm_740 : Cond.instanceMethod yX6_hadOf ∈ wsL_law := List.mem_of_getElem? (i := 740) (by decide +kernel)
theorem wm_741 : Cond.selects RX6 yX6_hadOf yX6_hadOf ∈ wsL_law := List.mem_of_getElem? (i := 741) (by decide +kernel)
theorem wm_742 : Cond.code yX6_hadOf cX6_hadOf 5 (some .int) ∈ wsL_law := List.mem_of_getElem? (i := 742) (by decide +kernel)
theorem wm_743 : Cond.methodLink RL 104 yX5_ask ∈ wsL_law := List.mem_of_getElem? (i := 743) (by decide +kernel)
theorem wm_744 : Cond.instanceMethod yX5_ask ∈ wsL_law := List.mem_of_getElem? (i := 744) (by decide +kernel)
theorem wm_745 : Cond.selects RX5 yX5_ask yX5_ask ∈ wsL_law := List.mem_of_getElem? (i := 745) (by decide +kernel)
theorem wm_746 : Cond.code yX5_ask cX5_ask 4 (some .int) ∈ wsL_law := List.mem_of_getElem? (i := 746) (by decide +kernel)
theorem wm_747 : Cond.methodLink RX5 229 yX5_greatestTally ∈ wsL_law := List.mem_of_getElem? (i := 747) (by decide +kernel)
theorem wm_748 : Cond.instanceMethod yX5_greatestTally ∈ wsL_law := List.mem_of_getElem? (i := 748) (by decide +kernel)
theorem wm_749 : Cond.selects RX5 yX5_greatestTally yX5_greatestTally ∈ wsL_law := List.mem_of_getElem? (i := 749) (by decide +kernel)
theorem wm_750 : Cond.code yX5_greatestTally cX5_greatestTally 4 (some .int) ∈ wsL_law := List.mem_of_getElem? (i := 750) (by decide +kernel)
theorem wm_751 : Cond.methodLink RX5 261 Lib.Math.max.name ∈ wsL_law := List.mem_of_getElem? (i := 751) (by decide +kernel)
theorem wm_752 : Cond.methodLink RL 107 yX6_ask ∈ wsL_law := List.mem_of_getElem? (i := 752) (by decide +kernel)
theorem wm_753 : Cond.instanceMethod yX6_ask ∈ wsL_law := List.mem_of_getElem? (i := 753) (by decide +kernel)
theorem wm_754 : Cond.selects RX6 yX6_ask yX6_ask ∈ wsL_law := List.mem_of_getElem? (i := 754) (by decide +kernel)
theorem wm_755 : Cond.code yX6_ask cX6_ask 2 (some .int) ∈ wsL_law := List.mem_of_getElem? (i := 755) (by decide +kernel)
theorem wm_756 : Cond.methodLink RX6 242 yX6_askOf ∈ wsL_law := List.mem_of_getElem? (i := 756) (by decide +kernel)
theorem wm_757 : Cond.instanceMethod yX6_askOf ∈ wsL_law := List.mem_of_getElem? (i := 757) (by decide +kernel)
theorem wm_758 : Cond.selects RX6 yX6_askOf yX6_askOf ∈ wsL_law := List.mem_of_getElem? (i := 758) (by decide +kernel)
theorem wm_759 : Cond.code yX6_askOf cX6_askOf 10 (some .int) ∈ wsL_law := List.mem_of_getElem? (i := 759) (by decide +kernel)
theorem wm_760 : Cond.methodLink RL 108 yX5_calm ∈ wsL_law := List.mem_of_getElem? (i := 760) (by decide +kernel)
theorem wm_761 : Cond.instanceMethod yX5_calm ∈ wsL_law := List.mem_of_getElem? (i := 761) (by decide +kernel)
theorem wm_762 : Cond.selects RX5 yX5_calm yX5_calm ∈ wsL_law := List.mem_of_getElem? (i := 762) (by decide +kernel)
theorem wm_763 : Cond.code yX5_calm cX5_calm 7 (some .long) ∈ wsL_law := List.mem_of_getElem? (i := 763) (by decide +kernel)
theorem wm_764 : Cond.constantLong RX5 234 (-9223372036854775806) ∈ wsL_law := List.mem_of_getElem? (i := 764) (by decide +kernel)
theorem wm_765 : Cond.methodLink RX5 236 yX5_weighCalms ∈ wsL_law := List.mem_of_getElem? (i := 765) (by decide +kernel)
theorem wm_766 : Cond.instanceMethod yX5_weighCalms ∈ wsL_law := List.mem_of_getElem? (i := 766) (by decide +kernel)
theorem wm_767 : Cond.selects RX5 yX5_weighCalms yX5_weighCalms ∈ wsL_law := List.mem_of_getElem? (i := 767) (by decide +kernel)
theorem wm_768 : Cond.code yX5_weighCalms cX5_weighCalms 7 none ∈ wsL_law := List.mem_of_getElem? (i := 768) (by decide +kernel)
theorem wm_769 : Cond.methodLink RX5 269 Lib.Math.min.name ∈ wsL_law := List.mem_of_getElem? (i := 769) (by decide +kernel)
theorem wm_770 : Cond.methodLink RX5 266 yJ7_fill_d0a16 ∈ wsL_law := List.mem_of_getElem? (i := 770) (by decide +kernel)
theorem wm_771 : Cond.static yJ7_fill_d0a16 ∈ wsL_law := List.mem_of_getElem? (i := 771) (by decide +kernel)
theorem wm_772 : Cond.code yJ7_fill_d0a16 cJ7_fill_d0a16 5 none ∈ wsL_law := List.mem_of_getElem? (i := 772) (by decide +kernel)
theorem wm_773 : Cond.methodLink RX5 272 yX5_lowestBit ∈ wsL_law := List.mem_of_getElem? (i := 773) (by decide +kernel)
theorem wm_774 : Cond.static yX5_lowestBit ∈ wsL_law := List.mem_of_getElem? (i := 774) (by decide +kernel)
theorem wm_775 : Cond.code yX5_lowestBit cX5_lowestBit 1 (some .int) ∈ wsL_law := List.mem_of_getElem? (i := 775) (by decide +kernel)
theorem wm_776 : Cond.methodLink RX5 281 yJ6_bitCount_0f7a4 ∈ wsL_law := List.mem_of_getElem? (i := 776) (by decide +kernel)
theorem wm_777 : Cond.static yJ6_bitCount_0f7a4 ∈ wsL_law := List.mem_of_getElem? (i := 777) (by decide +kernel)
theorem wm_778 : Cond.initialized RJ6 ∈ wsL_law := List.mem_of_getElem? (i := 778) (by decide +kernel)
theorem wm_779 : Cond.code yJ6_bitCount_0f7a4 cJ6_bitCount_0f7a4 1 (some .int) ∈ wsL_law := List.mem_of_getElem? (i := 779) (by decide +kernel)
theorem wm_780 : Cond.constant RJ6 265 (1431655765) ∈ wsL_law := List.mem_of_getElem? (i := 780) (by decide +kernel)
theorem wm_781 : Cond.constant RJ6 266 (858993459) ∈ wsL_law := List.mem_of_getElem? (i := 781) (by decide +kernel)
theorem wm_782 : Cond.constant RJ6 267 (252645135) ∈ wsL_law := List.mem_of_getElem? (i := 782) (by decide +kernel)
theorem wm_783 : Cond.methodLink RX5 275 yX0_pass ∈ wsL_law := List.mem_of_getElem? (i := 783) (by decide +kernel)
theorem wm_784 : Cond.methodLink RX5 278 yX0_end ∈ wsL_law := List.mem_of_getElem? (i := 784) (by decide +kernel)
theorem wm_785 : Cond.methodLink RL 112 yX6_calm ∈ wsL_law := List.mem_of_getElem? (i := 785) (by decide +kernel)
theorem wm_786 : Cond.instanceMethod yX6_calm ∈ wsL_law := List.mem_of_getElem? (i := 786) (by decide +kernel)
theorem wm_787 : Cond.selects RX6 yX6_calm yX6_calm ∈ wsL_law := List.mem_of_getElem? (i := 787) (by decide +kernel)
theorem wm_788 : Cond.code yX6_calm cX6_calm 4 (some .long) ∈ wsL_law := List.mem_of_getElem? (i := 788) (by decide +kernel)
theorem wm_789 : Cond.methodLink RX6 252 yX6_calmOf ∈ wsL_law := List.mem_of_getElem? (i := 789) (by decide +kernel)
theorem wm_790 : Cond.instanceMethod yX6_calmOf ∈ wsL_law := List.mem_of_getElem? (i := 790) (by decide +kernel)
theorem wm_791 : Cond.selects RX6 yX6_calmOf yX6_calmOf ∈ wsL_law := List.mem_of_getElem? (i := 791) (by decide +kernel)
theorem wm_792 : Cond.code yX6_calmOf cX6_calmOf 10 (some .long) ∈ wsL_law := List.mem_of_getElem? (i := 792) (by decide +kernel)
theorem wm_793 : Cond.methodLink RX6 245 yX6_isIn ∈ wsL_law := List.mem_of_getElem? (i := 793) (by decide +kernel)
theorem wm_794 : Cond.static yX6_isIn ∈ wsL_law := List.mem_of_getElem? (i := 794) (by decide +kernel)
theorem wm_795 : Cond.code yX6_isIn cX6_isIn 2 (some .boolean) ∈ wsL_law := List.mem_of_getElem? (i := 795) (by decide +kernel)
theorem wm_796 : Cond.methodLink RX6 248 yX6_lowest ∈ wsL_law := List.mem_of_getElem? (i := 796) (by decide +kernel)
theorem wm_797 : Cond.static yX6_lowest ∈ wsL_law := List.mem_of_getElem? (i := 797) (by decide +kernel)
theorem wm_798 : Cond.code yX6_lowest cX6_lowest 11 (some .long) ∈ wsL_law := List.mem_of_getElem? (i := 798) (by decide +kernel)
theorem wm_799 : Cond.methodLink RX6 256 yX6_no ∈ wsL_law := List.mem_of_getElem? (i := 799) (by decide +kernel)
theorem wm_800 : Cond.static yX6_no ∈ wsL_law := List.mem_of_getElem? (i := 800) (by decide +kernel)
theorem wm_801 : Cond.code yX6_no cX6_no 1 (some .long) ∈ wsL_law := List.mem_of_getElem? (i := 801) (by decide +kernel)
theorem wm_802 : Cond.constantLong RX6 80 (-9223372036854775808) ∈ wsL_law := List.mem_of_getElem? (i := 802) (by decide +kernel)
theorem wm_803 : Cond.methodLink RL 113 yX5_weather ∈ wsL_law := List.mem_of_getElem? (i := 803) (by decide +kernel)
theorem wm_804 : Cond.instanceMethod yX5_weather ∈ wsL_law := List.mem_of_getElem? (i := 804) (by decide +kernel)
theorem wm_805 : Cond.selects RX5 yX5_weather yX5_weather ∈ wsL_law := List.mem_of_getElem? (i := 805) (by decide +kernel)
theorem wm_806 : Cond.code yX5_weather cX5_weather 6 (some .int) ∈ wsL_law := List.mem_of_getElem? (i := 806) (by decide +kernel)
theorem wm_807 : Cond.methodLink RX5 239 yX5_nextLots ∈ wsL_law := List.mem_of_getElem? (i := 807) (by decide +kernel)
theorem wm_808 : Cond.static yX5_nextLots ∈ wsL_law := List.mem_of_getElem? (i := 808) (by decide +kernel)
theorem wm_809 : Cond.code yX5_nextLots cX5_nextLots 1 (some .int) ∈ wsL_law := List.mem_of_getElem? (i := 809) (by decide +kernel)
theorem wm_810 : Cond.constant RX5 245 (1103515245) ∈ wsL_law := List.mem_of_getElem? (i := 810) (by decide +kernel)
theorem wm_811 : Cond.methodLink RX5 242 yX0_manyTurned ∈ wsL_law := List.mem_of_getElem? (i := 811) (by decide +kernel)
theorem wm_812 : Cond.instanceMethod yX0_manyTurned ∈ wsL_law := List.mem_of_getElem? (i := 812) (by decide +kernel)
theorem wm_813 : Cond.selects RX0 yX0_manyTurned yX0_manyTurned ∈ wsL_law := List.mem_of_getElem? (i := 813) (by decide +kernel)
theorem wm_814 : Cond.code yX0_manyTurned cX0_manyTurned 2 (some .int) ∈ wsL_law := List.mem_of_getElem? (i := 814) (by decide +kernel)
theorem wm_815 : Cond.methodLink RX0 122 yJ6_bitCount_0f7a4 ∈ wsL_law := List.mem_of_getElem? (i := 815) (by decide +kernel)
theorem wm_816 : Cond.methodLink RL 117 yX6_weather ∈ wsL_law := List.mem_of_getElem? (i := 816) (by decide +kernel)
theorem wm_817 : Cond.instanceMethod yX6_weather ∈ wsL_law := List.mem_of_getElem? (i := 817) (by decide +kernel)
theorem wm_818 : Cond.selects RX6 yX6_weather yX6_weather ∈ wsL_law := List.mem_of_getElem? (i := 818) (by decide +kernel)
theorem wm_819 : Cond.code yX6_weather cX6_weather 4 (some .int) ∈ wsL_law := List.mem_of_getElem? (i := 819) (by decide +kernel)
theorem wm_820 : Cond.methodLink RX6 264 yX6_weatherOf ∈ wsL_law := List.mem_of_getElem? (i := 820) (by decide +kernel)
theorem wm_821 : Cond.instanceMethod yX6_weatherOf ∈ wsL_law := List.mem_of_getElem? (i := 821) (by decide +kernel)
theorem wm_822 : Cond.selects RX6 yX6_weatherOf yX6_weatherOf ∈ wsL_law := List.mem_of_getElem? (i := 822) (by decide +kernel)
theorem wm_823 : Cond.code yX6_weatherOf cX6_weatherOf 6 (some .int) ∈ wsL_law := List.mem_of_getElem? (i := 823) (by decide +kernel)
theorem wm_824 : Cond.constant RX6 260 (1103515245) ∈ wsL_law := List.mem_of_getElem? (i := 824) (by decide +kernel)
theorem wm_825 : Cond.methodLink RX6 261 yX6_turnedNow ∈ wsL_law := List.mem_of_getElem? (i := 825) (by decide +kernel)
theorem wm_826 : Cond.instanceMethod yX6_turnedNow ∈ wsL_law := List.mem_of_getElem? (i := 826) (by decide +kernel)
theorem wm_827 : Cond.selects RX6 yX6_turnedNow yX6_turnedNow ∈ wsL_law := List.mem_of_getElem? (i := 827) (by decide +kernel)
theorem wm_828 : Cond.code yX6_turnedNow cX6_turnedNow 3 (some .int) ∈ wsL_law := List.mem_of_getElem? (i := 828) (by decide +kernel)
theorem wm_829 : Cond.methodLink RL 118 yX5_sheet ∈ wsL_law := List.mem_of_getElem? (i := 829) (by decide +kernel)
theorem wm_830 : Cond.instanceMethod yX5_sheet ∈ wsL_law := List.mem_of_getElem? (i := 830) (by decide +kernel)
theorem wm_831 : Cond.selects RX5 yX5_sheet yX5_sheet ∈ wsL_law := List.mem_of_getElem? (i := 831) (by decide +kernel)
theorem wm_832 : Cond.code yX5_sheet cX5_sheet 4 (some .int) ∈ wsL_law := List.mem_of_getElem? (i := 832) (by decide +kernel)
theorem wm_833 : Cond.methodLink RX5 286 yX5_isForm ∈ wsL_law := List.mem_of_getElem? (i := 833) (by decide +kernel)
theorem wm_834 : Cond.static yX5_isForm ∈ wsL_law := List.mem_of_getElem? (i := 834) (by decide +kernel)
theorem wm_835 : Cond.code yX5_isForm cX5_isForm 1 (some .boolean) ∈ wsL_law := List.mem_of_getElem? (i := 835) (by decide +kernel)
theorem wm_836 : Cond.methodLink RX5 289 yX3_renew ∈ wsL_law := List.mem_of_getElem? (i := 836) (by decide +kernel)
theorem wm_837 : Cond.instanceMethod yX3_renew ∈ wsL_law := List.mem_of_getElem? (i := 837) (by decide +kernel)
theorem wm_838 : Cond.selects RX3 yX3_renew yX3_renew ∈ wsL_law := List.mem_of_getElem? (i := 838) (by decide +kernel)
theorem wm_839 : Cond.code yX3_renew cX3_renew 3 none ∈ wsL_law := List.mem_of_getElem? (i := 839) (by decide +kernel)
theorem wm_840 : Cond.methodLink RX3 22 Lib.Math.min.name ∈ wsL_law := List.mem_of_getElem? (i := 840) (by decide +kernel)
theorem wm_841 : Cond.methodLink RX3 28 Lib.Math.max.name ∈ wsL_law := List.mem_of_getElem? (i := 841) (by decide +kernel)
theorem wm_842 : Cond.methodLink RX3 31 yJ7_fill_53178 ∈ wsL_law := List.mem_of_getElem? (i := 842) (by decide +kernel)
theorem wm_843 : Cond.methodLink RL 121 yX6_sheet ∈ wsL_law := List.mem_of_getElem? (i := 843) (by decide +kernel)
theorem wm_844 : Cond.instanceMethod yX6_sheet ∈ wsL_law := List.mem_of_getElem? (i := 844) (by decide +kernel)
theorem wm_845 : Cond.selects RX6 yX6_sheet yX6_sheet ∈ wsL_law := List.mem_of_getElem? (i := 845) (by decide +kernel)
theorem wm_846 : Cond.code yX6_sheet cX6_sheet 5 (some .int) ∈ wsL_law := List.mem_of_getElem? (i := 846) (by decide +kernel)
theorem wm_847 : Cond.methodLink RL 122 yX5_lose ∈ wsL_law := List.mem_of_getElem? (i := 847) (by decide +kernel)
theorem wm_848 : Cond.instanceMethod yX5_lose ∈ wsL_law := List.mem_of_getElem? (i := 848) (by decide +kernel)
theorem wm_849 : Cond.selects RX5 yX5_lose yX5_lose ∈ wsL_law := List.mem_of_getElem? (i := 849) (by decide +kernel)
theorem wm_850 : Cond.code yX5_lose cX5_lose 3 (some .int) ∈ wsL_law := List.mem_of_getElem? (i := 850) (by decide +kernel)
theorem wm_851 : Cond.methodLink RX5 292 yX3_discard ∈ wsL_law := List.mem_of_getElem? (i := 851) (by decide +kernel)
theorem wm_852 : Cond.instanceMethod yX3_discard ∈ wsL_law := List.mem_of_getElem? (i := 852) (by decide +kernel)
theorem wm_853 : Cond.selects RX3 yX3_discard yX3_discard ∈ wsL_law := List.mem_of_getElem? (i := 853) (by decide +kernel)
theorem wm_854 : Cond.code yX3_discard cX3_discard 1 none ∈ wsL_law := List.mem_of_getElem? (i := 854) (by decide +kernel)
theorem wm_855 : Cond.methodLink RL 125 yX6_lose ∈ wsL_law := List.mem_of_getElem? (i := 855) (by decide +kernel)
theorem wm_856 : Cond.instanceMethod yX6_lose ∈ wsL_law := List.mem_of_getElem? (i := 856) (by decide +kernel)
theorem wm_857 : Cond.selects RX6 yX6_lose yX6_lose ∈ wsL_law := List.mem_of_getElem? (i := 857) (by decide +kernel)
theorem wm_858 : Cond.code yX6_lose cX6_lose 2 (some .int) ∈ wsL_law := List.mem_of_getElem? (i := 858) (by decide +kernel)
theorem wm_859 : Cond.methodLink RL 126 yX5_put ∈ wsL_law := List.mem_of_getElem? (i := 859) (by decide +kernel)
theorem wm_860 : Cond.instanceMethod yX5_put ∈ wsL_law := List.mem_of_getElem? (i := 860) (by decide +kernel)
theorem wm_861 : Cond.selects RX5 yX5_put yX5_put ∈ wsL_law := List.mem_of_getElem? (i := 861) (by decide +kernel)
theorem wm_862 : Cond.code yX5_put cX5_put 6 (some .int) ∈ wsL_law := List.mem_of_getElem? (i := 862) (by decide +kernel)
theorem wm_863 : Cond.methodLink RX5 295 yX3_hindrance ∈ wsL_law := List.mem_of_getElem? (i := 863) (by decide +kernel)
theorem wm_864 : Cond.instanceMethod yX3_hindrance ∈ wsL_law := List.mem_of_getElem? (i := 864) (by decide +kernel)
theorem wm_865 : Cond.selects RX3 yX3_hindrance yX3_hindrance ∈ wsL_law := List.mem_of_getElem? (i := 865) (by decide +kernel)
theorem wm_866 : Cond.code yX3_hindrance cX3_hindrance 3 (some .int) ∈ wsL_law := List.mem_of_getElem? (i := 866) (by decide +kernel)
theorem wm_867 : Cond.methodLink RX3 37 yX3_isLost ∈ wsL_law := List.mem_of_getElem? (i := 867) (by decide +kernel)
theorem wm_868 : Cond.methodLink RX5 298 yX3_setItem ∈ wsL_law := List.mem_of_getElem? (i := 868) (by decide +kernel)
theorem wm_869 : Cond.instanceMethod yX3_setItem ∈ wsL_law := List.mem_of_getElem? (i := 869) (by decide +kernel)
theorem wm_870 : Cond.selects RX3 yX3_setItem yX3_setItem ∈ wsL_law := List.mem_of_getElem? (i := 870) (by decide +kernel)
theorem wm_871 : Cond.code yX3_setItem cX3_setItem 3 none ∈ wsL_law := List.mem_of_getElem? (i := 871) (by decide +kernel)
theorem wm_872 : Cond.methodLink RL 130 yX6_put ∈ wsL_law := List.mem_of_getElem? (i := 872) (by decide +kernel)
theorem wm_873 : Cond.instanceMethod yX6_put ∈ wsL_law := List.mem_of_getElem? (i := 873) (by decide +kernel)
theorem wm_874 : Cond.selects RX6 yX6_put yX6_put ∈ wsL_law := List.mem_of_getElem? (i := 874) (by decide +kernel)
theorem wm_875 : Cond.code yX6_put cX6_put 6 (some .int) ∈ wsL_law := List.mem_of_getElem? (i := 875) (by decide +kernel)
theorem wm_876 : Cond.methodLink RX6 271 yX6_lacks ∈ wsL_law := List.mem_of_getElem? (i := 876) (by decide +kernel)
theorem wm_877 : Cond.instanceMethod yX6_lacks ∈ wsL_law := List.mem_of_getElem? (i := 877) (by decide +kernel)
theorem wm_878 : Cond.selects RX6 yX6_lacks yX6_lacks ∈ wsL_law := List.mem_of_getElem? (i := 878) (by decide +kernel)
theorem wm_879 : Cond.code yX6_lacks cX6_lacks 4 (some .int) ∈ wsL_law := List.mem_of_getElem? (i := 879) (by decide +kernel)
theorem wm_880 : Cond.methodLink RX6 274 yX6_keep ∈ wsL_law := List.mem_of_getElem? (i := 880) (by decide +kernel)
theorem wm_881 : Cond.instanceMethod yX6_keep ∈ wsL_law := List.mem_of_getElem? (i := 881) (by decide +kernel)
theorem wm_882 : Cond.selects RX6 yX6_keep yX6_keep ∈ wsL_law := List.mem_of_getElem? (i := 882) (by decide +kernel)
theorem wm_883 : Cond.code yX6_keep cX6_keep 4 none ∈ wsL_law := List.mem_of_getElem? (i := 883) (by decide +kernel)
theorem wm_884 : Cond.methodLink RL 131 yX5_get ∈ wsL_law := List.mem_of_getElem? (i := 884) (by decide +kernel)
theorem wm_885 : Cond.instanceMethod yX5_get ∈ wsL_law := List.mem_of_getElem? (i := 885) (by decide +kernel)
theorem wm_886 : Cond.selects RX5 yX5_get yX5_get ∈ wsL_law := List.mem_of_getElem? (i := 886) (by decide +kernel)
theorem wm_887 : Cond.code yX5_get cX5_get 5 (some .int) ∈ wsL_law := List.mem_of_getElem? (i := 887) (by decide +kernel)
theorem wm_888 : Cond.constant RX5 301 (-2147483648) ∈ wsL_law := List.mem_of_getElem? (i := 888) (by decide +kernel)
theorem wm_889 : Cond.methodLink RL 134 yX6_get ∈ wsL_law := List.mem_of_getElem? (i := 889) (by decide +kernel)
theorem wm_890 : Cond.instanceMethod yX6_get ∈ wsL_law := List.mem_of_getElem? (i := 890) (by decide +kernel)
theorem wm_891 : Cond.selects RX6 yX6_get yX6_get ∈ wsL_law := List.mem_of_getElem? (i := 891) (by decide +kernel)
theorem wm_892 : Cond.code yX6_get cX6_get 5 (some .int) ∈ wsL_law := List.mem_of_getElem? (i := 892) (by decide +kernel)
theorem wm_893 : Cond.constant RX6 278 (-2147483648) ∈ wsL_law := List.mem_of_getElem? (i := 893) (by decide +kernel)
theorem wm_894 : Cond.methodLink RL 135 yX5_copy ∈ wsL_law := List.mem_of_getElem? (i := 894) (by decide +kernel)
theorem wm_895 : Cond.instanceMethod yX5_copy ∈ wsL_law := List.mem_of_getElem? (i := 895) (by decide +kernel)
theorem wm_896 : Cond.selects RX5 yX5_copy yX5_copy ∈ wsL_law := List.mem_of_getElem? (i := 896) (by decide +kernel)
theorem wm_897 : Cond.code yX5_copy cX5_copy 6 (some .int) ∈ wsL_law := List.mem_of_getElem? (i := 897) (by decide +kernel)
theorem wm_898 : Cond.fieldLink RX5 302 "ElectingWind$Sheet" "form" "I" ∈ wsL_law := List.mem_of_getElem? (i := 898) (by decide +kernel)
theorem wm_899 : Cond.fieldLink RX5 308 "ElectingWind$Sheet" "items" "[I" ∈ wsL_law := List.mem_of_getElem? (i := 899) (by decide +kernel)
theorem wm_900 : Cond.methodLink RX5 311 arraycopyName ∈ wsL_law := List.mem_of_getElem? (i := 900) (by decide +kernel)
theorem wm_901 : Cond.methodLink RX5 305 yX3_hasItems ∈ wsL_law := List.mem_of_getElem? (i := 901) (by decide +kernel)
theorem wm_902 : Cond.instanceMethod yX3_hasItems ∈ wsL_law := List.mem_of_getElem? (i := 902) (by decide +kernel)
theorem wm_903 : Cond.selects RX3 yX3_hasItems yX3_hasItems ∈ wsL_law := List.mem_of_getElem? (i := 903) (by decide +kernel)
theorem wm_904 : Cond.code yX3_hasItems cX3_hasItems 3 (some .boolean) ∈ wsL_law := List.mem_of_getElem? (i := 904) (by decide +kernel)
theorem wm_905 : Cond.methodLink RL 139 yX6_copy ∈ wsL_law := List.mem_of_getElem? (i := 905) (by decide +kernel)
theorem wm_906 : Cond.instanceMethod yX6_copy ∈ wsL_law := List.mem_of_getElem? (i := 906) (by decide +kernel)
theorem wm_907 : Cond.selects RX6 yX6_copy yX6_copy ∈ wsL_law := List.mem_of_getElem? (i := 907) (by decide +kernel)
theorem wm_908 : Cond.code yX6_copy cX6_copy 7 (some .int) ∈ wsL_law := List.mem_of_getElem? (i := 908) (by decide +kernel)
theorem wm_909 : Cond.methodLink RL 140 yX5_write ∈ wsL_law := List.mem_of_getElem? (i := 909) (by decide +kernel)
theorem wm_910 : Cond.instanceMethod yX5_write ∈ wsL_law := List.mem_of_getElem? (i := 910) (by decide +kernel)
theorem wm_911 : Cond.selects RX5 yX5_write yX5_write ∈ wsL_law := List.mem_of_getElem? (i := 911) (by decide +kernel)
theorem wm_912 : Cond.code yX5_write cX5_write 5 (some .int) ∈ wsL_law := List.mem_of_getElem? (i := 912) (by decide +kernel)
theorem wm_913 : Cond.methodLink RL 143 yX6_write ∈ wsL_law := List.mem_of_getElem? (i := 913) (by decide +kernel)
theorem wm_914 : Cond.instanceMethod yX6_write ∈ wsL_law := List.mem_of_getElem? (i := 914) (by decide +kernel)
theorem wm_915 : Cond.selects RX6 yX6_write yX6_write ∈ wsL_law := List.mem_of_getElem? (i := 915) (by decide +kernel)
theorem wm_916 : Cond.code yX6_write cX6_write 4 (some .int) ∈ wsL_law := List.mem_of_getElem? (i := 916) (by decide +kernel)
theorem wm_917 : Cond.methodLink RL 144 yX5_count ∈ wsL_law := List.mem_of_getElem? (i := 917) (by decide +kernel)
theorem wm_918 : Cond.instanceMethod yX5_count ∈ wsL_law := List.mem_of_getElem? (i := 918) (by decide +kernel)
theorem wm_919 : Cond.selects RX5 yX5_count yX5_count ∈ wsL_law := List.mem_of_getElem? (i := 919) (by decide +kernel)
theorem wm_920 : Cond.code yX5_count cX5_count 2 (some .int) ∈ wsL_law := List.mem_of_getElem? (i := 920) (by decide +kernel)
theorem wm_921 : Cond.methodLink RL 147 yX6_count ∈ wsL_law := List.mem_of_getElem? (i := 921) (by decide +kernel)
theorem wm_922 : Cond.instanceMethod yX6_count ∈ wsL_law := List.mem_of_getElem? (i := 922) (by decide +kernel)
theorem wm_923 : Cond.selects RX6 yX6_count yX6_count ∈ wsL_law := List.mem_of_getElem? (i := 923) (by decide +kernel)
theorem wm_924 : Cond.code yX6_count cX6_count 2 (some .int) ∈ wsL_law := List.mem_of_getElem? (i := 924) (by decide +kernel)
theorem wm_925 : Cond.methodLink RX6 279 yX6_sumOf ∈ wsL_law := List.mem_of_getElem? (i := 925) (by decide +kernel)
theorem wm_926 : Cond.instanceMethod yX6_sumOf ∈ wsL_law := List.mem_of_getElem? (i := 926) (by decide +kernel)
theorem wm_927 : Cond.selects RX6 yX6_sumOf yX6_sumOf ∈ wsL_law := List.mem_of_getElem? (i := 927) (by decide +kernel)
theorem wm_928 : Cond.code yX6_sumOf cX6_sumOf 2 (some .int) ∈ wsL_law := List.mem_of_getElem? (i := 928) (by decide +kernel)
theorem wm_929 : Cond.methodLink RL 148 yX5_digest ∈ wsL_law := List.mem_of_getElem? (i := 929) (by decide +kernel)
theorem wm_930 : Cond.instanceMethod yX5_digest ∈ wsL_law := List.mem_of_getElem? (i := 930) (by decide +kernel)
theorem wm_931 : Cond.selects RX5 yX5_digest yX5_digest ∈ wsL_law := List.mem_of_getElem? (i := 931) (by decide +kernel)
theorem wm_932 : Cond.code yX5_digest cX5_digest 4 (some .long) ∈ wsL_law := List.mem_of_getElem? (i := 932) (by decide +kernel)
theorem wm_933 : Cond.constantLong RX5 317 (17) ∈ wsL_law := List.mem_of_getElem? (i := 933) (by decide +kernel)
theorem wm_934 : Cond.constantLong RX5 319 (31) ∈ wsL_law := List.mem_of_getElem? (i := 934) (by decide +kernel)
theorem wm_935 : Cond.methodLink RX5 321 yX5_count ∈ wsL_law := List.mem_of_getElem? (i := 935) (by decide +kernel)
theorem wm_936 : Cond.methodLink RX5 324 yX5_fault ∈ wsL_law := List.mem_of_getElem? (i := 936) (by decide +kernel)
theorem wm_937 : Cond.methodLink RX5 327 yX5_cell ∈ wsL_law := List.mem_of_getElem? (i := 937) (by decide +kernel)
theorem wm_938 : Cond.methodLink RX5 330 yX5_digestMinute ∈ wsL_law := List.mem_of_getElem? (i := 938) (by decide +kernel)
theorem wm_939 : Cond.instanceMethod yX5_digestMinute ∈ wsL_law := List.mem_of_getElem? (i := 939) (by decide +kernel)
theorem wm_940 : Cond.selects RX5 yX5_digestMinute yX5_digestMinute ∈ wsL_law := List.mem_of_getElem? (i := 940) (by decide +kernel)
theorem wm_941 : Cond.code yX5_digestMinute cX5_digestMinute 7 (some .long) ∈ wsL_law := List.mem_of_getElem? (i := 941) (by decide +kernel)
theorem wm_942 : Cond.methodLink RX5 350 yX5_gust ∈ wsL_law := List.mem_of_getElem? (i := 942) (by decide +kernel)
theorem wm_943 : Cond.methodLink RX5 353 yX5_in ∈ wsL_law := List.mem_of_getElem? (i := 943) (by decide +kernel)
theorem wm_944 : Cond.methodLink RX5 356 yX5_ask ∈ wsL_law := List.mem_of_getElem? (i := 944) (by decide +kernel)
theorem wm_945 : Cond.methodLink RX5 359 yX5_blew ∈ wsL_law := List.mem_of_getElem? (i := 945) (by decide +kernel)
theorem wm_946 : Cond.methodLink RX5 362 yX5_wind ∈ wsL_law := List.mem_of_getElem? (i := 946) (by decide +kernel)
theorem wm_947 : Cond.methodLink RX5 365 yX5_ribs ∈ wsL_law := List.mem_of_getElem? (i := 947) (by decide +kernel)
theorem wm_948 : Cond.methodLink RX5 334 yX5_digestCandidate ∈ wsL_law := List.mem_of_getElem? (i := 948) (by decide +kernel)
theorem wm_949 : Cond.instanceMethod yX5_digestCandidate ∈ wsL_law := List.mem_of_getElem? (i := 949) (by decide +kernel)
theorem wm_950 : Cond.selects RX5 yX5_digestCandidate yX5_digestCandidate ∈ wsL_law := List.mem_of_getElem? (i := 950) (by decide +kernel)
theorem wm_951 : Cond.code yX5_digestCandidate cX5_digestCandidate 7 (some .long) ∈ wsL_law := List.mem_of_getElem? (i := 951) (by decide +kernel)
theorem wm_952 : Cond.methodLink RX5 367 yX5_candidate ∈ wsL_law := List.mem_of_getElem? (i := 952) (by decide +kernel)
theorem wm_953 : Cond.methodLink RX5 370 yX5_overturns ∈ wsL_law := List.mem_of_getElem? (i := 953) (by decide +kernel)
theorem wm_954 : Cond.methodLink RX5 373 yX5_stand ∈ wsL_law := List.mem_of_getElem? (i := 954) (by decide +kernel)
theorem wm_955 : Cond.methodLink RX5 376 yX5_shield ∈ wsL_law := List.mem_of_getElem? (i := 955) (by decide +kernel)
theorem wm_956 : Cond.methodLink RX5 379 yX5_bribe ∈ wsL_law := List.mem_of_getElem? (i := 956) (by decide +kernel)
theorem wm_957 : Cond.methodLink RX5 382 yX5_had ∈ wsL_law := List.mem_of_getElem? (i := 957) (by decide +kernel)
theorem wm_958 : Cond.methodLink RX5 385 yX5_calm ∈ wsL_law := List.mem_of_getElem? (i := 958) (by decide +kernel)
theorem wm_959 : Cond.methodLink RX5 337 yX5_first ∈ wsL_law := List.mem_of_getElem? (i := 959) (by decide +kernel)
theorem wm_960 : Cond.methodLink RX5 340 yX5_lulls ∈ wsL_law := List.mem_of_getElem? (i := 960) (by decide +kernel)
theorem wm_961 : Cond.methodLink RX5 343 yX5_move ∈ wsL_law := List.mem_of_getElem? (i := 961) (by decide +kernel)
theorem wm_962 : Cond.methodLink RX5 346 yX5_weather ∈ wsL_law := List.mem_of_getElem? (i := 962) (by decide +kernel)
theorem wm_963 : Cond.methodLink RL 152 yX6_digest ∈ wsL_law := List.mem_of_getElem? (i := 963) (by decide +kernel)
theorem wm_964 : Cond.instanceMethod yX6_digest ∈ wsL_law := List.mem_of_getElem? (i := 964) (by decide +kernel)
theorem wm_965 : Cond.selects RX6 yX6_digest yX6_digest ∈ wsL_law := List.mem_of_getElem? (i := 965) (by decide +kernel)
theorem wm_966 : Cond.code yX6_digest cX6_digest 4 (some .long) ∈ wsL_law := List.mem_of_getElem? (i := 966) (by decide +kernel)
theorem wm_967 : Cond.constantLong RX6 284 (17) ∈ wsL_law := List.mem_of_getElem? (i := 967) (by decide +kernel)
theorem wm_968 : Cond.constantLong RX6 282 (31) ∈ wsL_law := List.mem_of_getElem? (i := 968) (by decide +kernel)
theorem wm_969 : Cond.methodLink RX6 286 yX6_count ∈ wsL_law := List.mem_of_getElem? (i := 969) (by decide +kernel)
theorem wm_970 : Cond.methodLink RX6 289 yX6_minuteDigest ∈ wsL_law := List.mem_of_getElem? (i := 970) (by decide +kernel)
theorem wm_971 : Cond.instanceMethod yX6_minuteDigest ∈ wsL_law := List.mem_of_getElem? (i := 971) (by decide +kernel)
theorem wm_972 : Cond.selects RX6 yX6_minuteDigest yX6_minuteDigest ∈ wsL_law := List.mem_of_getElem? (i := 972) (by decide +kernel)
theorem wm_973 : Cond.code yX6_minuteDigest cX6_minuteDigest 7 (some .long) ∈ wsL_law := List.mem_of_getElem? (i := 973) (by decide +kernel)
theorem wm_974 : Cond.methodLink RX6 293 yX6_candidateDigest ∈ wsL_law := List.mem_of_getElem? (i := 974) (by decide +kernel)
theorem wm_975 : Cond.instanceMethod yX6_candidateDigest ∈ wsL_law := List.mem_of_getElem? (i := 975) (by decide +kernel)
theorem wm_976 : Cond.selects RX6 yX6_candidateDigest yX6_candidateDigest ∈ wsL_law := List.mem_of_getElem? (i := 976) (by decide +kernel)
theorem wm_977 : Cond.code yX6_candidateDigest cX6_candidateDigest 7 (some .long) ∈ wsL_law := List.mem_of_getElem? (i := 977) (by decide +kernel)
theorem CLk0 : CLok 0 RX0 TX0 8 tyX0 := ⟨rfl, inlX0, rfl, tyX0_ok, nmX0⟩
theorem CLk1 : CLok 1 RX1 TX1 12 tyX1 := ⟨rfl, inlX1, rfl, tyX1_ok, nmX1⟩
theorem CLk2 : CLok 2 RX2 TX2 3 tyX2 := ⟨rfl, inlX2, rfl, tyX2_ok, nmX2⟩
theorem CLk3 : CLok 3 RX3 TX3 3 tyX3 := ⟨rfl, inlX3, rfl, tyX3_ok, nmX3⟩
theorem CLk4 : CLok 4 RX4 TX4 3 tyX4 := ⟨rfl, inlX4, rfl, tyX4_ok, nmX4⟩
theorem CLk5 : CLok 5 RX5 TX5 13 tyX5 := ⟨rfl, inlX5, rfl, tyX5_ok, nmX5⟩
theorem CLk6 : CLok 6 RX6 TX6 29 tyX6 := ⟨rfl, inlX6, rfl, tyX6_ok, nmX6⟩
theorem fl_RX0_12 : FLok RX0 12 0 0 := ⟨RX0, TX0, 8, tyX0, CLk0, by decide, wm_45⟩
theorem fl_RX0_18 : FLok RX0 18 0 1 := ⟨RX0, TX0, 8, tyX0, CLk0, by decide, wm_46⟩
theorem fp_RX0_18 : FPok RX0 18 0 1 .int := ⟨RX0, TX0, 8, tyX0, CLk0, by decide, wm_46, rfl, by decide +kernel⟩
theorem fl_RX0_22 : FLok RX0 22 0 2 := ⟨RX0, TX0, 8, tyX0, CLk0, by decide, wm_47⟩
theorem fl_RX0_26 : FLok RX0 26 0 3 := ⟨RX0, TX0, 8, tyX0, CLk0, by decide, wm_48⟩
theorem fl_RX0_29 : FLok RX0 29 0 4 := ⟨RX0, TX0, 8, tyX0, CLk0, by decide, wm_49⟩
theorem fl_RX0_32 : FLok RX0 32 0 5 := ⟨RX0, TX0, 8, tyX0, CLk0, by decide, wm_50⟩
theorem fl_RX0_35 : FLok RX0 35 0 6 := ⟨RX0, TX0, 8, tyX0, CLk0, by decide, wm_51⟩
theorem fl_RX0_38 : FLok RX0 38 0 7 := ⟨RX0, TX0, 8, tyX0, CLk0, by decide, wm_52⟩
theorem fl_RX0_54 : FLok RX0 54 1 2 := ⟨RX1, TX1, 12, tyX1, CLk1, by decide, wm_225⟩
theorem fp_RX0_54 : FPok RX0 54 1 2 .int := ⟨RX1, TX1, 12, tyX1, CLk1, by decide, wm_225, rfl, by decide +kernel⟩
theorem fl_RX0_73 : FLok RX0 73 1 3 := ⟨RX1, TX1, 12, tyX1, CLk1, by decide, wm_209⟩
theorem fp_RX0_73 : FPok RX0 73 1 3 .int := ⟨RX1, TX1, 12, tyX1, CLk1, by decide, wm_209, rfl, by decide +kernel⟩
theorem fl_RX0_76 : FLok RX0 76 1 9 := ⟨RX1, TX1, 12, tyX1, CLk1, by decide, wm_210⟩
theorem fl_RX0_79 : FLok RX0 79 1 10 := ⟨RX1, TX1, 12, tyX1, CLk1, by decide, wm_211⟩
theorem fl_RX0_90 : FLok RX0 90 1 11 := ⟨RX1, TX1, 12, tyX1, CLk1, by decide, wm_230⟩
theorem fl_RX0_100 : FLok RX0 100 1 1 := ⟨RX1, TX1, 12, tyX1, CLk1, by decide, wm_235⟩
theorem fp_RX0_100 : FPok RX0 100 1 1 .int := ⟨RX1, TX1, 12, tyX1, CLk1, by decide, wm_235, rfl, by decide +kernel⟩
theorem fl_RX0_103 : FLok RX0 103 1 7 := ⟨RX1, TX1, 12, tyX1, CLk1, by decide, wm_236⟩
theorem fl_RX0_106 : FLok RX0 106 1 6 := ⟨RX1, TX1, 12, tyX1, CLk1, by decide, wm_237⟩
theorem fl_RX0_109 : FLok RX0 109 1 8 := ⟨RX1, TX1, 12, tyX1, CLk1, by decide, wm_238⟩
theorem fl_RX0_112 : FLok RX0 112 1 5 := ⟨RX1, TX1, 12, tyX1, CLk1, by decide, wm_239⟩
theorem fl_RX1_9 : FLok RX1 9 1 0 := ⟨RX1, TX1, 12, tyX1, CLk1, by decide, wm_56⟩
theorem fp_RX1_9 : FPok RX1 9 1 0 .int := ⟨RX1, TX1, 12, tyX1, CLk1, by decide, wm_56, rfl, by decide +kernel⟩
theorem fl_RX1_15 : FLok RX1 15 1 1 := ⟨RX1, TX1, 12, tyX1, CLk1, by decide, wm_57⟩
theorem fp_RX1_15 : FPok RX1 15 1 1 .int := ⟨RX1, TX1, 12, tyX1, CLk1, by decide, wm_57, rfl, by decide +kernel⟩
theorem fl_RX1_18 : FLok RX1 18 1 2 := ⟨RX1, TX1, 12, tyX1, CLk1, by decide, wm_58⟩
theorem fp_RX1_18 : FPok RX1 18 1 2 .int := ⟨RX1, TX1, 12, tyX1, CLk1, by decide, wm_58, rfl, by decide +kernel⟩
theorem fl_RX1_21 : FLok RX1 21 1 3 := ⟨RX1, TX1, 12, tyX1, CLk1, by decide, wm_59⟩
theorem fp_RX1_21 : FPok RX1 21 1 3 .int := ⟨RX1, TX1, 12, tyX1, CLk1, by decide, wm_59, rfl, by decide +kernel⟩
theorem fl_RX1_24 : FLok RX1 24 1 4 := ⟨RX1, TX1, 12, tyX1, CLk1, by decide, wm_60⟩
theorem fl_RX1_28 : FLok RX1 28 1 5 := ⟨RX1, TX1, 12, tyX1, CLk1, by decide, wm_61⟩
theorem fl_RX1_31 : FLok RX1 31 1 6 := ⟨RX1, TX1, 12, tyX1, CLk1, by decide, wm_62⟩
theorem fl_RX1_34 : FLok RX1 34 1 7 := ⟨RX1, TX1, 12, tyX1, CLk1, by decide, wm_63⟩
theorem fl_RX1_37 : FLok RX1 37 1 8 := ⟨RX1, TX1, 12, tyX1, CLk1, by decide, wm_64⟩
theorem fl_RX1_40 : FLok RX1 40 1 9 := ⟨RX1, TX1, 12, tyX1, CLk1, by decide, wm_65⟩
theorem fl_RX1_43 : FLok RX1 43 1 10 := ⟨RX1, TX1, 12, tyX1, CLk1, by decide, wm_66⟩
theorem fl_RX1_46 : FLok RX1 46 1 11 := ⟨RX1, TX1, 12, tyX1, CLk1, by decide, wm_67⟩
theorem fl_RX2_9 : FLok RX2 9 2 0 := ⟨RX2, TX2, 3, tyX2, CLk2, by decide, wm_78⟩
theorem fl_RX2_15 : FLok RX2 15 2 2 := ⟨RX2, TX2, 3, tyX2, CLk2, by decide, wm_79⟩
theorem fp_RX2_15 : FPok RX2 15 2 2 .int := ⟨RX2, TX2, 3, tyX2, CLk2, by decide, wm_79, rfl, by decide +kernel⟩
theorem fl_RX2_25 : FLok RX2 25 2 1 := ⟨RX2, TX2, 3, tyX2, CLk2, by decide, wm_84⟩
theorem fl_RX3_9 : FLok RX3 9 3 0 := ⟨RX3, TX3, 3, tyX3, CLk3, by decide, wm_88⟩
theorem fp_RX3_9 : FPok RX3 9 3 0 .int := ⟨RX3, TX3, 3, tyX3, CLk3, by decide, wm_88, rfl, by decide +kernel⟩
theorem fl_RX3_15 : FLok RX3 15 3 1 := ⟨RX3, TX3, 3, tyX3, CLk3, by decide, wm_89⟩
theorem fp_RX3_15 : FPok RX3 15 3 1 .int := ⟨RX3, TX3, 3, tyX3, CLk3, by decide, wm_89, rfl, by decide +kernel⟩
theorem fl_RX3_18 : FLok RX3 18 3 2 := ⟨RX3, TX3, 3, tyX3, CLk3, by decide, wm_90⟩
theorem fl_RX4_9 : FLok RX4 9 4 0 := ⟨RX4, TX4, 3, tyX4, CLk4, by decide, wm_71⟩
theorem fp_RX4_9 : FPok RX4 9 4 0 .int := ⟨RX4, TX4, 3, tyX4, CLk4, by decide, wm_71, rfl, by decide +kernel⟩
theorem fl_RX4_15 : FLok RX4 15 4 1 := ⟨RX4, TX4, 3, tyX4, CLk4, by decide, wm_72⟩
theorem fl_RX4_19 : FLok RX4 19 4 2 := ⟨RX4, TX4, 3, tyX4, CLk4, by decide, wm_73⟩
theorem fl_RX4_22 : FLok RX4 22 0 0 := ⟨RX0, TX0, 8, tyX0, CLk0, by decide, wm_708⟩
theorem fl_RX4_28 : FLok RX4 28 1 2 := ⟨RX1, TX1, 12, tyX1, CLk1, by decide, wm_709⟩
theorem fp_RX4_28 : FPok RX4 28 1 2 .int := ⟨RX1, TX1, 12, tyX1, CLk1, by decide, wm_709, rfl, by decide +kernel⟩
theorem fl_RX5_11 : FLok RX5 11 5 0 := ⟨RX5, TX5, 13, tyX5, CLk5, by decide, wm_13⟩
theorem fl_RX5_15 : FLok RX5 15 5 1 := ⟨RX5, TX5, 13, tyX5, CLk5, by decide, wm_15⟩
theorem fl_RX5_22 : FLok RX5 22 5 2 := ⟨RX5, TX5, 13, tyX5, CLk5, by decide, wm_19⟩
theorem fl_RX5_26 : FLok RX5 26 5 3 := ⟨RX5, TX5, 13, tyX5, CLk5, by decide, wm_20⟩
theorem fl_RX5_32 : FLok RX5 32 5 4 := ⟨RX5, TX5, 13, tyX5, CLk5, by decide, wm_24⟩
theorem fl_RX5_38 : FLok RX5 38 5 5 := ⟨RX5, TX5, 13, tyX5, CLk5, by decide, wm_26⟩
theorem fl_RX5_42 : FLok RX5 42 5 6 := ⟨RX5, TX5, 13, tyX5, CLk5, by decide, wm_27⟩
theorem fp_RX5_42 : FPok RX5 42 5 6 .int := ⟨RX5, TX5, 13, tyX5, CLk5, by decide, wm_27, rfl, by decide +kernel⟩
theorem fl_RX5_46 : FLok RX5 46 5 7 := ⟨RX5, TX5, 13, tyX5, CLk5, by decide, wm_28⟩
theorem fp_RX5_46 : FPok RX5 46 5 7 .int := ⟨RX5, TX5, 13, tyX5, CLk5, by decide, wm_28, rfl, by decide +kernel⟩
theorem fl_RX5_49 : FLok RX5 49 5 8 := ⟨RX5, TX5, 13, tyX5, CLk5, by decide, wm_29⟩
theorem fp_RX5_49 : FPok RX5 49 5 8 .long := ⟨RX5, TX5, 13, tyX5, CLk5, by decide, wm_29, rfl, by decide +kernel⟩
theorem fl_RX5_53 : FLok RX5 53 5 9 := ⟨RX5, TX5, 13, tyX5, CLk5, by decide, wm_30⟩
theorem fl_RX5_56 : FLok RX5 56 5 10 := ⟨RX5, TX5, 13, tyX5, CLk5, by decide, wm_31⟩
theorem fp_RX5_56 : FPok RX5 56 5 10 .int := ⟨RX5, TX5, 13, tyX5, CLk5, by decide, wm_31, rfl, by decide +kernel⟩
theorem fl_RX5_59 : FLok RX5 59 5 11 := ⟨RX5, TX5, 13, tyX5, CLk5, by decide, wm_33⟩
theorem fl_RX5_63 : FLok RX5 63 5 12 := ⟨RX5, TX5, 13, tyX5, CLk5, by decide, wm_34⟩
theorem fl_RX5_91 : FLok RX5 91 0 0 := ⟨RX0, TX0, 8, tyX0, CLk0, by decide, wm_138⟩
theorem fl_RX5_106 : FLok RX5 106 1 7 := ⟨RX1, TX1, 12, tyX1, CLk1, by decide, wm_351⟩
theorem fl_RX5_109 : FLok RX5 109 1 8 := ⟨RX1, TX1, 12, tyX1, CLk1, by decide, wm_352⟩
theorem fl_RX5_115 : FLok RX5 115 1 9 := ⟨RX1, TX1, 12, tyX1, CLk1, by decide, wm_370⟩
theorem fl_RX5_118 : FLok RX5 118 1 10 := ⟨RX1, TX1, 12, tyX1, CLk1, by decide, wm_371⟩
theorem fl_RX5_121 : FLok RX5 121 1 11 := ⟨RX1, TX1, 12, tyX1, CLk1, by decide, wm_372⟩
theorem fl_RX5_150 : FLok RX5 150 1 2 := ⟨RX1, TX1, 12, tyX1, CLk1, by decide, wm_357⟩
theorem fp_RX5_150 : FPok RX5 150 1 2 .int := ⟨RX1, TX1, 12, tyX1, CLk1, by decide, wm_357, rfl, by decide +kernel⟩
theorem fl_RX5_157 : FLok RX5 157 1 1 := ⟨RX1, TX1, 12, tyX1, CLk1, by decide, wm_537⟩
theorem fp_RX5_157 : FPok RX5 157 1 1 .int := ⟨RX1, TX1, 12, tyX1, CLk1, by decide, wm_537, rfl, by decide +kernel⟩
theorem fl_RX5_167 : FLok RX5 167 1 3 := ⟨RX1, TX1, 12, tyX1, CLk1, by decide, wm_377⟩
theorem fp_RX5_167 : FPok RX5 167 1 3 .int := ⟨RX1, TX1, 12, tyX1, CLk1, by decide, wm_377, rfl, by decide +kernel⟩
theorem fl_RX5_188 : FLok RX5 188 1 4 := ⟨RX1, TX1, 12, tyX1, CLk1, by decide, wm_598⟩
theorem fl_RX5_201 : FLok RX5 201 4 0 := ⟨RX4, TX4, 3, tyX4, CLk4, by decide, wm_633⟩
theorem fp_RX5_201 : FPok RX5 201 4 0 .int := ⟨RX4, TX4, 3, tyX4, CLk4, by decide, wm_633, rfl, by decide +kernel⟩
theorem fl_RX5_213 : FLok RX5 213 3 1 := ⟨RX3, TX3, 3, tyX3, CLk3, by decide, wm_663⟩
theorem fp_RX5_213 : FPok RX5 213 3 1 .int := ⟨RX3, TX3, 3, tyX3, CLk3, by decide, wm_663, rfl, by decide +kernel⟩
theorem fl_RX5_302 : FLok RX5 302 3 0 := ⟨RX3, TX3, 3, tyX3, CLk3, by decide, wm_898⟩
theorem fp_RX5_302 : FPok RX5 302 3 0 .int := ⟨RX3, TX3, 3, tyX3, CLk3, by decide, wm_898, rfl, by decide +kernel⟩
theorem fl_RX5_308 : FLok RX5 308 3 2 := ⟨RX3, TX3, 3, tyX3, CLk3, by decide, wm_899⟩
theorem fl_RX6_7 : FLok RX6 7 6 0 := ⟨RX6, TX6, 29, tyX6, CLk6, by decide, wm_95⟩
theorem fl_RX6_13 : FLok RX6 13 6 1 := ⟨RX6, TX6, 29, tyX6, CLk6, by decide, wm_96⟩
theorem fl_RX6_16 : FLok RX6 16 6 4 := ⟨RX6, TX6, 29, tyX6, CLk6, by decide, wm_98⟩
theorem fl_RX6_20 : FLok RX6 20 6 6 := ⟨RX6, TX6, 29, tyX6, CLk6, by decide, wm_99⟩
theorem fl_RX6_23 : FLok RX6 23 6 7 := ⟨RX6, TX6, 29, tyX6, CLk6, by decide, wm_100⟩
theorem fl_RX6_26 : FLok RX6 26 6 9 := ⟨RX6, TX6, 29, tyX6, CLk6, by decide, wm_101⟩
theorem fl_RX6_29 : FLok RX6 29 6 10 := ⟨RX6, TX6, 29, tyX6, CLk6, by decide, wm_102⟩
theorem fl_RX6_32 : FLok RX6 32 6 11 := ⟨RX6, TX6, 29, tyX6, CLk6, by decide, wm_103⟩
theorem fl_RX6_35 : FLok RX6 35 6 12 := ⟨RX6, TX6, 29, tyX6, CLk6, by decide, wm_104⟩
theorem fl_RX6_38 : FLok RX6 38 6 13 := ⟨RX6, TX6, 29, tyX6, CLk6, by decide, wm_105⟩
theorem fl_RX6_41 : FLok RX6 41 6 14 := ⟨RX6, TX6, 29, tyX6, CLk6, by decide, wm_106⟩
theorem fl_RX6_44 : FLok RX6 44 6 15 := ⟨RX6, TX6, 29, tyX6, CLk6, by decide, wm_107⟩
theorem fl_RX6_47 : FLok RX6 47 6 16 := ⟨RX6, TX6, 29, tyX6, CLk6, by decide, wm_108⟩
theorem fl_RX6_50 : FLok RX6 50 6 18 := ⟨RX6, TX6, 29, tyX6, CLk6, by decide, wm_109⟩
theorem fl_RX6_53 : FLok RX6 53 6 19 := ⟨RX6, TX6, 29, tyX6, CLk6, by decide, wm_110⟩
theorem fl_RX6_56 : FLok RX6 56 6 20 := ⟨RX6, TX6, 29, tyX6, CLk6, by decide, wm_111⟩
theorem fl_RX6_59 : FLok RX6 59 6 21 := ⟨RX6, TX6, 29, tyX6, CLk6, by decide, wm_112⟩
theorem fl_RX6_62 : FLok RX6 62 6 22 := ⟨RX6, TX6, 29, tyX6, CLk6, by decide, wm_113⟩
theorem fl_RX6_65 : FLok RX6 65 6 23 := ⟨RX6, TX6, 29, tyX6, CLk6, by decide, wm_114⟩
theorem fl_RX6_68 : FLok RX6 68 6 24 := ⟨RX6, TX6, 29, tyX6, CLk6, by decide, wm_115⟩
theorem fl_RX6_71 : FLok RX6 71 6 25 := ⟨RX6, TX6, 29, tyX6, CLk6, by decide, wm_116⟩
theorem fl_RX6_74 : FLok RX6 74 6 26 := ⟨RX6, TX6, 29, tyX6, CLk6, by decide, wm_117⟩
theorem fl_RX6_77 : FLok RX6 77 6 27 := ⟨RX6, TX6, 29, tyX6, CLk6, by decide, wm_118⟩
theorem fl_RX6_94 : FLok RX6 94 6 3 := ⟨RX6, TX6, 29, tyX6, CLk6, by decide, wm_302⟩
theorem fp_RX6_94 : FPok RX6 94 6 3 .int := ⟨RX6, TX6, 29, tyX6, CLk6, by decide, wm_302, rfl, by decide +kernel⟩
theorem fl_RX6_98 : FLok RX6 98 6 2 := ⟨RX6, TX6, 29, tyX6, CLk6, by decide, wm_303⟩
theorem fp_RX6_98 : FPok RX6 98 6 2 .int := ⟨RX6, TX6, 29, tyX6, CLk6, by decide, wm_303, rfl, by decide +kernel⟩
theorem fl_RX6_101 : FLok RX6 101 6 5 := ⟨RX6, TX6, 29, tyX6, CLk6, by decide, wm_312⟩
theorem fp_RX6_101 : FPok RX6 101 6 5 .int := ⟨RX6, TX6, 29, tyX6, CLk6, by decide, wm_312, rfl, by decide +kernel⟩
theorem fl_RX6_112 : FLok RX6 112 6 8 := ⟨RX6, TX6, 29, tyX6, CLk6, by decide, wm_324⟩
theorem fp_RX6_112 : FPok RX6 112 6 8 .int := ⟨RX6, TX6, 29, tyX6, CLk6, by decide, wm_324, rfl, by decide +kernel⟩
theorem fl_RX6_217 : FLok RX6 217 6 17 := ⟨RX6, TX6, 29, tyX6, CLk6, by decide, wm_650⟩
theorem fp_RX6_217 : FPok RX6 217 6 17 .int := ⟨RX6, TX6, 29, tyX6, CLk6, by decide, wm_650, rfl, by decide +kernel⟩
theorem fl_RX6_268 : FLok RX6 268 6 28 := ⟨RX6, TX6, 29, tyX6, CLk6, by decide, wm_691⟩
theorem fp_RX6_268 : FPok RX6 268 6 28 .int := ⟨RX6, TX6, 29, tyX6, CLk6, by decide, wm_691, rfl, by decide +kernel⟩
def mX0_run : MI := (yX0_run, cX0_run, 1, none, 3, 79)
theorem mo_X0_run : MOv mX0_run 0 := ⟨wm_202, wm_203, wm_18, wm_204, by decide +kernel, by decide +kernel, by decide +kernel⟩
def mX0_runOnFrom : MI := (yX0_runOnFrom, cX0_runOnFrom, 3, none, 2, 57)
theorem mo_X0_runOnFrom : MOv mX0_runOnFrom 1 := ⟨wm_219, wm_220, wm_18, wm_221, by decide +kernel, by decide +kernel, by decide +kernel⟩
def mX0_runUntilTurned : MI := (yX0_runUntilTurned, cX0_runUntilTurned, 3, (some .int), 2, 57)
theorem mo_X0_runUntilTurned : MOv mX0_runUntilTurned 1 := ⟨wm_551, wm_552, wm_18, wm_553, by decide +kernel, by decide +kernel, by decide +kernel⟩
def mX0_start : MI := (yX0_start, cX0_start, 3, none, 1, 23)
theorem mo_X0_start : MOv mX0_start 0 := ⟨wm_206, wm_207, wm_18, wm_208, by decide +kernel, by decide +kernel, by decide +kernel⟩
def mX0_pass : MI := (yX0_pass, cX0_pass, 11, none, 1, 27)
theorem mo_X0_pass : MOv mX0_pass 1 := ⟨wm_227, wm_228, wm_18, wm_229, by decide +kernel, by decide +kernel, by decide +kernel⟩
def mX0_end : MI := (yX0_end, cX0_end, 1, none, 1, 27)
theorem mo_X0_end : MOv mX0_end 0 := ⟨wm_251, wm_252, wm_18, wm_253, by decide +kernel, by decide +kernel, by decide +kernel⟩
def mX0_strainOf : MI := (yX0_strainOf, cX0_strainOf, 2, (some .int), 0, 0)
theorem mo_X0_strainOf : MOs mX0_strainOf 2 := ⟨wm_241, wm_18, wm_242, by decide +kernel, by decide +kernel, by decide +kernel⟩
def mX0_elect : MI := (yX0_elect, cX0_elect, 8, none, 0, 0)
theorem mo_X0_elect : MOv mX0_elect 2 := ⟨wm_247, wm_248, wm_18, wm_249, by decide +kernel, by decide +kernel, by decide +kernel⟩
def mX0_windOn : MI := (yX0_windOn, cX0_windOn, 8, (some .int), 0, 0)
theorem mo_X0_windOn : MOv mX0_windOn 2 := ⟨wm_232, wm_233, wm_18, wm_234, by decide +kernel, by decide +kernel, by decide +kernel⟩
def mX0_has : MI := (yX0_has, cX0_has, 2, (some .boolean), 0, 0)
theorem mo_X0_has : MOs mX0_has 2 := ⟨wm_244, wm_18, wm_245, by decide +kernel, by decide +kernel, by decide +kernel⟩
def mX0_isSomewhere : MI := (yX0_isSomewhere, cX0_isSomewhere, 2, (some .boolean), 1, 21)
theorem mo_X0_isSomewhere : MOv mX0_isSomewhere 1 := ⟨wm_379, wm_380, wm_18, wm_381, by decide +kernel, by decide +kernel, by decide +kernel⟩
def mX0_isFree : MI := (yX0_isFree, cX0_isFree, 2, (some .boolean), 1, 21)
theorem mo_X0_isFree : MOv mX0_isFree 1 := ⟨wm_575, wm_576, wm_18, wm_577, by decide +kernel, by decide +kernel, by decide +kernel⟩
def mX0_isFreeFor : MI := (yX0_isFreeFor, cX0_isFreeFor, 3, (some .boolean), 1, 21)
theorem mo_X0_isFreeFor : MOv mX0_isFreeFor 2 := ⟨wm_547, wm_548, wm_18, wm_549, by decide +kernel, by decide +kernel, by decide +kernel⟩
def mX0_ribsAhead : MI := (yX0_ribsAhead, cX0_ribsAhead, 4, (some .int), 0, 0)
theorem mo_X0_ribsAhead : MOv mX0_ribsAhead 2 := ⟨wm_452, wm_453, wm_18, wm_454, by decide +kernel, by decide +kernel, by decide +kernel⟩
def mX0_turnsWhen : MI := (yX0_turnsWhen, cX0_turnsWhen, 3, (some .int), 1, 21)
theorem mo_X0_turnsWhen : MOv mX0_turnsWhen 1 := ⟨wm_468, wm_469, wm_18, wm_470, by decide +kernel, by decide +kernel, by decide +kernel⟩
def mX0_isReturned : MI := (yX0_isReturned, cX0_isReturned, 3, (some .boolean), 2, 43)
theorem mo_X0_isReturned : MOv mX0_isReturned 1 := ⟨wm_472, wm_473, wm_18, wm_474, by decide +kernel, by decide +kernel, by decide +kernel⟩
def mX0_isElected : MI := (yX0_isElected, cX0_isElected, 3, (some .boolean), 2, 43)
theorem mo_X0_isElected : MOv mX0_isElected 1 := ⟨wm_477, wm_478, wm_18, wm_479, by decide +kernel, by decide +kernel, by decide +kernel⟩
def mX0_minutesBehindWhichIn : MI := (yX0_minutesBehindWhichIn, cX0_minutesBehindWhichIn, 4, (some .int), 1, 21)
theorem mo_X0_minutesBehindWhichIn : MOv mX0_minutesBehindWhichIn 1 := ⟨wm_481, wm_482, wm_18, wm_483, by decide +kernel, by decide +kernel, by decide +kernel⟩
def mX0_whoIsIn : MI := (yX0_whoIsIn, cX0_whoIsIn, 2, (some .int), 0, 0)
theorem mo_X0_whoIsIn : MOv mX0_whoIsIn 1 := ⟨wm_485, wm_486, wm_18, wm_487, by decide +kernel, by decide +kernel, by decide +kernel⟩
def mX0_whoIsInLast : MI := (yX0_whoIsInLast, cX0_whoIsInLast, 1, (some .int), 1, 21)
theorem mo_X0_whoIsInLast : MOv mX0_whoIsInLast 0 := ⟨wm_602, wm_603, wm_18, wm_604, by decide +kernel, by decide +kernel, by decide +kernel⟩
def mX0_manyTurned : MI := (yX0_manyTurned, cX0_manyTurned, 2, (some .int), 1, 20)
theorem mo_X0_manyTurned : MOv mX0_manyTurned 0 := ⟨wm_812, wm_813, wm_18, wm_814, by decide +kernel, by decide +kernel, by decide +kernel⟩
def mX1_tellAs : MI := (yX1_tellAs, cX1_tellAs, 2, none, 1, 40)
theorem mo_X1_tellAs : MOv mX1_tellAs 1 := ⟨wm_539, wm_540, wm_44, wm_541, by decide +kernel, by decide +kernel, by decide +kernel⟩
def mX1_readCorner : MI := (yX1_readCorner, cX1_readCorner, 3, (some .int), 4, 91)
theorem mo_X1_readCorner : MOv mX1_readCorner 1 := ⟨wm_140, wm_141, wm_44, wm_142, by decide +kernel, by decide +kernel, by decide +kernel⟩
def mX1_readRows : MI := (yX1_readRows, cX1_readRows, 8, (some .int), 1, 21)
theorem mo_X1_readRows : MOv mX1_readRows 1 := ⟨wm_148, wm_149, wm_44, wm_150, by decide +kernel, by decide +kernel, by decide +kernel⟩
def mX1_addCell : MI := (yX1_addCell, cX1_addCell, 2, none, 0, 0)
theorem mo_X1_addCell : MOv mX1_addCell 1 := ⟨wm_156, wm_157, wm_44, wm_158, by decide +kernel, by decide +kernel, by decide +kernel⟩
def mX1_readGusts : MI := (yX1_readGusts, cX1_readGusts, 7, (some .int), 1, 23)
theorem mo_X1_readGusts : MOv mX1_readGusts 1 := ⟨wm_180, wm_181, wm_44, wm_182, by decide +kernel, by decide +kernel, by decide +kernel⟩
def mX1_readCandidates : MI := (yX1_readCandidates, cX1_readCandidates, 4, (some .int), 2, 46)
theorem mo_X1_readCandidates : MOv mX1_readCandidates 1 := ⟨wm_191, wm_192, wm_44, wm_193, by decide +kernel, by decide +kernel, by decide +kernel⟩
def mX1_readOfCandidate : MI := (yX1_readOfCandidate, cX1_readOfCandidate, 4, (some .boolean), 1, 23)
theorem mo_X1_readOfCandidate : MOv mX1_readOfCandidate 3 := ⟨wm_195, wm_196, wm_44, wm_197, by decide +kernel, by decide +kernel, by decide +kernel⟩
def mX1_figureOf : MI := (yX1_figureOf, cX1_figureOf, 4, (some .int), 0, 0)
theorem mo_X1_figureOf : MOs mX1_figureOf 3 := ⟨wm_188, wm_44, wm_189, by decide +kernel, by decide +kernel, by decide +kernel⟩
def mX1_wayOf : MI := (yX1_wayOf, cX1_wayOf, 1, (some .int), 0, 0)
theorem mo_X1_wayOf : MOs mX1_wayOf 1 := ⟨wm_185, wm_44, wm_186, by decide +kernel, by decide +kernel, by decide +kernel⟩
def mX1_holdOf : MI := (yX1_holdOf, cX1_holdOf, 1, (some .int), 0, 0)
theorem mo_X1_holdOf : MOs mX1_holdOf 1 := ⟨wm_199, wm_44, wm_200, by decide +kernel, by decide +kernel, by decide +kernel⟩
def mX1_isCell : MI := (yX1_isCell, cX1_isCell, 2, (some .boolean), 0, 0)
theorem mo_X1_isCell : MOv mX1_isCell 1 := ⟨wm_168, wm_169, wm_44, wm_170, by decide +kernel, by decide +kernel, by decide +kernel⟩
def mX1_isWall : MI := (yX1_isWall, cX1_isWall, 2, (some .boolean), 0, 0)
theorem mo_X1_isWall : MOv mX1_isWall 1 := ⟨wm_176, wm_177, wm_44, wm_178, by decide +kernel, by decide +kernel, by decide +kernel⟩
def mX1_beside : MI := (yX1_beside, cX1_beside, 4, (some .int), 1, 21)
theorem mo_X1_beside : MOv mX1_beside 2 := ⟨wm_164, wm_165, wm_44, wm_166, by decide +kernel, by decide +kernel, by decide +kernel⟩
def mX1_survey : MI := (yX1_survey, cX1_survey, 3, none, 3, 69)
theorem mo_X1_survey : MOv mX1_survey 0 := ⟨wm_160, wm_161, wm_44, wm_162, by decide +kernel, by decide +kernel, by decide +kernel⟩
def mX1_layOf : MI := (yX1_layOf, cX1_layOf, 6, (some .int), 2, 44)
theorem mo_X1_layOf : MOv mX1_layOf 2 := ⟨wm_172, wm_173, wm_44, wm_174, by decide +kernel, by decide +kernel, by decide +kernel⟩
def mX2_isFull : MI := (yX2_isFull, cX2_isFull, 1, (some .boolean), 0, 0)
theorem mo_X2_isFull : MOv mX2_isFull 0 := ⟨wm_127, wm_128, wm_36, wm_129, by decide +kernel, by decide +kernel, by decide +kernel⟩
def mX2_length : MI := (yX2_length, cX2_length, 1, (some .int), 0, 0)
theorem mo_X2_length : MOv mX2_length 0 := ⟨wm_144, wm_145, wm_36, wm_146, by decide +kernel, by decide +kernel, by decide +kernel⟩
def mX2_at : MI := (yX2_at, cX2_at, 2, (some .int), 0, 0)
theorem mo_X2_at : MOv mX2_at 1 := ⟨wm_152, wm_153, wm_36, wm_154, by decide +kernel, by decide +kernel, by decide +kernel⟩
def mX2_append : MI := (yX2_append, cX2_append, 2, none, 0, 0)
theorem mo_X2_append : MOv mX2_append 1 := ⟨wm_131, wm_132, wm_36, wm_133, by decide +kernel, by decide +kernel, by decide +kernel⟩
def mX2_shorten : MI := (yX2_shorten, cX2_shorten, 2, none, 1, 21)
theorem mo_X2_shorten : MOv mX2_shorten 1 := ⟨wm_270, wm_271, wm_36, wm_272, by decide +kernel, by decide +kernel, by decide +kernel⟩
def mX3_isLost : MI := (yX3_isLost, cX3_isLost, 1, (some .boolean), 0, 0)
theorem mo_X3_isLost : MOv mX3_isLost 0 := ⟨wm_668, wm_669, wm_38, wm_670, by decide +kernel, by decide +kernel, by decide +kernel⟩
def mX3_renew : MI := (yX3_renew, cX3_renew, 3, none, 1, 23)
theorem mo_X3_renew : MOv mX3_renew 2 := ⟨wm_837, wm_838, wm_38, wm_839, by decide +kernel, by decide +kernel, by decide +kernel⟩
def mX3_discard : MI := (yX3_discard, cX3_discard, 1, none, 0, 0)
theorem mo_X3_discard : MOv mX3_discard 0 := ⟨wm_852, wm_853, wm_38, wm_854, by decide +kernel, by decide +kernel, by decide +kernel⟩
def mX3_hindrance : MI := (yX3_hindrance, cX3_hindrance, 3, (some .int), 1, 20)
theorem mo_X3_hindrance : MOv mX3_hindrance 2 := ⟨wm_864, wm_865, wm_38, wm_866, by decide +kernel, by decide +kernel, by decide +kernel⟩
def mX3_hasItems : MI := (yX3_hasItems, cX3_hasItems, 3, (some .boolean), 0, 0)
theorem mo_X3_hasItems : MOv mX3_hasItems 2 := ⟨wm_902, wm_903, wm_38, wm_904, by decide +kernel, by decide +kernel, by decide +kernel⟩
def mX3_item : MI := (yX3_item, cX3_item, 2, (some .int), 0, 0)
theorem mo_X3_item : MOv mX3_item 1 := ⟨wm_676, wm_677, wm_38, wm_678, by decide +kernel, by decide +kernel, by decide +kernel⟩
def mX3_setItem : MI := (yX3_setItem, cX3_setItem, 3, none, 0, 0)
theorem mo_X3_setItem : MOv mX3_setItem 2 := ⟨wm_869, wm_870, wm_38, wm_871, by decide +kernel, by decide +kernel, by decide +kernel⟩
def mX4_isSighting : MI := (yX4_isSighting, cX4_isSighting, 3, (some .boolean), 0, 0)
theorem mo_X4_isSighting : MOv mX4_isSighting 2 := ⟨wm_635, wm_636, wm_23, wm_637, by decide +kernel, by decide +kernel, by decide +kernel⟩
def mX4_isFull : MI := (yX4_isFull, cX4_isFull, 1, (some .boolean), 0, 0)
theorem mo_X4_isFull : MOv mX4_isFull 0 := ⟨wm_639, wm_640, wm_23, wm_641, by decide +kernel, by decide +kernel, by decide +kernel⟩
def mX4_append : MI := (yX4_append, cX4_append, 3, none, 0, 0)
theorem mo_X4_append : MOv mX4_append 2 := ⟨wm_643, wm_644, wm_23, wm_645, by decide +kernel, by decide +kernel, by decide +kernel⟩
def mX4_comeOutSo : MI := (yX4_comeOutSo, cX4_comeOutSo, 4, (some .boolean), 1, 21)
theorem mo_X4_comeOutSo : MOv mX4_comeOutSo 1 := ⟨wm_705, wm_706, wm_23, wm_707, by decide +kernel, by decide +kernel, by decide +kernel⟩
def mX5_type : MI := (yX5_type, cX5_type, 3, (some .int), 6, 134)
theorem mo_X5_type : MOv mX5_type 2 := ⟨wm_120, wm_121, wm_2, wm_122, by decide +kernel, by decide +kernel, by decide +kernel⟩
def mX5_wipe : MI := (yX5_wipe, cX5_wipe, 3, (some .int), 6, 134)
theorem mo_X5_wipe : MOv mX5_wipe 1 := ⟨wm_266, wm_267, wm_2, wm_268, by decide +kernel, by decide +kernel, by decide +kernel⟩
def mX5_undo : MI := (yX5_undo, cX5_undo, 2, (some .int), 6, 134)
theorem mo_X5_undo : MOv mX5_undo 1 := ⟨wm_279, wm_280, wm_2, wm_281, by decide +kernel, by decide +kernel, by decide +kernel⟩
def mX5_fault : MI := (yX5_fault, cX5_fault, 2, (some .int), 1, 20)
theorem mo_X5_fault : MOv mX5_fault 1 := ⟨wm_287, wm_288, wm_2, wm_289, by decide +kernel, by decide +kernel, by decide +kernel⟩
def mX5_cell : MI := (yX5_cell, cX5_cell, 2, (some .int), 1, 21)
theorem mo_X5_cell : MOv mX5_cell 1 := ⟨wm_330, wm_331, wm_2, wm_332, by decide +kernel, by decide +kernel, by decide +kernel⟩
def mX5_gust : MI := (yX5_gust, cX5_gust, 3, (some .int), 1, 21)
theorem mo_X5_gust : MOv mX5_gust 2 := ⟨wm_348, wm_349, wm_2, wm_350, by decide +kernel, by decide +kernel, by decide +kernel⟩
def mX5_candidate : MI := (yX5_candidate, cX5_candidate, 3, (some .int), 2, 42)
theorem mo_X5_candidate : MOv mX5_candidate 2 := ⟨wm_367, wm_368, wm_2, wm_369, by decide +kernel, by decide +kernel, by decide +kernel⟩
def mX5_wind : MI := (yX5_wind, cX5_wind, 3, (some .int), 1, 27)
theorem mo_X5_wind : MOv mX5_wind 2 := ⟨wm_399, wm_400, wm_2, wm_401, by decide +kernel, by decide +kernel, by decide +kernel⟩
def mX5_ribs : MI := (yX5_ribs, cX5_ribs, 3, (some .int), 1, 23)
theorem mo_X5_ribs : MOv mX5_ribs 2 := ⟨wm_448, wm_449, wm_2, wm_450, by decide +kernel, by decide +kernel, by decide +kernel⟩
def mX5_overturns : MI := (yX5_overturns, cX5_overturns, 3, (some .int), 3, 65)
theorem mo_X5_overturns : MOv mX5_overturns 2 := ⟨wm_464, wm_465, wm_2, wm_466, by decide +kernel, by decide +kernel, by decide +kernel⟩
def mX5_in : MI := (yX5_in, cX5_in, 2, (some .int), 1, 21)
theorem mo_X5_in : MOv mX5_in 1 := ⟨wm_497, wm_498, wm_2, wm_499, by decide +kernel, by decide +kernel, by decide +kernel⟩
def mX5_first : MI := (yX5_first, cX5_first, 4, (some .int), 1, 21)
theorem mo_X5_first : MOv mX5_first 1 := ⟨wm_510, wm_511, wm_2, wm_512, by decide +kernel, by decide +kernel, by decide +kernel⟩
def mX5_lulls : MI := (yX5_lulls, cX5_lulls, 1, (some .int), 2, 44)
theorem mo_X5_lulls : MOv mX5_lulls 0 := ⟨wm_522, wm_523, wm_2, wm_524, by decide +kernel, by decide +kernel, by decide +kernel⟩
def mX5_stand : MI := (yX5_stand, cX5_stand, 7, (some .int), 3, 79)
theorem mo_X5_stand : MOv mX5_stand 2 := ⟨wm_534, wm_535, wm_2, wm_536, by decide +kernel, by decide +kernel, by decide +kernel⟩
def mX5_shield : MI := (yX5_shield, cX5_shield, 4, (some .int), 4, 102)
theorem mo_X5_shield : MOv mX5_shield 1 := ⟨wm_567, wm_568, wm_2, wm_569, by decide +kernel, by decide +kernel, by decide +kernel⟩
def mX5_move : MI := (yX5_move, cX5_move, 6, (some .int), 5, 122)
theorem mo_X5_move : MOv mX5_move 1 := ⟨wm_591, wm_592, wm_2, wm_593, by decide +kernel, by decide +kernel, by decide +kernel⟩
def mX5_bribe : MI := (yX5_bribe, cX5_bribe, 4, (some .int), 4, 99)
theorem mo_X5_bribe : MOv mX5_bribe 1 := ⟨wm_618, wm_619, wm_2, wm_620, by decide +kernel, by decide +kernel, by decide +kernel⟩
def mX5_placeToShield : MI := (yX5_placeToShield, cX5_placeToShield, 4, (some .int), 3, 79)
theorem mo_X5_placeToShield : MOv mX5_placeToShield 2 := ⟨wm_571, wm_572, wm_2, wm_573, by decide +kernel, by decide +kernel, by decide +kernel⟩
def mX5_movesAnotherIn : MI := (yX5_movesAnotherIn, cX5_movesAnotherIn, 4, (some .boolean), 4, 99)
theorem mo_X5_movesAnotherIn : MOv mX5_movesAnotherIn 2 := ⟨wm_595, wm_596, wm_2, wm_597, by decide +kernel, by decide +kernel, by decide +kernel⟩
def mX5_seen : MI := (yX5_seen, cX5_seen, 3, (some .int), 1, 22)
theorem mo_X5_seen : MOv mX5_seen 2 := ⟨wm_630, wm_631, wm_2, wm_632, by decide +kernel, by decide +kernel, by decide +kernel⟩
def mX5_forget : MI := (yX5_forget, cX5_forget, 2, (some .int), 0, 0)
theorem mo_X5_forget : MOv mX5_forget 0 := ⟨wm_652, wm_653, wm_2, wm_654, by decide +kernel, by decide +kernel, by decide +kernel⟩
def mX5_read : MI := (yX5_read, cX5_read, 4, (some .int), 2, 44)
theorem mo_X5_read : MOv mX5_read 1 := ⟨wm_660, wm_661, wm_2, wm_662, by decide +kernel, by decide +kernel, by decide +kernel⟩
def mX5_blew : MI := (yX5_blew, cX5_blew, 5, (some .int), 4, 101)
theorem mo_X5_blew : MOv mX5_blew 2 := ⟨wm_694, wm_695, wm_2, wm_696, by decide +kernel, by decide +kernel, by decide +kernel⟩
def mX5_had : MI := (yX5_had, cX5_had, 4, (some .int), 4, 99)
theorem mo_X5_had : MOv mX5_had 1 := ⟨wm_732, wm_733, wm_2, wm_734, by decide +kernel, by decide +kernel, by decide +kernel⟩
def mX5_ask : MI := (yX5_ask, cX5_ask, 4, (some .int), 4, 101)
theorem mo_X5_ask : MOv mX5_ask 1 := ⟨wm_744, wm_745, wm_2, wm_746, by decide +kernel, by decide +kernel, by decide +kernel⟩
def mX5_calm : MI := (yX5_calm, cX5_calm, 7, (some .long), 3, 87)
theorem mo_X5_calm : MOv mX5_calm 3 := ⟨wm_761, wm_762, wm_2, wm_763, by decide +kernel, by decide +kernel, by decide +kernel⟩
def mX5_weather : MI := (yX5_weather, cX5_weather, 6, (some .int), 4, 99)
theorem mo_X5_weather : MOv mX5_weather 3 := ⟨wm_804, wm_805, wm_2, wm_806, by decide +kernel, by decide +kernel, by decide +kernel⟩
def mX5_nextLots : MI := (yX5_nextLots, cX5_nextLots, 1, (some .int), 0, 0)
theorem mo_X5_nextLots : MOs mX5_nextLots 1 := ⟨wm_808, wm_2, wm_809, by decide +kernel, by decide +kernel, by decide +kernel⟩
def mX5_inquire : MI := (yX5_inquire, cX5_inquire, 3, none, 3, 79)
theorem mo_X5_inquire : MOv mX5_inquire 1 := ⟨wm_698, wm_699, wm_2, wm_700, by decide +kernel, by decide +kernel, by decide +kernel⟩
def mX5_tallyTrial : MI := (yX5_tallyTrial, cX5_tallyTrial, 4, none, 1, 21)
theorem mo_X5_tallyTrial : MOv mX5_tallyTrial 0 := ⟨wm_712, wm_713, wm_2, wm_714, by decide +kernel, by decide +kernel, by decide +kernel⟩
def mX5_greatestTally : MI := (yX5_greatestTally, cX5_greatestTally, 4, (some .int), 1, 21)
theorem mo_X5_greatestTally : MOv mX5_greatestTally 1 := ⟨wm_748, wm_749, wm_2, wm_750, by decide +kernel, by decide +kernel, by decide +kernel⟩
def mX5_weighCalms : MI := (yX5_weighCalms, cX5_weighCalms, 7, none, 2, 61)
theorem mo_X5_weighCalms : MOv mX5_weighCalms 1 := ⟨wm_766, wm_767, wm_2, wm_768, by decide +kernel, by decide +kernel, by decide +kernel⟩
def mX5_lowestBit : MI := (yX5_lowestBit, cX5_lowestBit, 1, (some .int), 1, 20)
theorem mo_X5_lowestBit : MOs mX5_lowestBit 1 := ⟨wm_774, wm_2, wm_775, by decide +kernel, by decide +kernel, by decide +kernel⟩
def mX5_sheet : MI := (yX5_sheet, cX5_sheet, 4, (some .int), 2, 45)
theorem mo_X5_sheet : MOv mX5_sheet 3 := ⟨wm_830, wm_831, wm_2, wm_832, by decide +kernel, by decide +kernel, by decide +kernel⟩
def mX5_lose : MI := (yX5_lose, cX5_lose, 3, (some .int), 1, 21)
theorem mo_X5_lose : MOv mX5_lose 1 := ⟨wm_848, wm_849, wm_2, wm_850, by decide +kernel, by decide +kernel, by decide +kernel⟩
def mX5_put : MI := (yX5_put, cX5_put, 6, (some .int), 2, 42)
theorem mo_X5_put : MOv mX5_put 4 := ⟨wm_860, wm_861, wm_2, wm_862, by decide +kernel, by decide +kernel, by decide +kernel⟩
def mX5_get : MI := (yX5_get, cX5_get, 5, (some .int), 2, 42)
theorem mo_X5_get : MOv mX5_get 3 := ⟨wm_885, wm_886, wm_2, wm_887, by decide +kernel, by decide +kernel, by decide +kernel⟩
def mX5_copy : MI := (yX5_copy, cX5_copy, 6, (some .int), 1, 40)
theorem mo_X5_copy : MOv mX5_copy 5 := ⟨wm_895, wm_896, wm_2, wm_897, by decide +kernel, by decide +kernel, by decide +kernel⟩
def mX5_write : MI := (yX5_write, cX5_write, 5, (some .int), 1, 27)
theorem mo_X5_write : MOv mX5_write 2 := ⟨wm_910, wm_911, wm_2, wm_912, by decide +kernel, by decide +kernel, by decide +kernel⟩
def mX5_count : MI := (yX5_count, cX5_count, 2, (some .int), 2, 41)
theorem mo_X5_count : MOv mX5_count 1 := ⟨wm_918, wm_919, wm_2, wm_920, by decide +kernel, by decide +kernel, by decide +kernel⟩
def mX5_digest : MI := (yX5_digest, cX5_digest, 4, (some .long), 6, 151)
theorem mo_X5_digest : MOv mX5_digest 0 := ⟨wm_930, wm_931, wm_2, wm_932, by decide +kernel, by decide +kernel, by decide +kernel⟩
def mX5_digestMinute : MI := (yX5_digestMinute, cX5_digestMinute, 7, (some .long), 5, 125)
theorem mo_X5_digestMinute : MOv mX5_digestMinute 2 := ⟨wm_939, wm_940, wm_2, wm_941, by decide +kernel, by decide +kernel, by decide +kernel⟩
def mX5_digestCandidate : MI := (yX5_digestCandidate, cX5_digestCandidate, 7, (some .long), 5, 125)
theorem mo_X5_digestCandidate : MOv mX5_digestCandidate 2 := ⟨wm_949, wm_950, wm_2, wm_951, by decide +kernel, by decide +kernel, by decide +kernel⟩
def mX5_isText : MI := (yX5_isText, cX5_isText, 1, (some .boolean), 0, 0)
theorem mo_X5_isText : MOs mX5_isText 1 := ⟨wm_124, wm_2, wm_125, by decide +kernel, by decide +kernel, by decide +kernel⟩
def mX5_isSheet : MI := (yX5_isSheet, cX5_isSheet, 1, (some .boolean), 0, 0)
theorem mo_X5_isSheet : MOs mX5_isSheet 1 := ⟨wm_665, wm_2, wm_666, by decide +kernel, by decide +kernel, by decide +kernel⟩
def mX5_isForm : MI := (yX5_isForm, cX5_isForm, 1, (some .boolean), 0, 0)
theorem mo_X5_isForm : MOs mX5_isForm 1 := ⟨wm_834, wm_2, wm_835, by decide +kernel, by decide +kernel, by decide +kernel⟩
def mX5_isMinute : MI := (yX5_isMinute, cX5_isMinute, 2, (some .boolean), 0, 0)
theorem mo_X5_isMinute : MOv mX5_isMinute 1 := ⟨wm_354, wm_355, wm_2, wm_356, by decide +kernel, by decide +kernel, by decide +kernel⟩
def mX5_isCandidate : MI := (yX5_isCandidate, cX5_isCandidate, 2, (some .boolean), 0, 0)
theorem mo_X5_isCandidate : MOv mX5_isCandidate 1 := ⟨wm_374, wm_375, wm_2, wm_376, by decide +kernel, by decide +kernel, by decide +kernel⟩
def mX5_finding : MI := (yX5_finding, cX5_finding, 2, (some .int), 0, 0)
theorem mo_X5_finding : MOv mX5_finding 1 := ⟨wm_672, wm_673, wm_2, wm_674, by decide +kernel, by decide +kernel, by decide +kernel⟩
def mX5_retell : MI := (yX5_retell, cX5_retell, 2, none, 5, 113)
theorem mo_X5_retell : MOv mX5_retell 1 := ⟨wm_135, wm_136, wm_2, wm_137, by decide +kernel, by decide +kernel, by decide +kernel⟩
def mX6_within : MI := (yX6_within, cX6_within, 3, (some .boolean), 0, 0)
theorem mo_X6_within : MOs mX6_within 3 := ⟨wm_263, wm_5, wm_264, by decide +kernel, by decide +kernel, by decide +kernel⟩
def mX6_isIn : MI := (yX6_isIn, cX6_isIn, 2, (some .boolean), 0, 0)
theorem mo_X6_isIn : MOs mX6_isIn 2 := ⟨wm_794, wm_5, wm_795, by decide +kernel, by decide +kernel, by decide +kernel⟩
def mX6_no : MI := (yX6_no, cX6_no, 1, (some .long), 0, 0)
theorem mo_X6_no : MOs mX6_no 1 := ⟨wm_800, wm_5, wm_801, by decide +kernel, by decide +kernel, by decide +kernel⟩
def mX6_lowest : MI := (yX6_lowest, cX6_lowest, 11, (some .long), 0, 0)
theorem mo_X6_lowest : MOs mX6_lowest 3 := ⟨wm_797, wm_5, wm_798, by decide +kernel, by decide +kernel, by decide +kernel⟩
def mX6_isText : MI := (yX6_isText, cX6_isText, 1, (some .boolean), 1, 22)
theorem mo_X6_isText : MOs mX6_isText 1 := ⟨wm_260, wm_5, wm_261, by decide +kernel, by decide +kernel, by decide +kernel⟩
def mX6_type : MI := (yX6_type, cX6_type, 3, (some .int), 2, 42)
theorem mo_X6_type : MOv mX6_type 2 := ⟨wm_256, wm_257, wm_5, wm_258, by decide +kernel, by decide +kernel, by decide +kernel⟩
def mX6_wipe : MI := (yX6_wipe, cX6_wipe, 3, (some .int), 2, 42)
theorem mo_X6_wipe : MOv mX6_wipe 1 := ⟨wm_275, wm_276, wm_5, wm_277, by decide +kernel, by decide +kernel, by decide +kernel⟩
def mX6_undo : MI := (yX6_undo, cX6_undo, 2, (some .int), 2, 42)
theorem mo_X6_undo : MOv mX6_undo 1 := ⟨wm_283, wm_284, wm_5, wm_285, by decide +kernel, by decide +kernel, by decide +kernel⟩
def mX6_byteAt : MI := (yX6_byteAt, cX6_byteAt, 3, (some .int), 0, 0)
theorem mo_X6_byteAt : MOv mX6_byteAt 2 := ⟨wm_305, wm_306, wm_5, wm_307, by decide +kernel, by decide +kernel, by decide +kernel⟩
def mX6_figureAt : MI := (yX6_figureAt, cX6_figureAt, 6, (some .int), 1, 22)
theorem mo_X6_figureAt : MOv mX6_figureAt 4 := ⟨wm_317, wm_318, wm_5, wm_319, by decide +kernel, by decide +kernel, by decide +kernel⟩
def mX6_readsCorner : MI := (yX6_readsCorner, cX6_readsCorner, 7, (some .int), 1, 22)
theorem mo_X6_readsCorner : MOv mX6_readsCorner 0 := ⟨wm_299, wm_300, wm_5, wm_301, by decide +kernel, by decide +kernel, by decide +kernel⟩
def mX6_wayOf : MI := (yX6_wayOf, cX6_wayOf, 1, (some .int), 0, 0)
theorem mo_X6_wayOf : MOs mX6_wayOf 1 := ⟨wm_314, wm_5, wm_315, by decide +kernel, by decide +kernel, by decide +kernel⟩
def mX6_readsGusts : MI := (yX6_readsGusts, cX6_readsGusts, 4, (some .int), 2, 47)
theorem mo_X6_readsGusts : MOv mX6_readsGusts 0 := ⟨wm_309, wm_310, wm_5, wm_311, by decide +kernel, by decide +kernel, by decide +kernel⟩
def mX6_readsCandidate : MI := (yX6_readsCandidate, cX6_readsCandidate, 8, (some .int), 2, 47)
theorem mo_X6_readsCandidate : MOv mX6_readsCandidate 2 := ⟨wm_326, wm_327, wm_5, wm_328, by decide +kernel, by decide +kernel, by decide +kernel⟩
def mX6_readsCandidates : MI := (yX6_readsCandidates, cX6_readsCandidates, 4, (some .int), 3, 74)
theorem mo_X6_readsCandidates : MOv mX6_readsCandidates 0 := ⟨wm_321, wm_322, wm_5, wm_323, by decide +kernel, by decide +kernel, by decide +kernel⟩
def mX6_faultOf : MI := (yX6_faultOf, cX6_faultOf, 5, (some .int), 4, 97)
theorem mo_X6_faultOf : MOv mX6_faultOf 1 := ⟨wm_295, wm_296, wm_5, wm_297, by decide +kernel, by decide +kernel, by decide +kernel⟩
def mX6_reads : MI := (yX6_reads, cX6_reads, 2, none, 5, 121)
theorem mo_X6_reads : MOv mX6_reads 0 := ⟨wm_344, wm_345, wm_5, wm_346, by decide +kernel, by decide +kernel, by decide +kernel⟩
def mX6_fault : MI := (yX6_fault, cX6_fault, 2, (some .int), 5, 121)
theorem mo_X6_fault : MOv mX6_fault 1 := ⟨wm_291, wm_292, wm_5, wm_293, by decide +kernel, by decide +kernel, by decide +kernel⟩
def mX6_isMinute : MI := (yX6_isMinute, cX6_isMinute, 2, (some .boolean), 6, 142)
theorem mo_X6_isMinute : MOv mX6_isMinute 1 := ⟨wm_363, wm_364, wm_5, wm_365, by decide +kernel, by decide +kernel, by decide +kernel⟩
def mX6_isCell : MI := (yX6_isCell, cX6_isCell, 2, (some .boolean), 6, 142)
theorem mo_X6_isCell : MOv mX6_isCell 1 := ⟨wm_340, wm_341, wm_5, wm_342, by decide +kernel, by decide +kernel, by decide +kernel⟩
def mX6_isCandidate : MI := (yX6_isCandidate, cX6_isCandidate, 2, (some .boolean), 6, 142)
theorem mo_X6_isCandidate : MOv mX6_isCandidate 1 := ⟨wm_387, wm_388, wm_5, wm_389, by decide +kernel, by decide +kernel, by decide +kernel⟩
def mX6_cell : MI := (yX6_cell, cX6_cell, 2, (some .int), 7, 163)
theorem mo_X6_cell : MOv mX6_cell 1 := ⟨wm_336, wm_337, wm_5, wm_338, by decide +kernel, by decide +kernel, by decide +kernel⟩
def mX6_gust : MI := (yX6_gust, cX6_gust, 3, (some .int), 7, 163)
theorem mo_X6_gust : MOv mX6_gust 2 := ⟨wm_359, wm_360, wm_5, wm_361, by decide +kernel, by decide +kernel, by decide +kernel⟩
def mX6_isSomewhere : MI := (yX6_isSomewhere, cX6_isSomewhere, 2, (some .boolean), 0, 0)
theorem mo_X6_isSomewhere : MOv mX6_isSomewhere 1 := ⟨wm_395, wm_396, wm_5, wm_397, by decide +kernel, by decide +kernel, by decide +kernel⟩
def mX6_candidateOf : MI := (yX6_candidateOf, cX6_candidateOf, 3, (some .int), 1, 21)
theorem mo_X6_candidateOf : MOv mX6_candidateOf 2 := ⟨wm_391, wm_392, wm_5, wm_393, by decide +kernel, by decide +kernel, by decide +kernel⟩
def mX6_candidate : MI := (yX6_candidate, cX6_candidate, 3, (some .int), 7, 163)
theorem mo_X6_candidate : MOv mX6_candidate 2 := ⟨wm_383, wm_384, wm_5, wm_385, by decide +kernel, by decide +kernel, by decide +kernel⟩
def mX6_beside : MI := (yX6_beside, cX6_beside, 4, (some .int), 1, 22)
theorem mo_X6_beside : MOv mX6_beside 2 := ⟨wm_428, wm_429, wm_5, wm_430, by decide +kernel, by decide +kernel, by decide +kernel⟩
def mX6_isWallAt : MI := (yX6_isWallAt, cX6_isWallAt, 2, (some .boolean), 0, 0)
theorem mo_X6_isWallAt : MOv mX6_isWallAt 1 := ⟨wm_432, wm_433, wm_5, wm_434, by decide +kernel, by decide +kernel, by decide +kernel⟩
def mX6_isLee : MI := (yX6_isLee, cX6_isLee, 5, (some .boolean), 0, 0)
theorem mo_X6_isLee : MOv mX6_isLee 2 := ⟨wm_436, wm_437, wm_5, wm_438, by decide +kernel, by decide +kernel, by decide +kernel⟩
def mX6_windNow : MI := (yX6_windNow, cX6_windNow, 8, (some .int), 2, 45)
theorem mo_X6_windNow : MOv mX6_windNow 2 := ⟨wm_424, wm_425, wm_5, wm_426, by decide +kernel, by decide +kernel, by decide +kernel⟩
def mX6_strain : MI := (yX6_strain, cX6_strain, 3, (some .int), 0, 0)
theorem mo_X6_strain : MOv mX6_strain 2 := ⟨wm_440, wm_441, wm_5, wm_442, by decide +kernel, by decide +kernel, by decide +kernel⟩
def mX6_elects : MI := (yX6_elects, cX6_elects, 5, none, 3, 72)
theorem mo_X6_elects : MOv mX6_elects 1 := ⟨wm_444, wm_445, wm_5, wm_446, by decide +kernel, by decide +kernel, by decide +kernel⟩
def mX6_goesBy : MI := (yX6_goesBy, cX6_goesBy, 5, none, 4, 96)
theorem mo_X6_goesBy : MOv mX6_goesBy 1 := ⟨wm_420, wm_421, wm_5, wm_422, by decide +kernel, by decide +kernel, by decide +kernel⟩
def mX6_runs : MI := (yX6_runs, cX6_runs, 2, none, 5, 120)
theorem mo_X6_runs : MOv mX6_runs 0 := ⟨wm_416, wm_417, wm_5, wm_418, by decide +kernel, by decide +kernel, by decide +kernel⟩
def mX6_runsTold : MI := (yX6_runsTold, cX6_runsTold, 1, none, 6, 142)
theorem mo_X6_runsTold : MOv mX6_runsTold 0 := ⟨wm_412, wm_413, wm_5, wm_414, by decide +kernel, by decide +kernel, by decide +kernel⟩
def mX6_windOf : MI := (yX6_windOf, cX6_windOf, 3, (some .int), 7, 162)
theorem mo_X6_windOf : MOv mX6_windOf 2 := ⟨wm_408, wm_409, wm_5, wm_410, by decide +kernel, by decide +kernel, by decide +kernel⟩
def mX6_wind : MI := (yX6_wind, cX6_wind, 3, (some .int), 8, 184)
theorem mo_X6_wind : MOv mX6_wind 2 := ⟨wm_404, wm_405, wm_5, wm_406, by decide +kernel, by decide +kernel, by decide +kernel⟩
def mX6_ribsOf : MI := (yX6_ribsOf, cX6_ribsOf, 3, (some .int), 7, 162)
theorem mo_X6_ribsOf : MOv mX6_ribsOf 2 := ⟨wm_460, wm_461, wm_5, wm_462, by decide +kernel, by decide +kernel, by decide +kernel⟩
def mX6_ribs : MI := (yX6_ribs, cX6_ribs, 3, (some .int), 8, 184)
theorem mo_X6_ribs : MOv mX6_ribs 2 := ⟨wm_456, wm_457, wm_5, wm_458, by decide +kernel, by decide +kernel, by decide +kernel⟩
def mX6_turnsOf : MI := (yX6_turnsOf, cX6_turnsOf, 5, (some .int), 7, 162)
theorem mo_X6_turnsOf : MOv mX6_turnsOf 2 := ⟨wm_493, wm_494, wm_5, wm_495, by decide +kernel, by decide +kernel, by decide +kernel⟩
def mX6_overturns : MI := (yX6_overturns, cX6_overturns, 3, (some .int), 8, 186)
theorem mo_X6_overturns : MOv mX6_overturns 2 := ⟨wm_489, wm_490, wm_5, wm_491, by decide +kernel, by decide +kernel, by decide +kernel⟩
def mX6_inOf : MI := (yX6_inOf, cX6_inOf, 2, (some .int), 7, 162)
theorem mo_X6_inOf : MOv mX6_inOf 1 := ⟨wm_506, wm_507, wm_5, wm_508, by decide +kernel, by decide +kernel, by decide +kernel⟩
def mX6_in : MI := (yX6_in, cX6_in, 2, (some .int), 8, 183)
theorem mo_X6_in : MOv mX6_in 1 := ⟨wm_502, wm_503, wm_5, wm_504, by decide +kernel, by decide +kernel, by decide +kernel⟩
def mX6_firstOf : MI := (yX6_firstOf, cX6_firstOf, 3, (some .int), 7, 162)
theorem mo_X6_firstOf : MOv mX6_firstOf 1 := ⟨wm_518, wm_519, wm_5, wm_520, by decide +kernel, by decide +kernel, by decide +kernel⟩
def mX6_first : MI := (yX6_first, cX6_first, 2, (some .int), 8, 184)
theorem mo_X6_first : MOv mX6_first 1 := ⟨wm_514, wm_515, wm_5, wm_516, by decide +kernel, by decide +kernel, by decide +kernel⟩
def mX6_lullsNow : MI := (yX6_lullsNow, cX6_lullsNow, 3, (some .int), 7, 162)
theorem mo_X6_lullsNow : MOv mX6_lullsNow 0 := ⟨wm_530, wm_531, wm_5, wm_532, by decide +kernel, by decide +kernel, by decide +kernel⟩
def mX6_lulls : MI := (yX6_lulls, cX6_lulls, 1, (some .int), 8, 184)
theorem mo_X6_lulls : MOv mX6_lulls 0 := ⟨wm_526, wm_527, wm_5, wm_528, by decide +kernel, by decide +kernel, by decide +kernel⟩
def mX6_isTaken : MI := (yX6_isTaken, cX6_isTaken, 5, (some .boolean), 0, 0)
theorem mo_X6_isTaken : MOv mX6_isTaken 2 := ⟨wm_563, wm_564, wm_5, wm_565, by decide +kernel, by decide +kernel, by decide +kernel⟩
def mX6_standOf : MI := (yX6_standOf, cX6_standOf, 8, (some .int), 6, 142)
theorem mo_X6_standOf : MOv mX6_standOf 2 := ⟨wm_559, wm_560, wm_5, wm_561, by decide +kernel, by decide +kernel, by decide +kernel⟩
def mX6_stand : MI := (yX6_stand, cX6_stand, 3, (some .int), 7, 169)
theorem mo_X6_stand : MOv mX6_stand 2 := ⟨wm_555, wm_556, wm_5, wm_557, by decide +kernel, by decide +kernel, by decide +kernel⟩
def mX6_doesStay : MI := (yX6_doesStay, cX6_doesStay, 5, (some .boolean), 6, 141)
theorem mo_X6_doesStay : MOv mX6_doesStay 3 := ⟨wm_587, wm_588, wm_5, wm_589, by decide +kernel, by decide +kernel, by decide +kernel⟩
def mX6_shieldOf : MI := (yX6_shieldOf, cX6_shieldOf, 4, (some .int), 7, 165)
theorem mo_X6_shieldOf : MOv mX6_shieldOf 1 := ⟨wm_583, wm_584, wm_5, wm_585, by decide +kernel, by decide +kernel, by decide +kernel⟩
def mX6_shield : MI := (yX6_shield, cX6_shield, 2, (some .int), 8, 188)
theorem mo_X6_shield : MOv mX6_shield 1 := ⟨wm_579, wm_580, wm_5, wm_581, by decide +kernel, by decide +kernel, by decide +kernel⟩
def mX6_lastIn : MI := (yX6_lastIn, cX6_lastIn, 1, (some .int), 0, 0)
theorem mo_X6_lastIn : MOv mX6_lastIn 0 := ⟨wm_614, wm_615, wm_5, wm_616, by decide +kernel, by decide +kernel, by decide +kernel⟩
def mX6_moveOf : MI := (yX6_moveOf, cX6_moveOf, 9, (some .int), 7, 162)
theorem mo_X6_moveOf : MOv mX6_moveOf 1 := ⟨wm_610, wm_611, wm_5, wm_612, by decide +kernel, by decide +kernel, by decide +kernel⟩
def mX6_move : MI := (yX6_move, cX6_move, 2, (some .int), 8, 190)
theorem mo_X6_move : MOv mX6_move 1 := ⟨wm_606, wm_607, wm_5, wm_608, by decide +kernel, by decide +kernel, by decide +kernel⟩
def mX6_bribeOf : MI := (yX6_bribeOf, cX6_bribeOf, 5, (some .int), 6, 142)
theorem mo_X6_bribeOf : MOv mX6_bribeOf 1 := ⟨wm_626, wm_627, wm_5, wm_628, by decide +kernel, by decide +kernel, by decide +kernel⟩
def mX6_bribe : MI := (yX6_bribe, cX6_bribe, 2, (some .int), 7, 166)
theorem mo_X6_bribe : MOv mX6_bribe 1 := ⟨wm_622, wm_623, wm_5, wm_624, by decide +kernel, by decide +kernel, by decide +kernel⟩
def mX6_seen : MI := (yX6_seen, cX6_seen, 3, (some .int), 1, 22)
theorem mo_X6_seen : MOv mX6_seen 2 := ⟨wm_647, wm_648, wm_5, wm_649, by decide +kernel, by decide +kernel, by decide +kernel⟩
def mX6_forget : MI := (yX6_forget, cX6_forget, 2, (some .int), 0, 0)
theorem mo_X6_forget : MOv mX6_forget 0 := ⟨wm_656, wm_657, wm_5, wm_658, by decide +kernel, by decide +kernel, by decide +kernel⟩
def mX6_read : MI := (yX6_read, cX6_read, 3, (some .int), 2, 44)
theorem mo_X6_read : MOv mX6_read 1 := ⟨wm_681, wm_682, wm_5, wm_683, by decide +kernel, by decide +kernel, by decide +kernel⟩
def mX6_isSeen : MI := (yX6_isSeen, cX6_isSeen, 4, (some .boolean), 6, 141)
theorem mo_X6_isSeen : MOv mX6_isSeen 0 := ⟨wm_728, wm_729, wm_5, wm_730, by decide +kernel, by decide +kernel, by decide +kernel⟩
def mX6_blows : MI := (yX6_blows, cX6_blows, 7, (some .int), 7, 164)
theorem mo_X6_blows : MOv mX6_blows 1 := ⟨wm_724, wm_725, wm_5, wm_726, by decide +kernel, by decide +kernel, by decide +kernel⟩
def mX6_blewOf : MI := (yX6_blewOf, cX6_blewOf, 6, (some .int), 8, 190)
theorem mo_X6_blewOf : MOv mX6_blewOf 2 := ⟨wm_720, wm_721, wm_5, wm_722, by decide +kernel, by decide +kernel, by decide +kernel⟩
def mX6_blew : MI := (yX6_blew, cX6_blew, 3, (some .int), 9, 215)
theorem mo_X6_blew : MOv mX6_blew 2 := ⟨wm_716, wm_717, wm_5, wm_718, by decide +kernel, by decide +kernel, by decide +kernel⟩
def mX6_hadOf : MI := (yX6_hadOf, cX6_hadOf, 5, (some .int), 7, 164)
theorem mo_X6_hadOf : MOv mX6_hadOf 1 := ⟨wm_740, wm_741, wm_5, wm_742, by decide +kernel, by decide +kernel, by decide +kernel⟩
def mX6_had : MI := (yX6_had, cX6_had, 2, (some .int), 8, 188)
theorem mo_X6_had : MOv mX6_had 1 := ⟨wm_736, wm_737, wm_5, wm_738, by decide +kernel, by decide +kernel, by decide +kernel⟩
def mX6_askOf : MI := (yX6_askOf, cX6_askOf, 10, (some .int), 8, 190)
theorem mo_X6_askOf : MOv mX6_askOf 1 := ⟨wm_757, wm_758, wm_5, wm_759, by decide +kernel, by decide +kernel, by decide +kernel⟩
def mX6_ask : MI := (yX6_ask, cX6_ask, 2, (some .int), 9, 219)
theorem mo_X6_ask : MOv mX6_ask 1 := ⟨wm_753, wm_754, wm_5, wm_755, by decide +kernel, by decide +kernel, by decide +kernel⟩
def mX6_calmOf : MI := (yX6_calmOf, cX6_calmOf, 10, (some .long), 6, 142)
theorem mo_X6_calmOf : MOv mX6_calmOf 3 := ⟨wm_790, wm_791, wm_5, wm_792, by decide +kernel, by decide +kernel, by decide +kernel⟩
def mX6_calm : MI := (yX6_calm, cX6_calm, 4, (some .long), 7, 171)
theorem mo_X6_calm : MOv mX6_calm 3 := ⟨wm_786, wm_787, wm_5, wm_788, by decide +kernel, by decide +kernel, by decide +kernel⟩
def mX6_turnedNow : MI := (yX6_turnedNow, cX6_turnedNow, 3, (some .int), 0, 0)
theorem mo_X6_turnedNow : MOv mX6_turnedNow 0 := ⟨wm_826, wm_827, wm_5, wm_828, by decide +kernel, by decide +kernel, by decide +kernel⟩
def mX6_weatherOf : MI := (yX6_weatherOf, cX6_weatherOf, 6, (some .int), 6, 142)
theorem mo_X6_weatherOf : MOv mX6_weatherOf 3 := ⟨wm_821, wm_822, wm_5, wm_823, by decide +kernel, by decide +kernel, by decide +kernel⟩
def mX6_weather : MI := (yX6_weather, cX6_weather, 4, (some .int), 7, 167)
theorem mo_X6_weather : MOv mX6_weather 3 := ⟨wm_817, wm_818, wm_5, wm_819, by decide +kernel, by decide +kernel, by decide +kernel⟩
def mX6_meets : MI := (yX6_meets, cX6_meets, 2, (some .int), 0, 0)
theorem mo_X6_meets : MOv mX6_meets 1 := ⟨wm_688, wm_689, wm_5, wm_690, by decide +kernel, by decide +kernel, by decide +kernel⟩
def mX6_isSheet : MI := (yX6_isSheet, cX6_isSheet, 1, (some .boolean), 1, 22)
theorem mo_X6_isSheet : MOs mX6_isSheet 1 := ⟨wm_685, wm_5, wm_686, by decide +kernel, by decide +kernel, by decide +kernel⟩
def mX6_sheet : MI := (yX6_sheet, cX6_sheet, 5, (some .int), 2, 42)
theorem mo_X6_sheet : MOv mX6_sheet 3 := ⟨wm_844, wm_845, wm_5, wm_846, by decide +kernel, by decide +kernel, by decide +kernel⟩
def mX6_lose : MI := (yX6_lose, cX6_lose, 2, (some .int), 2, 42)
theorem mo_X6_lose : MOv mX6_lose 1 := ⟨wm_856, wm_857, wm_5, wm_858, by decide +kernel, by decide +kernel, by decide +kernel⟩
def mX6_lacks : MI := (yX6_lacks, cX6_lacks, 4, (some .int), 1, 22)
theorem mo_X6_lacks : MOv mX6_lacks 3 := ⟨wm_877, wm_878, wm_5, wm_879, by decide +kernel, by decide +kernel, by decide +kernel⟩
def mX6_keep : MI := (yX6_keep, cX6_keep, 4, none, 0, 0)
theorem mo_X6_keep : MOv mX6_keep 3 := ⟨wm_881, wm_882, wm_5, wm_883, by decide +kernel, by decide +kernel, by decide +kernel⟩
def mX6_put : MI := (yX6_put, cX6_put, 6, (some .int), 2, 45)
theorem mo_X6_put : MOv mX6_put 4 := ⟨wm_873, wm_874, wm_5, wm_875, by decide +kernel, by decide +kernel, by decide +kernel⟩
def mX6_get : MI := (yX6_get, cX6_get, 5, (some .int), 2, 45)
theorem mo_X6_get : MOv mX6_get 3 := ⟨wm_890, wm_891, wm_5, wm_892, by decide +kernel, by decide +kernel, by decide +kernel⟩
def mX6_copy : MI := (yX6_copy, cX6_copy, 7, (some .int), 2, 42)
theorem mo_X6_copy : MOv mX6_copy 5 := ⟨wm_906, wm_907, wm_5, wm_908, by decide +kernel, by decide +kernel, by decide +kernel⟩
def mX6_write : MI := (yX6_write, cX6_write, 4, (some .int), 7, 163)
theorem mo_X6_write : MOv mX6_write 2 := ⟨wm_914, wm_915, wm_5, wm_916, by decide +kernel, by decide +kernel, by decide +kernel⟩
def mX6_sumOf : MI := (yX6_sumOf, cX6_sumOf, 2, (some .int), 7, 162)
theorem mo_X6_sumOf : MOv mX6_sumOf 1 := ⟨wm_926, wm_927, wm_5, wm_928, by decide +kernel, by decide +kernel, by decide +kernel⟩
def mX6_count : MI := (yX6_count, cX6_count, 2, (some .int), 8, 183)
theorem mo_X6_count : MOv mX6_count 1 := ⟨wm_922, wm_923, wm_5, wm_924, by decide +kernel, by decide +kernel, by decide +kernel⟩
def mX6_minuteDigest : MI := (yX6_minuteDigest, cX6_minuteDigest, 7, (some .long), 9, 219)
theorem mo_X6_minuteDigest : MOv mX6_minuteDigest 2 := ⟨wm_971, wm_972, wm_5, wm_973, by decide +kernel, by decide +kernel, by decide +kernel⟩
def mX6_candidateDigest : MI := (yX6_candidateDigest, cX6_candidateDigest, 7, (some .long), 8, 188)
theorem mo_X6_candidateDigest : MOv mX6_candidateDigest 2 := ⟨wm_975, wm_976, wm_5, wm_977, by decide +kernel, by decide +kernel, by decide +kernel⟩
def mX6_digest : MI := (yX6_digest, cX6_digest, 4, (some .long), 10, 245)
theorem mo_X6_digest : MOv mX6_digest 0 := ⟨wm_964, wm_965, wm_5, wm_966, by decide +kernel, by decide +kernel, by decide +kernel⟩
def mJ6_bitCount_0f7a4 : MI := (yJ6_bitCount_0f7a4, cJ6_bitCount_0f7a4, 1, (some .int), 0, 0)
theorem mo_J6_bitCount_0f7a4 : MOs mJ6_bitCount_0f7a4 1 := ⟨wm_777, wm_778, wm_779, by decide +kernel, by decide +kernel, by decide +kernel⟩
def mJ7_fill_d0a16 : MI := (yJ7_fill_d0a16, cJ7_fill_d0a16, 5, none, 0, 0)
theorem mo_J7_fill_d0a16 : MOs mJ7_fill_d0a16 2 := ⟨wm_771, wm_214, wm_772, by decide +kernel, by decide +kernel, by decide +kernel⟩
def mJ7_fill_53178 : MI := (yJ7_fill_53178, cJ7_fill_53178, 4, none, 0, 0)
theorem mo_J7_fill_53178 : MOs mJ7_fill_53178 2 := ⟨wm_213, wm_214, wm_215, by decide +kernel, by decide +kernel, by decide +kernel⟩
theorem w_max : Cond.static Lib.Math.max.name ∈ wsL_law ∧ Cond.initialized "java/lang/Math" ∈ wsL_law ∧ Cond.code Lib.Math.max.name Lib.Math.max.code 2 (some .int) ∈ wsL_law := ⟨wm_223, wm_82, wm_224⟩
theorem w_min : Cond.static Lib.Math.min.name ∈ wsL_law ∧ Cond.initialized "java/lang/Math" ∈ wsL_law ∧ Cond.code Lib.Math.min.name Lib.Math.min.code 2 (some .int) ∈ wsL_law := ⟨wm_81, wm_82, wm_83⟩
theorem w_copy : Cond.native arraycopyName ∈ wsL_law ∧ Cond.static arraycopyName ∈ wsL_law ∧ Cond.initialized "java/lang/System" ∈ wsL_law := ⟨wm_543, wm_544, wm_545⟩
theorem kcC_0 {o : Nat} (h : o = 9 ∨ o = 25) : kc (o) = (0, 0) := by rcases h with rfl | rfl <;> rfl
theorem srC_0_0 {o : Nat} (h : o = 9 ∨ o = 25) : sr (o) 0 = o + 1 := by rcases h with rfl | rfl <;> rfl
theorem srC_0_2 {o : Nat} (h : o = 9 ∨ o = 25) : sr (o) 2 = o + 10 := by rcases h with rfl | rfl <;> rfl
theorem srC_0_3 {o : Nat} (h : o = 9 ∨ o = 25) : sr (o) 3 = o + 11 := by rcases h with rfl | rfl <;> rfl
theorem srC_0_4 {o : Nat} (h : o = 9 ∨ o = 25) : sr (o) 4 = o + 12 := by rcases h with rfl | rfl <;> rfl
theorem srC_0_5 {o : Nat} (h : o = 9 ∨ o = 25) : sr (o) 5 = o + 13 := by rcases h with rfl | rfl <;> rfl
theorem srC_0_6 {o : Nat} (h : o = 9 ∨ o = 25) : sr (o) 6 = o + 14 := by rcases h with rfl | rfl <;> rfl
theorem srC_0_7 {o : Nat} (h : o = 9 ∨ o = 25) : sr (o) 7 = o + 15 := by rcases h with rfl | rfl <;> rfl
theorem kcC_1 {o : Nat} (h : o = 9 ∨ o = 25) : kc (o + 1) = (0, 1) := by rcases h with rfl | rfl <;> rfl
theorem srC_1_4 {o : Nat} (h : o = 9 ∨ o = 25) : sr (o + 1) 4 = o + 2 := by rcases h with rfl | rfl <;> rfl
theorem srC_1_5 {o : Nat} (h : o = 9 ∨ o = 25) : sr (o + 1) 5 = o + 3 := by rcases h with rfl | rfl <;> rfl
theorem srC_1_6 {o : Nat} (h : o = 9 ∨ o = 25) : sr (o + 1) 6 = o + 4 := by rcases h with rfl | rfl <;> rfl
theorem srC_1_7 {o : Nat} (h : o = 9 ∨ o = 25) : sr (o + 1) 7 = o + 5 := by rcases h with rfl | rfl <;> rfl
theorem srC_1_8 {o : Nat} (h : o = 9 ∨ o = 25) : sr (o + 1) 8 = o + 6 := by rcases h with rfl | rfl <;> rfl
theorem srC_1_9 {o : Nat} (h : o = 9 ∨ o = 25) : sr (o + 1) 9 = o + 7 := by rcases h with rfl | rfl <;> rfl
theorem srC_1_10 {o : Nat} (h : o = 9 ∨ o = 25) : sr (o + 1) 10 = o + 8 := by rcases h with rfl | rfl <;> rfl
theorem srC_1_11 {o : Nat} (h : o = 9 ∨ o = 25) : sr (o + 1) 11 = o + 9 := by rcases h with rfl | rfl <;> rfl
theorem kcC_2 {o : Nat} (h : o = 9 ∨ o = 25) : kc (o + 2) = (1, 25) := by rcases h with rfl | rfl <;> rfl
theorem kcC_3 {o : Nat} (h : o = 9 ∨ o = 25) : kc (o + 3) = (1, 100) := by rcases h with rfl | rfl <;> rfl
theorem kcC_4 {o : Nat} (h : o = 9 ∨ o = 25) : kc (o + 4) = (1, 100) := by rcases h with rfl | rfl <;> rfl
theorem kcC_5 {o : Nat} (h : o = 9 ∨ o = 25) : kc (o + 5) = (1, 12) := by rcases h with rfl | rfl <;> rfl
theorem kcC_6 {o : Nat} (h : o = 9 ∨ o = 25) : kc (o + 6) = (1, 12) := by rcases h with rfl | rfl <;> rfl
theorem kcC_7 {o : Nat} (h : o = 9 ∨ o = 25) : kc (o + 7) = (1, 8) := by rcases h with rfl | rfl <;> rfl
theorem kcC_8 {o : Nat} (h : o = 9 ∨ o = 25) : kc (o + 8) = (1, 8) := by rcases h with rfl | rfl <;> rfl
theorem kcC_9 {o : Nat} (h : o = 9 ∨ o = 25) : kc (o + 9) = (1, 8) := by rcases h with rfl | rfl <;> rfl
theorem kcC_10 {o : Nat} (h : o = 9 ∨ o = 25) : kc (o + 10) = (1, 25) := by rcases h with rfl | rfl <;> rfl
theorem kcC_11 {o : Nat} (h : o = 9 ∨ o = 25) : kc (o + 11) = (1, 13) := by rcases h with rfl | rfl <;> rfl
theorem kcC_12 {o : Nat} (h : o = 9 ∨ o = 25) : kc (o + 12) = (1, 104) := by rcases h with rfl | rfl <;> rfl
theorem kcC_13 {o : Nat} (h : o = 9 ∨ o = 25) : kc (o + 13) = (1, 12) := by rcases h with rfl | rfl <;> rfl
theorem kcC_14 {o : Nat} (h : o = 9 ∨ o = 25) : kc (o + 14) = (1, 12) := by rcases h with rfl | rfl <;> rfl
theorem kcC_15 {o : Nat} (h : o = 9 ∨ o = 25) : kc (o + 15) = (1, 12) := by rcases h with rfl | rfl <;> rfl
theorem kcT_0 {o : Nat} (h : o = 2 ∨ o = 3 ∨ o = 4) : kc (o) = (0, 2) := by rcases h with rfl | rfl | rfl <;> rfl
theorem srT_0_0 {o : Nat} (h : o = 2 ∨ o = 3 ∨ o = 4) : sr (o) 0 = o + 3 := by rcases h with rfl | rfl | rfl <;> rfl
theorem kcT_3 {o : Nat} (h : o = 2 ∨ o = 3 ∨ o = 4) : kc (o + 3) = (1, 39) := by rcases h with rfl | rfl | rfl <;> rfl
theorem kcS_0 {o : Nat} (h : o = 45 ∨ o = 46 ∨ o = 47 ∨ o = 48) : kc (o) = (0, 3) := by rcases h with rfl | rfl | rfl | rfl <;> rfl
theorem srS_0_2 {o : Nat} (h : o = 45 ∨ o = 46 ∨ o = 47 ∨ o = 48) : sr (o) 2 = o + 4 := by rcases h with rfl | rfl | rfl | rfl <;> rfl
theorem kcS_4 {o : Nat} (h : o = 45 ∨ o = 46 ∨ o = 47 ∨ o = 48) : kc (o + 4) = (1, 60) := by rcases h with rfl | rfl | rfl | rfl <;> rfl
theorem cas3 {e : Int} (h : 0 ≤ e ∧ e < 3) : e.toNat = 0 ∨ e.toNat = 1 ∨ e.toNat = 2 := by omega
theorem cas4 {e : Int} (h : 0 ≤ e ∧ e < 4) : e.toNat = 0 ∨ e.toNat = 1 ∨ e.toNat = 2 ∨ e.toNat = 3 := by omega
theorem srTE {e : Int} (h : 0 ≤ e ∧ e < 3) : sr 1 e.toNat = 2 + e.toNat := by rcases cas3 h with q | q | q <;> rw [q] <;> rfl
theorem srSE {e : Int} (h : 0 ≤ e ∧ e < 4) : sr 44 e.toNat = 45 + e.toNat := by rcases cas4 h with q | q | q | q <;> rw [q] <;> rfl
theorem kcTE_0 {e : Int} (h : 0 ≤ e ∧ e < 3) : kc (2 + e.toNat) = (0, 2) := by rcases cas3 h with q | q | q <;> rw [q] <;> rfl
theorem kcTE_3 {e : Int} (h : 0 ≤ e ∧ e < 3) : kc (5 + e.toNat) = (1, 39) := by rcases cas3 h with q | q | q <;> rw [q] <;> rfl
theorem kcSE_0 {e : Int} (h : 0 ≤ e ∧ e < 4) : kc (45 + e.toNat) = (0, 3) := by rcases cas4 h with q | q | q | q <;> rw [q] <;> rfl
theorem kcSE_4 {e : Int} (h : 0 ≤ e ∧ e < 4) : kc (49 + e.toNat) = (1, 60) := by rcases cas4 h with q | q | q | q <;> rw [q] <;> rfl
theorem srTE_0_0 {e : Int} (h : 0 ≤ e ∧ e < 3) : sr (2 + e.toNat) 0 = 5 + e.toNat := by rcases cas3 h with q | q | q <;> rw [q] <;> rfl
theorem srSE_0_2 {e : Int} (h : 0 ≤ e ∧ e < 4) : sr (45 + e.toNat) 2 = 49 + e.toNat := by rcases cas4 h with q | q | q | q <;> rw [q] <;> rfl
theorem hTE {e : Int} (h : 0 ≤ e ∧ e < 3) : 2 + e.toNat = 2 ∨ 2 + e.toNat = 3 ∨ 2 + e.toNat = 4 := by omega
theorem hSE {e : Int} (h : 0 ≤ e ∧ e < 4) : 45 + e.toNat = 45 ∨ 45 + e.toNat = 46 ∨ 45 + e.toNat = 47 ∨ 45 + e.toNat = 48 := by omega
theorem lookO_4 {a k1 k2 k3 k4 o1 o2 o3 o4 d : Int} (h : ¬ a = k1 ∧ ¬ a = k2 ∧ ¬ a = k3 ∧ ¬ a = k4) : Op.lookupswitch.offset [(k1, o1), (k2, o2), (k3, o3), (k4, o4)] d a = d := by
  rw [Op.lookupswitch.offset_cons, if_neg (by have := h.1; omega), Op.lookupswitch.offset_cons, if_neg (by have := h.2.1; omega), Op.lookupswitch.offset_cons, if_neg (by have := h.2.2.1; omega), Op.lookupswitch.offset_cons, if_neg (by have := h.2.2.2; omega)]
  rfl
theorem lookO_3 {a k1 k2 k3 o1 o2 o3 d : Int} (h : ¬ a = k1 ∧ ¬ a = k2 ∧ ¬ a = k3) : Op.lookupswitch.offset [(k1, o1), (k2, o2), (k3, o3)] d a = d := by
  rw [Op.lookupswitch.offset_cons, if_neg (by have := h.1; omega), Op.lookupswitch.offset_cons, if_neg (by have := h.2.1; omega), Op.lookupswitch.offset_cons, if_neg (by have := h.2.2; omega)]
  rfl
theorem WP_via {mi : MI} {Q : Option MV → HP → Prop} {pc pc1 : Nat} {ls st ls1 st1 : List MV} {D D1 : HP} (k : WP mi Q pc1 ls1 st1 D1 → WP mi Q pc ls st D) (h : WP mi Q pc1 ls1 st1 D1) : WP mi Q pc ls st D := k h
theorem ite_t {c : Prop} [Decidable c] {P : Int → Prop} {a b : Int} (h : P (if c then a else b)) (hc : c) : P a := by rw [if_pos hc] at h; exact h
theorem ite_f {c : Prop} [Decidable c] {P : Int → Prop} {a b : Int} (h : P (if c then a else b)) (hc : ¬ c) : P b := by rw [if_neg hc] at h; exact h
theorem bool_ite {c : Prop} [Decidable c] {x y : Int} (hx : x = 0 ∨ x = 1) (hy : y = 0 ∨ y = 1) : (if c then x else y) = 0 ∨ (if c then x else y) = 1 := by split <;> assumption
theorem ite10 {c : Prop} [Decidable c] : (if c then (1 : Int) else 0) = 0 ↔ ¬ c := by split <;> simp_all
theorem ite10n {c : Prop} [Decidable c] : ¬ (if c then (1 : Int) else 0) = 0 ↔ c := by split <;> simp_all
theorem ite01 {c : Prop} [Decidable c] : (if c then (0 : Int) else 1) = 0 ↔ c := by split <;> simp_all
theorem ite01n {c : Prop} [Decidable c] : ¬ (if c then (0 : Int) else 1) = 0 ↔ ¬ c := by split <;> simp_all
/-- a pure answer -/
def PF (r : MV) (D : HP) : Option MV → HP → Prop := fun v D' => v = some r ∧ D' = D
theorem WP_pcallV {mi g : MI} {Q : Option MV → HP → Prop} {pc idx n : Nat} {ls st rest as : List MV} {D : HP} {r : MV} {k ci : Nat} {T : u_T} {N : Nat} (hd : decode mi.2.1 pc = .ok (.invokevirtual idx, 3)) (hl0 : Cond.methodLink mi.1.cls idx g.1 ∈ wsL_law) (hm : MOv g n) (hk : kc k = (0, ci)) (hci : vwCl[ci]? = some (g.1.cls, T, N)) (hst : as.reverse ++ vR k :: rest = st) (hlen : as.length = n) (hR : RMok mi g) (hrest : (rest.map (fun v => if v.1 = 1 then 2 else 1)).sum ≤ 8)
    (hct : CT g (vR k :: as) D (PF r D)) (hn : WP mi Q (pc + 3) ls (r :: rest) D) : WP mi Q pc ls st D :=
  WP_callV hd hl0 hm hk hci hst hlen hR hrest hct (fun r' D' hq _ _ => by obtain ⟨rfl, rfl⟩ := hq; exact hn)
theorem WP_pcallS {mi g : MI} {Q : Option MV → HP → Prop} {pc idx n : Nat} {ls st rest as : List MV} {D : HP} {r : MV} (hd : decode mi.2.1 pc = .ok (.invokestatic idx, 3)) (hl0 : Cond.methodLink mi.1.cls idx g.1 ∈ wsL_law) (hm : MOs g n) (hst : as.reverse ++ rest = st) (hlen : as.length = n) (hR : RMok mi g) (hrest : (rest.map (fun v => if v.1 = 1 then 2 else 1)).sum ≤ 8)
    (hct : CT g as D (PF r D)) (hn : WP mi Q (pc + 3) ls (r :: rest) D) : WP mi Q pc ls st D :=
  WP_callS hd hl0 hm hst hlen hR hrest hct (fun r' D' hq _ _ => by obtain ⟨rfl, rfl⟩ := hq; exact hn)
end
