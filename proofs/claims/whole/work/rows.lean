section
-- ===== PART A: goes FIRST, ahead of the names: the tables' words, and 'selects' of the private methods out of them =====
/-- a private method of a class that the tables say can be made, by its rows of tables_1 -/
def lw_okq (q : MethodName × Nat) : Prop := (q.1.cls ≠ "java/lang/invoke/MethodHandle" ∧ q.1.cls ≠ "java/lang/invoke/VarHandle") ∧ Cond.instantiable q.1.cls q.2 ∈ tables_1 ∧ Cond.privateMethod q.1 ∈ tables_1 ∧ Cond.instanceMethod q.1 ∈ tables_1
theorem lw_p0 : lw_okq (⟨"MastPulpits$Pad", "signAt", "(I)I"⟩, 2) := ⟨⟨by decide +kernel, by decide +kernel⟩, List.mem_of_getElem? (i := 69) (by decide +kernel), List.mem_of_getElem? (i := 259) (by decide +kernel), List.mem_of_getElem? (i := 260) (by decide +kernel)⟩
theorem lw_p1 : lw_okq (⟨"MastPulpits", "sailTheText", "(IIZ)I"⟩, 7) := ⟨⟨by decide +kernel, by decide +kernel⟩, List.mem_of_getElem? (i := 12) (by decide +kernel), List.mem_of_getElem? (i := 279) (by decide +kernel), List.mem_of_getElem? (i := 280) (by decide +kernel)⟩
theorem lw_p2 : lw_okq (⟨"MastPulpits$Voyage", "setOut", "(LMastPulpits$Sea;)V"⟩, 8) := ⟨⟨by decide +kernel, by decide +kernel⟩, List.mem_of_getElem? (i := 84) (by decide +kernel), List.mem_of_getElem? (i := 287) (by decide +kernel), List.mem_of_getElem? (i := 288) (by decide +kernel)⟩
theorem lw_p3 : lw_okq (⟨"MastPulpits$Voyage", "tryAct", "(II)I"⟩, 8) := ⟨⟨by decide +kernel, by decide +kernel⟩, List.mem_of_getElem? (i := 84) (by decide +kernel), List.mem_of_getElem? (i := 300) (by decide +kernel), List.mem_of_getElem? (i := 301) (by decide +kernel)⟩
theorem lw_p4 : lw_okq (⟨"MastPulpits$Sea", "reasonAgainstSailing", "(I)I"⟩, 10) := ⟨⟨by decide +kernel, by decide +kernel⟩, List.mem_of_getElem? (i := 20) (by decide +kernel), List.mem_of_getElem? (i := 319) (by decide +kernel), List.mem_of_getElem? (i := 320) (by decide +kernel)⟩
theorem lw_p5 : lw_okq (⟨"MastPulpits$Voyage", "countCall", "(J)V"⟩, 8) := ⟨⟨by decide +kernel, by decide +kernel⟩, List.mem_of_getElem? (i := 84) (by decide +kernel), List.mem_of_getElem? (i := 344) (by decide +kernel), List.mem_of_getElem? (i := 345) (by decide +kernel)⟩
theorem lw_p6 : lw_okq (⟨"MastPulpits$Sea", "goOrStrike", "(I)V"⟩, 10) := ⟨⟨by decide +kernel, by decide +kernel⟩, List.mem_of_getElem? (i := 20) (by decide +kernel), List.mem_of_getElem? (i := 353) (by decide +kernel), List.mem_of_getElem? (i := 354) (by decide +kernel)⟩
theorem lw_p7 : lw_okq (⟨"MastPulpits$Sea", "passAnHour", "()V"⟩, 10) := ⟨⟨by decide +kernel, by decide +kernel⟩, List.mem_of_getElem? (i := 20) (by decide +kernel), List.mem_of_getElem? (i := 357) (by decide +kernel), List.mem_of_getElem? (i := 358) (by decide +kernel)⟩
theorem lw_p8 : lw_okq (⟨"MastPulpits", "fewestSteps", "(III)I"⟩, 7) := ⟨⟨by decide +kernel, by decide +kernel⟩, List.mem_of_getElem? (i := 12) (by decide +kernel), List.mem_of_getElem? (i := 401) (by decide +kernel), List.mem_of_getElem? (i := 402) (by decide +kernel)⟩
theorem lw_p9 : lw_okq (⟨"MastPulpits$RopeCutter", "leastCut", "(II)I"⟩, 3) := ⟨⟨by decide +kernel, by decide +kernel⟩, List.mem_of_getElem? (i := 125) (by decide +kernel), List.mem_of_getElem? (i := 439) (by decide +kernel), List.mem_of_getElem? (i := 440) (by decide +kernel)⟩
theorem lw_p10 : lw_okq (⟨"MastPulpits$Lookouts", "partOf", "(JI)J"⟩, 4) := ⟨⟨by decide +kernel, by decide +kernel⟩, List.mem_of_getElem? (i := 141) (by decide +kernel), List.mem_of_getElem? (i := 497) (by decide +kernel), List.mem_of_getElem? (i := 498) (by decide +kernel)⟩
theorem lw_p11 : lw_okq (⟨"MastPulpits", "isImage", "(I)Z"⟩, 7) := ⟨⟨by decide +kernel, by decide +kernel⟩, List.mem_of_getElem? (i := 12) (by decide +kernel), List.mem_of_getElem? (i := 519) (by decide +kernel), List.mem_of_getElem? (i := 520) (by decide +kernel)⟩
theorem lw_p12 : lw_okq (⟨"MastPulpitsModel", "landMany", "()I"⟩, 34) := ⟨⟨by decide +kernel, by decide +kernel⟩, List.mem_of_getElem? (i := 531) (by decide +kernel), List.mem_of_getElem? (i := 651) (by decide +kernel), List.mem_of_getElem? (i := 652) (by decide +kernel)⟩
theorem lw_p13 : lw_okq (⟨"MastPulpitsModel", "readOn", "(II)I"⟩, 34) := ⟨⟨by decide +kernel, by decide +kernel⟩, List.mem_of_getElem? (i := 531) (by decide +kernel), List.mem_of_getElem? (i := 684) (by decide +kernel), List.mem_of_getElem? (i := 685) (by decide +kernel)⟩
theorem lw_p14 : lw_okq (⟨"MastPulpitsModel", "begin", "(I)I"⟩, 34) := ⟨⟨by decide +kernel, by decide +kernel⟩, List.mem_of_getElem? (i := 531) (by decide +kernel), List.mem_of_getElem? (i := 688) (by decide +kernel), List.mem_of_getElem? (i := 689) (by decide +kernel)⟩
theorem lw_p15 : lw_okq (⟨"MastPulpitsModel", "close", "(I)I"⟩, 34) := ⟨⟨by decide +kernel, by decide +kernel⟩, List.mem_of_getElem? (i := 531) (by decide +kernel), List.mem_of_getElem? (i := 694) (by decide +kernel), List.mem_of_getElem? (i := 695) (by decide +kernel)⟩
def lw_privs_1 : List (MethodName × Nat) := [(⟨"MastPulpits$Pad", "signAt", "(I)I"⟩, 2), (⟨"MastPulpits", "sailTheText", "(IIZ)I"⟩, 7), (⟨"MastPulpits$Voyage", "setOut", "(LMastPulpits$Sea;)V"⟩, 8), (⟨"MastPulpits$Voyage", "tryAct", "(II)I"⟩, 8), (⟨"MastPulpits$Sea", "reasonAgainstSailing", "(I)I"⟩, 10), (⟨"MastPulpits$Voyage", "countCall", "(J)V"⟩, 8), (⟨"MastPulpits$Sea", "goOrStrike", "(I)V"⟩, 10), (⟨"MastPulpits$Sea", "passAnHour", "()V"⟩, 10), (⟨"MastPulpits", "fewestSteps", "(III)I"⟩, 7), (⟨"MastPulpits$RopeCutter", "leastCut", "(II)I"⟩, 3), (⟨"MastPulpits$Lookouts", "partOf", "(JI)J"⟩, 4), (⟨"MastPulpits", "isImage", "(I)Z"⟩, 7), (⟨"MastPulpitsModel", "landMany", "()I"⟩, 34), (⟨"MastPulpitsModel", "readOn", "(II)I"⟩, 34), (⟨"MastPulpitsModel", "begin", "(I)I"⟩, 34), (⟨"MastPulpitsModel", "close", "(I)I"⟩, 34)]
theorem lw_r1 : ∀ q ∈ lw_privs_1, lw_okq q := List.forall_mem_cons.mpr ⟨lw_p0, List.forall_mem_cons.mpr ⟨lw_p1, List.forall_mem_cons.mpr ⟨lw_p2, List.forall_mem_cons.mpr ⟨lw_p3, List.forall_mem_cons.mpr ⟨lw_p4, List.forall_mem_cons.mpr ⟨lw_p5, List.forall_mem_cons.mpr ⟨lw_p6, List.forall_mem_cons.mpr ⟨lw_p7, List.forall_mem_cons.mpr ⟨lw_p8, List.forall_mem_cons.mpr ⟨lw_p9, List.forall_mem_cons.mpr ⟨lw_p10, List.forall_mem_cons.mpr ⟨lw_p11, List.forall_mem_cons.mpr ⟨lw_p12, List.forall_mem_cons.mpr ⟨lw_p13, List.forall_mem_cons.mpr ⟨lw_p14, List.forall_mem_cons.mpr ⟨lw_p15, fun _ h => absurd h List.not_mem_nil⟩⟩⟩⟩⟩⟩⟩⟩⟩⟩⟩⟩⟩⟩⟩⟩
theorem lw_p16 : lw_okq (⟨"MastPulpitsModel", "digit", "(II)I"⟩, 34) := ⟨⟨by decide +kernel, by decide +kernel⟩, List.mem_of_getElem? (i := 531) (by decide +kernel), List.mem_of_getElem? (i := 698) (by decide +kernel), List.mem_of_getElem? (i := 699) (by decide +kernel)⟩
theorem lw_p17 : lw_okq (⟨"MastPulpitsModel", "refusal", "()I"⟩, 34) := ⟨⟨by decide +kernel, by decide +kernel⟩, List.mem_of_getElem? (i := 531) (by decide +kernel), List.mem_of_getElem? (i := 709) (by decide +kernel), List.mem_of_getElem? (i := 710) (by decide +kernel)⟩
theorem lw_p18 : lw_okq (⟨"MastPulpitsModel", "keepNow", "()V"⟩, 34) := ⟨⟨by decide +kernel, by decide +kernel⟩, List.mem_of_getElem? (i := 531) (by decide +kernel), List.mem_of_getElem? (i := 713) (by decide +kernel), List.mem_of_getElem? (i := 714) (by decide +kernel)⟩
theorem lw_p19 : lw_okq (⟨"MastPulpitsModel", "goVoyages", "()V"⟩, 34) := ⟨⟨by decide +kernel, by decide +kernel⟩, List.mem_of_getElem? (i := 531) (by decide +kernel), List.mem_of_getElem? (i := 718) (by decide +kernel), List.mem_of_getElem? (i := 719) (by decide +kernel)⟩
theorem lw_p20 : lw_okq (⟨"MastPulpitsModel", "whyNot", "(II)I"⟩, 34) := ⟨⟨by decide +kernel, by decide +kernel⟩, List.mem_of_getElem? (i := 531) (by decide +kernel), List.mem_of_getElem? (i := 722) (by decide +kernel), List.mem_of_getElem? (i := 723) (by decide +kernel)⟩
theorem lw_p21 : lw_okq (⟨"MastPulpitsModel", "whyNoSail", "(I)I"⟩, 34) := ⟨⟨by decide +kernel, by decide +kernel⟩, List.mem_of_getElem? (i := 531) (by decide +kernel), List.mem_of_getElem? (i := 726) (by decide +kernel), List.mem_of_getElem? (i := 727) (by decide +kernel)⟩
theorem lw_p22 : lw_okq (⟨"MastPulpitsModel", "happen", "(II)V"⟩, 34) := ⟨⟨by decide +kernel, by decide +kernel⟩, List.mem_of_getElem? (i := 531) (by decide +kernel), List.mem_of_getElem? (i := 742) (by decide +kernel), List.mem_of_getElem? (i := 743) (by decide +kernel)⟩
theorem lw_p23 : lw_okq (⟨"MastPulpitsModel", "climb", "(I)V"⟩, 34) := ⟨⟨by decide +kernel, by decide +kernel⟩, List.mem_of_getElem? (i := 531) (by decide +kernel), List.mem_of_getElem? (i := 746) (by decide +kernel), List.mem_of_getElem? (i := 747) (by decide +kernel)⟩
theorem lw_p24 : lw_okq (⟨"MastPulpitsModel", "sail", "(I)V"⟩, 34) := ⟨⟨by decide +kernel, by decide +kernel⟩, List.mem_of_getElem? (i := 531) (by decide +kernel), List.mem_of_getElem? (i := 750) (by decide +kernel), List.mem_of_getElem? (i := 751) (by decide +kernel)⟩
theorem lw_p25 : lw_okq (⟨"MastPulpitsModel", "call", "()V"⟩, 34) := ⟨⟨by decide +kernel, by decide +kernel⟩, List.mem_of_getElem? (i := 531) (by decide +kernel), List.mem_of_getElem? (i := 754) (by decide +kernel), List.mem_of_getElem? (i := 755) (by decide +kernel)⟩
theorem lw_p26 : lw_okq (⟨"MastPulpitsModel", "seenMany", "()I"⟩, 34) := ⟨⟨by decide +kernel, by decide +kernel⟩, List.mem_of_getElem? (i := 531) (by decide +kernel), List.mem_of_getElem? (i := 758) (by decide +kernel), List.mem_of_getElem? (i := 759) (by decide +kernel)⟩
theorem lw_p27 : lw_okq (⟨"MastPulpitsModel", "isSeen", "(I)Z"⟩, 34) := ⟨⟨by decide +kernel, by decide +kernel⟩, List.mem_of_getElem? (i := 531) (by decide +kernel), List.mem_of_getElem? (i := 762) (by decide +kernel), List.mem_of_getElem? (i := 763) (by decide +kernel)⟩
theorem lw_p28 : lw_okq (⟨"MastPulpitsModel", "glass", "()I"⟩, 34) := ⟨⟨by decide +kernel, by decide +kernel⟩, List.mem_of_getElem? (i := 531) (by decide +kernel), List.mem_of_getElem? (i := 772) (by decide +kernel), List.mem_of_getElem? (i := 773) (by decide +kernel)⟩
theorem lw_p29 : lw_okq (⟨"MastPulpitsModel", "passHour", "()V"⟩, 34) := ⟨⟨by decide +kernel, by decide +kernel⟩, List.mem_of_getElem? (i := 531) (by decide +kernel), List.mem_of_getElem? (i := 776) (by decide +kernel), List.mem_of_getElem? (i := 777) (by decide +kernel)⟩
theorem lw_p30 : lw_okq (⟨"MastPulpitsModel", "back", "(I)I"⟩, 34) := ⟨⟨by decide +kernel, by decide +kernel⟩, List.mem_of_getElem? (i := 531) (by decide +kernel), List.mem_of_getElem? (i := 780) (by decide +kernel), List.mem_of_getElem? (i := 781) (by decide +kernel)⟩
theorem lw_p31 : lw_okq (⟨"MastPulpitsModel", "ofShip", "(I)I"⟩, 34) := ⟨⟨by decide +kernel, by decide +kernel⟩, List.mem_of_getElem? (i := 531) (by decide +kernel), List.mem_of_getElem? (i := 788) (by decide +kernel), List.mem_of_getElem? (i := 789) (by decide +kernel)⟩
def lw_privs_2 : List (MethodName × Nat) := [(⟨"MastPulpitsModel", "digit", "(II)I"⟩, 34), (⟨"MastPulpitsModel", "refusal", "()I"⟩, 34), (⟨"MastPulpitsModel", "keepNow", "()V"⟩, 34), (⟨"MastPulpitsModel", "goVoyages", "()V"⟩, 34), (⟨"MastPulpitsModel", "whyNot", "(II)I"⟩, 34), (⟨"MastPulpitsModel", "whyNoSail", "(I)I"⟩, 34), (⟨"MastPulpitsModel", "happen", "(II)V"⟩, 34), (⟨"MastPulpitsModel", "climb", "(I)V"⟩, 34), (⟨"MastPulpitsModel", "sail", "(I)V"⟩, 34), (⟨"MastPulpitsModel", "call", "()V"⟩, 34), (⟨"MastPulpitsModel", "seenMany", "()I"⟩, 34), (⟨"MastPulpitsModel", "isSeen", "(I)Z"⟩, 34), (⟨"MastPulpitsModel", "glass", "()I"⟩, 34), (⟨"MastPulpitsModel", "passHour", "()V"⟩, 34), (⟨"MastPulpitsModel", "back", "(I)I"⟩, 34), (⟨"MastPulpitsModel", "ofShip", "(I)I"⟩, 34)]
theorem lw_r2 : ∀ q ∈ lw_privs_2, lw_okq q := List.forall_mem_cons.mpr ⟨lw_p16, List.forall_mem_cons.mpr ⟨lw_p17, List.forall_mem_cons.mpr ⟨lw_p18, List.forall_mem_cons.mpr ⟨lw_p19, List.forall_mem_cons.mpr ⟨lw_p20, List.forall_mem_cons.mpr ⟨lw_p21, List.forall_mem_cons.mpr ⟨lw_p22, List.forall_mem_cons.mpr ⟨lw_p23, List.forall_mem_cons.mpr ⟨lw_p24, List.forall_mem_cons.mpr ⟨lw_p25, List.forall_mem_cons.mpr ⟨lw_p26, List.forall_mem_cons.mpr ⟨lw_p27, List.forall_mem_cons.mpr ⟨lw_p28, List.forall_mem_cons.mpr ⟨lw_p29, List.forall_mem_cons.mpr ⟨lw_p30, List.forall_mem_cons.mpr ⟨lw_p31, fun _ h => absurd h List.not_mem_nil⟩⟩⟩⟩⟩⟩⟩⟩⟩⟩⟩⟩⟩⟩⟩⟩
theorem lw_p32 : lw_okq (⟨"MastPulpitsModel", "ofSeen", "(I)I"⟩, 34) := ⟨⟨by decide +kernel, by decide +kernel⟩, List.mem_of_getElem? (i := 531) (by decide +kernel), List.mem_of_getElem? (i := 796) (by decide +kernel), List.mem_of_getElem? (i := 797) (by decide +kernel)⟩
theorem lw_p33 : lw_okq (⟨"MastPulpitsModel", "nearest", "()I"⟩, 34) := ⟨⟨by decide +kernel, by decide +kernel⟩, List.mem_of_getElem? (i := 531) (by decide +kernel), List.mem_of_getElem? (i := 800) (by decide +kernel), List.mem_of_getElem? (i := 801) (by decide +kernel)⟩
theorem lw_p34 : lw_okq (⟨"MastPulpitsModel", "oneStepMore", "(I)Z"⟩, 34) := ⟨⟨by decide +kernel, by decide +kernel⟩, List.mem_of_getElem? (i := 531) (by decide +kernel), List.mem_of_getElem? (i := 816) (by decide +kernel), List.mem_of_getElem? (i := 817) (by decide +kernel)⟩
theorem lw_p35 : lw_okq (⟨"MastPulpitsModel", "wayTo", "(II)I"⟩, 34) := ⟨⟨by decide +kernel, by decide +kernel⟩, List.mem_of_getElem? (i := 531) (by decide +kernel), List.mem_of_getElem? (i := 820) (by decide +kernel), List.mem_of_getElem? (i := 821) (by decide +kernel)⟩
theorem lw_p36 : lw_okq (⟨"MastPulpitsModel", "readPieces", "(II)Z"⟩, 34) := ⟨⟨by decide +kernel, by decide +kernel⟩, List.mem_of_getElem? (i := 531) (by decide +kernel), List.mem_of_getElem? (i := 838) (by decide +kernel), List.mem_of_getElem? (i := 839) (by decide +kernel)⟩
theorem lw_p37 : lw_okq (⟨"MastPulpitsModel", "ropesOf", "(II)I"⟩, 34) := ⟨⟨by decide +kernel, by decide +kernel⟩, List.mem_of_getElem? (i := 531) (by decide +kernel), List.mem_of_getElem? (i := 843) (by decide +kernel), List.mem_of_getElem? (i := 844) (by decide +kernel)⟩
theorem lw_p38 : lw_okq (⟨"MastPulpitsModel", "mostPieces", "(II)I"⟩, 34) := ⟨⟨by decide +kernel, by decide +kernel⟩, List.mem_of_getElem? (i := 531) (by decide +kernel), List.mem_of_getElem? (i := 850) (by decide +kernel), List.mem_of_getElem? (i := 851) (by decide +kernel)⟩
theorem lw_p39 : lw_okq (⟨"MastPulpitsModel", "findFits", "()V"⟩, 34) := ⟨⟨by decide +kernel, by decide +kernel⟩, List.mem_of_getElem? (i := 531) (by decide +kernel), List.mem_of_getElem? (i := 866) (by decide +kernel), List.mem_of_getElem? (i := 867) (by decide +kernel)⟩
theorem lw_p40 : lw_okq (⟨"MastPulpitsModel", "isFit", "(I)Z"⟩, 34) := ⟨⟨by decide +kernel, by decide +kernel⟩, List.mem_of_getElem? (i := 531) (by decide +kernel), List.mem_of_getElem? (i := 870) (by decide +kernel), List.mem_of_getElem? (i := 871) (by decide +kernel)⟩
theorem lw_p41 : lw_okq (⟨"MastPulpitsModel", "mostLeft", "(II)I"⟩, 34) := ⟨⟨by decide +kernel, by decide +kernel⟩, List.mem_of_getElem? (i := 531) (by decide +kernel), List.mem_of_getElem? (i := 878) (by decide +kernel), List.mem_of_getElem? (i := 879) (by decide +kernel)⟩
theorem lw_p42 : lw_okq (⟨"MastPulpitsModel", "leastTack", "(I)I"⟩, 34) := ⟨⟨by decide +kernel, by decide +kernel⟩, List.mem_of_getElem? (i := 531) (by decide +kernel), List.mem_of_getElem? (i := 889) (by decide +kernel), List.mem_of_getElem? (i := 890) (by decide +kernel)⟩
theorem lw_p43 : lw_okq (⟨"MastPulpitsModel", "passAll", "()V"⟩, 34) := ⟨⟨by decide +kernel, by decide +kernel⟩, List.mem_of_getElem? (i := 531) (by decide +kernel), List.mem_of_getElem? (i := 922) (by decide +kernel), List.mem_of_getElem? (i := 923) (by decide +kernel)⟩
theorem lw_p44 : lw_okq (⟨"MastPulpitsModel", "pass", "(I)I"⟩, 34) := ⟨⟨by decide +kernel, by decide +kernel⟩, List.mem_of_getElem? (i := 531) (by decide +kernel), List.mem_of_getElem? (i := 926) (by decide +kernel), List.mem_of_getElem? (i := 927) (by decide +kernel)⟩
theorem lw_p45 : lw_okq (⟨"MastPulpitsModel", "passRow", "([II)V"⟩, 34) := ⟨⟨by decide +kernel, by decide +kernel⟩, List.mem_of_getElem? (i := 531) (by decide +kernel), List.mem_of_getElem? (i := 930) (by decide +kernel), List.mem_of_getElem? (i := 931) (by decide +kernel)⟩
def lw_privs_3 : List (MethodName × Nat) := [(⟨"MastPulpitsModel", "ofSeen", "(I)I"⟩, 34), (⟨"MastPulpitsModel", "nearest", "()I"⟩, 34), (⟨"MastPulpitsModel", "oneStepMore", "(I)Z"⟩, 34), (⟨"MastPulpitsModel", "wayTo", "(II)I"⟩, 34), (⟨"MastPulpitsModel", "readPieces", "(II)Z"⟩, 34), (⟨"MastPulpitsModel", "ropesOf", "(II)I"⟩, 34), (⟨"MastPulpitsModel", "mostPieces", "(II)I"⟩, 34), (⟨"MastPulpitsModel", "findFits", "()V"⟩, 34), (⟨"MastPulpitsModel", "isFit", "(I)Z"⟩, 34), (⟨"MastPulpitsModel", "mostLeft", "(II)I"⟩, 34), (⟨"MastPulpitsModel", "leastTack", "(I)I"⟩, 34), (⟨"MastPulpitsModel", "passAll", "()V"⟩, 34), (⟨"MastPulpitsModel", "pass", "(I)I"⟩, 34), (⟨"MastPulpitsModel", "passRow", "([II)V"⟩, 34)]
theorem lw_r3 : ∀ q ∈ lw_privs_3, lw_okq q := List.forall_mem_cons.mpr ⟨lw_p32, List.forall_mem_cons.mpr ⟨lw_p33, List.forall_mem_cons.mpr ⟨lw_p34, List.forall_mem_cons.mpr ⟨lw_p35, List.forall_mem_cons.mpr ⟨lw_p36, List.forall_mem_cons.mpr ⟨lw_p37, List.forall_mem_cons.mpr ⟨lw_p38, List.forall_mem_cons.mpr ⟨lw_p39, List.forall_mem_cons.mpr ⟨lw_p40, List.forall_mem_cons.mpr ⟨lw_p41, List.forall_mem_cons.mpr ⟨lw_p42, List.forall_mem_cons.mpr ⟨lw_p43, List.forall_mem_cons.mpr ⟨lw_p44, List.forall_mem_cons.mpr ⟨lw_p45, fun _ h => absurd h List.not_mem_nil⟩⟩⟩⟩⟩⟩⟩⟩⟩⟩⟩⟩⟩⟩
def lw_privs : List (MethodName × Nat) := lw_privs_1 ++ (lw_privs_2 ++ (lw_privs_3))
def lw_tbl : List Cond := k2_sels lw_privs ++ tables_1
theorem lw_privs_ok : ∀ q ∈ lw_privs, lw_okq q := by
  show ∀ q ∈ lw_privs_1 ++ (lw_privs_2 ++ (lw_privs_3)), lw_okq q
  exact List.forall_mem_append.mpr ⟨lw_r1, List.forall_mem_append.mpr ⟨lw_r2, lw_r3⟩⟩
end
section
/-! ===== BEGIN words of one list among another's, by their places ===== -/
theorem goodIn_r {big : List Cond} (ws : List Cond) (ps : List Nat) (hp : ws = ps.filterMap (fun i => big[i]?)) (h : ws.all goodWord = true) : GoodIn big ws := by
  intro w hw
  have h1 := List.all_eq_true.mp h w hw
  rw [hp] at hw
  obtain ⟨i, -, hi⟩ := List.mem_filterMap.mp hw
  have hm : w ∈ big := by first | exact List.mem_of_getElem? hi | exact List.getElem?_mem hi
  exact ⟨hm, good_of_word h1⟩
theorem goodIn_app {big a b : List Cond} (ha : GoodIn big a) (hb : GoodIn big b) : GoodIn big (a ++ b) := fun w h => (List.mem_append.mp h).elim (ha w) (hb w)
theorem goodIn_ca {big a b : List Cond} {c : Cond} (ha : GoodIn big (c :: a)) (hb : GoodIn big b) : GoodIn big (c :: (a ++ b)) := fun w h => (List.mem_cons.mp h).elim (fun e => ha w (List.mem_cons.mpr (Or.inl e))) (fun h => (List.mem_append.mp h).elim (fun h => ha w (List.mem_cons.mpr (Or.inr h))) (hb w))
theorem goodIn_sub {big ws : List Cond} (hm : ∀ w ∈ ws, w ∈ big) (h : ws.all goodWord = true) : GoodIn big ws := fun w hw => ⟨hm w hw, good_of_word (List.all_eq_true.mp h w hw)⟩
/-! ===== END ===== -/

/-! ===== BEGIN printed: names, fields, word lists, decode rows ===== -/
def RX0 : String := "MastPulpits$Chart"
def TX0 : u_T := fun k => match k with
  | _ => ("", "", "", false)
def tyX0 : Nat → FieldType := fun k => match k with
  | _ => .int
abbrev wsX00 : List Cond := u_ws RX0 TX0 0
theorem nmX0 : ∀ a, a < 0 → ∀ b, b < 0 → a ≠ b → (TX0 a).2.1 ≠ (TX0 b).2.1 := by decide +kernel
theorem tyX0_ok : ∀ k, k < 0 → parseFieldDescriptor (TX0 k).2.2.1 = some (tyX0 k) := by decide +kernel
abbrev cX0_isCell : ByteArray := prog_2_method_2_code
def yX0_isCell : MethodName := ⟨RX0, "isCell", "(I)Z"⟩
abbrev cX0_isWay : ByteArray := prog_2_method_3_code
def yX0_isWay : MethodName := ⟨RX0, "isWay", "(I)Z"⟩
abbrev cX0_only : ByteArray := prog_2_method_4_code
def yX0_only : MethodName := ⟨RX0, "only", "(I)J"⟩
abbrev cX0_holds : ByteArray := prog_2_method_5_code
def yX0_holds : MethodName := ⟨RX0, "holds", "(JI)Z"⟩
abbrev cX0_least : ByteArray := prog_2_method_6_code
def yX0_least : MethodName := ⟨RX0, "least", "(J)I"⟩
abbrev cX0_moved : ByteArray := prog_2_method_7_code
def yX0_moved : MethodName := ⟨RX0, "moved", "(III)I"⟩
abbrev cX0_next : ByteArray := prog_2_method_8_code
def yX0_next : MethodName := ⟨RX0, "next", "(II)I"⟩
abbrev cX0_ray : ByteArray := prog_2_method_9_code
def yX0_ray : MethodName := ⟨RX0, "ray", "(II)J"⟩
abbrev cX0_around : ByteArray := prog_2_method_10_code
def yX0_around : MethodName := ⟨RX0, "around", "(II)J"⟩
abbrev cX0_spread : ByteArray := prog_2_method_11_code
def yX0_spread : MethodName := ⟨RX0, "spread", "(J)J"⟩
abbrev cX0_leastWayInto : ByteArray := prog_2_method_12_code
def yX0_leastWayInto : MethodName := ⟨RX0, "leastWayInto", "(IJ)I"⟩
abbrev cX0_tacksFrom : ByteArray := prog_2_method_13_code
def yX0_tacksFrom : MethodName := ⟨RX0, "tacksFrom", "(I)J"⟩
abbrev cX0_cellsWhereTackingLoses : ByteArray := prog_2_method_14_code
def yX0_cellsWhereTackingLoses : MethodName := ⟨RX0, "cellsWhereTackingLoses", "()J"⟩
def RX1 : String := "MastPulpits$Lookouts"
def TX1 : u_T := fun k => match k with
  | 0 => ("MastPulpits$Lookouts", "byFirst", "J", false)
  | 1 => ("MastPulpits$Lookouts", "byOther", "J", false)
  | 2 => ("MastPulpits$Lookouts", "byNobody", "J", false)
  | _ => ("MastPulpits$Lookouts", "outOf", "J", false)
def tyX1 : Nat → FieldType := fun k => match k with
  | 0 => .long
  | 1 => .long
  | 2 => .long
  | _ => .long
abbrev wsX10 : List Cond := u_ws RX1 TX1 4
theorem nmX1 : ∀ a, a < 4 → ∀ b, b < 4 → a ≠ b → (TX1 a).2.1 ≠ (TX1 b).2.1 := by decide +kernel
theorem tyX1_ok : ∀ k, k < 4 → parseFieldDescriptor (TX1 k).2.2.1 = some (tyX1 k) := by decide +kernel
abbrev cX1_init : ByteArray := prog_3_method_1_code
def yX1_init : MethodName := ⟨RX1, "<init>", "()V"⟩
abbrev cX1_watchByTurns : ByteArray := prog_3_method_2_code
def yX1_watchByTurns : MethodName := ⟨RX1, "watchByTurns", "(III)V"⟩
abbrev cX1_chance : ByteArray := prog_3_method_3_code
def yX1_chance : MethodName := ⟨RX1, "chance", "(II)J"⟩
abbrev cX1_partOf : ByteArray := prog_3_method_4_code
def yX1_partOf : MethodName := ⟨RX1, "partOf", "(JI)J"⟩
def RX2 : String := "MastPulpits$Pad"
def TX2 : u_T := fun k => match k with
  | 0 => ("MastPulpits$Pad", "signs", "[I", true)
  | _ => ("MastPulpits$Pad", "length", "I", false)
def tyX2 : Nat → FieldType := fun k => match k with
  | 0 => .array .int
  | _ => .int
abbrev wsX20 : List Cond := u_ws RX2 TX2 2
theorem nmX2 : ∀ a, a < 2 → ∀ b, b < 2 → a ≠ b → (TX2 a).2.1 ≠ (TX2 b).2.1 := by decide +kernel
theorem tyX2_ok : ∀ k, k < 2 → parseFieldDescriptor (TX2 k).2.2.1 = some (tyX2 k) := by decide +kernel
abbrev cX2_init : ByteArray := prog_4_method_1_code
def yX2_init : MethodName := ⟨RX2, "<init>", "()V"⟩
abbrev cX2_write : ByteArray := prog_4_method_2_code
def yX2_write : MethodName := ⟨RX2, "write", "(I)Z"⟩
abbrev cX2_signAt : ByteArray := prog_4_method_3_code
def yX2_signAt : MethodName := ⟨RX2, "signAt", "(I)I"⟩
abbrev cX2_isLetter : ByteArray := prog_4_method_4_code
def yX2_isLetter : MethodName := ⟨RX2, "isLetter", "(I)Z"⟩
abbrev cX2_isDigit : ByteArray := prog_4_method_5_code
def yX2_isDigit : MethodName := ⟨RX2, "isDigit", "(I)Z"⟩
abbrev cX2_actAt : ByteArray := prog_4_method_6_code
def yX2_actAt : MethodName := ⟨RX2, "actAt", "(I)I"⟩
abbrev cX2_withAt : ByteArray := prog_4_method_7_code
def yX2_withAt : MethodName := ⟨RX2, "withAt", "(I)I"⟩
abbrev cX2_signsOf : ByteArray := prog_4_method_8_code
def yX2_signsOf : MethodName := ⟨RX2, "signsOf", "(I)I"⟩
abbrev cX2_firstFault : ByteArray := prog_4_method_9_code
def yX2_firstFault : MethodName := ⟨RX2, "firstFault", "()I"⟩
abbrev cX2_needsASecond : ByteArray := prog_4_method_10_code
def yX2_needsASecond : MethodName := ⟨RX2, "needsASecond", "(I)Z"⟩
def RX3 : String := "MastPulpits$RopeCutter"
def TX3 : u_T := fun k => match k with
  | 0 => ("MastPulpits$RopeCutter", "pieces", "[I", true)
  | 1 => ("MastPulpits$RopeCutter", "cutOfSet", "[I", true)
  | _ => ("MastPulpits$RopeCutter", "many", "I", false)
def tyX3 : Nat → FieldType := fun k => match k with
  | 0 => .array .int
  | 1 => .array .int
  | _ => .int
abbrev wsX30 : List Cond := u_ws RX3 TX3 3
theorem nmX3 : ∀ a, a < 3 → ∀ b, b < 3 → a ≠ b → (TX3 a).2.1 ≠ (TX3 b).2.1 := by decide +kernel
theorem tyX3_ok : ∀ k, k < 3 → parseFieldDescriptor (TX3 k).2.2.1 = some (tyX3 k) := by decide +kernel
abbrev cX3_init : ByteArray := prog_5_method_1_code
def yX3_init : MethodName := ⟨RX3, "<init>", "()V"⟩
abbrev cX3_takePieces : ByteArray := prog_5_method_2_code
def yX3_takePieces : MethodName := ⟨RX3, "takePieces", "(II)Z"⟩
abbrev cX3_fewestRopes : ByteArray := prog_5_method_3_code
def yX3_fewestRopes : MethodName := ⟨RX3, "fewestRopes", "(I)I"⟩
abbrev cX3_leastCut : ByteArray := prog_5_method_4_code
def yX3_leastCut : MethodName := ⟨RX3, "leastCut", "(II)I"⟩
abbrev cX3_cutFurther : ByteArray := prog_5_method_5_code
def yX3_cutFurther : MethodName := ⟨RX3, "cutFurther", "(III)I"⟩
abbrev cX3_mostFromOne : ByteArray := prog_5_method_6_code
def yX3_mostFromOne : MethodName := ⟨RX3, "mostFromOne", "(I)I"⟩
def RX4 : String := "MastPulpits$Sea"
def TX4 : u_T := fun k => match k with
  | 0 => ("MastPulpits$Sea", "lands", "J", false)
  | 1 => ("MastPulpits$Sea", "shipCell", "I", false)
  | 2 => ("MastPulpits$Sea", "shipHull", "I", false)
  | 3 => ("MastPulpits$Sea", "up", "I", false)
  | 4 => ("MastPulpits$Sea", "hoursUp", "I", false)
  | 5 => ("MastPulpits$Sea", "fogNow", "I", false)
  | 6 => ("MastPulpits$Sea", "hourNow", "I", false)
  | 7 => ("MastPulpits$Sea", "sights", "I", false)
  | 8 => ("MastPulpits$Sea", "fitting", "J", false)
  | _ => ("MastPulpits$Sea", "eyes", "[I", true)
def tyX4 : Nat → FieldType := fun k => match k with
  | 0 => .long
  | 1 => .int
  | 2 => .int
  | 3 => .int
  | 4 => .int
  | 5 => .int
  | 6 => .int
  | 7 => .int
  | 8 => .long
  | _ => .array .int
abbrev wsX40 : List Cond := u_ws RX4 TX4 10
theorem nmX4 : ∀ a, a < 10 → ∀ b, b < 10 → a ≠ b → (TX4 a).2.1 ≠ (TX4 b).2.1 := by decide +kernel
theorem tyX4_ok : ∀ k, k < 10 → parseFieldDescriptor (TX4 k).2.2.1 = some (tyX4 k) := by decide +kernel
abbrev cX4_init : ByteArray := prog_6_method_1_code
def yX4_init : MethodName := ⟨RX4, "<init>", "()V"⟩
abbrev cX4_takeOver : ByteArray := prog_6_method_2_code
def yX4_takeOver : MethodName := ⟨RX4, "takeOver", "(LMastPulpits$Sea;)V"⟩
abbrev cX4_isLand : ByteArray := prog_6_method_3_code
def yX4_isLand : MethodName := ⟨RX4, "isLand", "(I)Z"⟩
abbrev cX4_isWatcher : ByteArray := prog_6_method_4_code
def yX4_isWatcher : MethodName := ⟨RX4, "isWatcher", "(I)Z"⟩
abbrev cX4_eyesOf : ByteArray := prog_6_method_5_code
def yX4_eyesOf : MethodName := ⟨RX4, "eyesOf", "(I)I"⟩
abbrev cX4_giveEyes : ByteArray := prog_6_method_6_code
def yX4_giveEyes : MethodName := ⟨RX4, "giveEyes", "(II)V"⟩
abbrev cX4_glass : ByteArray := prog_6_method_7_code
def yX4_glass : MethodName := ⟨RX4, "glass", "()I"⟩
abbrev cX4_sighted : ByteArray := prog_6_method_8_code
def yX4_sighted : MethodName := ⟨RX4, "sighted", "()J"⟩
abbrev cX4_nearestFar : ByteArray := prog_6_method_9_code
def yX4_nearestFar : MethodName := ⟨RX4, "nearestFar", "()I"⟩
abbrev cX4_nearestLand : ByteArray := prog_6_method_10_code
def yX4_nearestLand : MethodName := ⟨RX4, "nearestLand", "()I"⟩
abbrev cX4_reasonAgainst : ByteArray := prog_6_method_11_code
def yX4_reasonAgainst : MethodName := ⟨RX4, "reasonAgainst", "(III)I"⟩
abbrev cX4_reasonAgainstSailing : ByteArray := prog_6_method_12_code
def yX4_reasonAgainstSailing : MethodName := ⟨RX4, "reasonAgainstSailing", "(I)I"⟩
abbrev cX4_perform : ByteArray := prog_6_method_13_code
def yX4_perform : MethodName := ⟨RX4, "perform", "(III)V"⟩
abbrev cX4_goOrStrike : ByteArray := prog_6_method_14_code
def yX4_goOrStrike : MethodName := ⟨RX4, "goOrStrike", "(I)V"⟩
abbrev cX4_passAnHour : ByteArray := prog_6_method_15_code
def yX4_passAnHour : MethodName := ⟨RX4, "passAnHour", "()V"⟩
def RX5 : String := "MastPulpits$Voyage"
def TX5 : u_T := fun k => match k with
  | 0 => ("MastPulpits$Voyage", "seaThen", "LMastPulpits$Sea;", true)
  | 1 => ("MastPulpits$Voyage", "acts", "I", false)
  | 2 => ("MastPulpits$Voyage", "stoppedAt", "I", false)
  | 3 => ("MastPulpits$Voyage", "reason", "I", false)
  | 4 => ("MastPulpits$Voyage", "strikes", "I", false)
  | 5 => ("MastPulpits$Voyage", "calls", "I", false)
  | 6 => ("MastPulpits$Voyage", "silences", "I", false)
  | _ => ("MastPulpits$Voyage", "firstSilence", "I", false)
def tyX5 : Nat → FieldType := fun k => match k with
  | 0 => .object "MastPulpits$Sea"
  | 1 => .int
  | 2 => .int
  | 3 => .int
  | 4 => .int
  | 5 => .int
  | 6 => .int
  | _ => .int
abbrev wsX50 : List Cond := u_ws RX5 TX5 8
theorem nmX5 : ∀ a, a < 8 → ∀ b, b < 8 → a ≠ b → (TX5 a).2.1 ≠ (TX5 b).2.1 := by decide +kernel
theorem tyX5_ok : ∀ k, k < 8 → parseFieldDescriptor (TX5 k).2.2.1 = some (tyX5 k) := by decide +kernel
abbrev cX5_init : ByteArray := prog_7_method_1_code
def yX5_init : MethodName := ⟨RX5, "<init>", "()V"⟩
abbrev cX5_setOut : ByteArray := prog_7_method_2_code
def yX5_setOut : MethodName := ⟨RX5, "setOut", "(LMastPulpits$Sea;)V"⟩
abbrev cX5_sailByText : ByteArray := prog_7_method_3_code
def yX5_sailByText : MethodName := ⟨RX5, "sailByText", "(LMastPulpits$Sea;LMastPulpits$Pad;)V"⟩
abbrev cX5_sailByDraws : ByteArray := prog_7_method_4_code
def yX5_sailByDraws : MethodName := ⟨RX5, "sailByDraws", "(LMastPulpits$Sea;II)V"⟩
abbrev cX5_drawnAct : ByteArray := prog_7_method_5_code
def yX5_drawnAct : MethodName := ⟨RX5, "drawnAct", "(I)I"⟩
abbrev cX5_tryAct : ByteArray := prog_7_method_6_code
def yX5_tryAct : MethodName := ⟨RX5, "tryAct", "(II)I"⟩
abbrev cX5_countCall : ByteArray := prog_7_method_7_code
def yX5_countCall : MethodName := ⟨RX5, "countCall", "(J)V"⟩
def RX6 : String := "MastPulpits"
def TX6 : u_T := fun k => match k with
  | 0 => ("MastPulpits", "sea", "LMastPulpits$Sea;", true)
  | 1 => ("MastPulpits", "pad", "LMastPulpits$Pad;", true)
  | 2 => ("MastPulpits", "voyage", "LMastPulpits$Voyage;", true)
  | 3 => ("MastPulpits", "cutter", "LMastPulpits$RopeCutter;", true)
  | 4 => ("MastPulpits", "lookouts", "LMastPulpits$Lookouts;", true)
  | 5 => ("MastPulpits", "images", "[LMastPulpits$Sea;", true)
  | _ => ("MastPulpits", "kept", "[Z", true)
def tyX6 : Nat → FieldType := fun k => match k with
  | 0 => .object "MastPulpits$Sea"
  | 1 => .object "MastPulpits$Pad"
  | 2 => .object "MastPulpits$Voyage"
  | 3 => .object "MastPulpits$RopeCutter"
  | 4 => .object "MastPulpits$Lookouts"
  | 5 => .array (.object "MastPulpits$Sea")
  | _ => .array .boolean
abbrev wsX60 : List Cond := u_ws RX6 TX6 7
theorem nmX6 : ∀ a, a < 7 → ∀ b, b < 7 → a ≠ b → (TX6 a).2.1 ≠ (TX6 b).2.1 := by decide +kernel
theorem tyX6_ok : ∀ k, k < 7 → parseFieldDescriptor (TX6 k).2.2.1 = some (tyX6 k) := by decide +kernel
abbrev cX6_init : ByteArray := prog_1_method_1_code
def yX6_init : MethodName := ⟨RX6, "<init>", "()V"⟩
abbrev cX6_land : ByteArray := prog_1_method_2_code
def yX6_land : MethodName := ⟨RX6, "land", "(II)I"⟩
abbrev cX6_ship : ByteArray := prog_1_method_3_code
def yX6_ship : MethodName := ⟨RX6, "ship", "(II)I"⟩
abbrev cX6_watcher : ByteArray := prog_1_method_4_code
def yX6_watcher : MethodName := ⟨RX6, "watcher", "(II)I"⟩
abbrev cX6_fog : ByteArray := prog_1_method_5_code
def yX6_fog : MethodName := ⟨RX6, "fog", "(I)I"⟩
abbrev cX6_say : ByteArray := prog_1_method_6_code
def yX6_say : MethodName := ⟨RX6, "say", "(I)I"⟩
abbrev cX6_wipe : ByteArray := prog_1_method_7_code
def yX6_wipe : MethodName := ⟨RX6, "wipe", "()I"⟩
abbrev cX6_fault : ByteArray := prog_1_method_8_code
def yX6_fault : MethodName := ⟨RX6, "fault", "()I"⟩
abbrev cX6_judge : ByteArray := prog_1_method_9_code
def yX6_judge : MethodName := ⟨RX6, "judge", "(I)I"⟩
abbrev cX6_behind : ByteArray := prog_1_method_10_code
def yX6_behind : MethodName := ⟨RX6, "behind", "(I)I"⟩
abbrev cX6_seen : ByteArray := prog_1_method_11_code
def yX6_seen : MethodName := ⟨RX6, "seen", "(I)I"⟩
abbrev cX6_silence : ByteArray := prog_1_method_12_code
def yX6_silence : MethodName := ⟨RX6, "silence", "(I)I"⟩
abbrev cX6_done : ByteArray := prog_1_method_13_code
def yX6_done : MethodName := ⟨RX6, "done", "()I"⟩
abbrev cX6_course : ByteArray := prog_1_method_14_code
def yX6_course : MethodName := ⟨RX6, "course", "(III)I"⟩
abbrev cX6_cross : ByteArray := prog_1_method_15_code
def yX6_cross : MethodName := ⟨RX6, "cross", "(IIIII)I"⟩
abbrev cX6_ropes : ByteArray := prog_1_method_16_code
def yX6_ropes : MethodName := ⟨RX6, "ropes", "(IIII)I"⟩
abbrev cX6_look : ByteArray := prog_1_method_17_code
def yX6_look : MethodName := ⟨RX6, "look", "(IIZ)I"⟩
abbrev cX6_forget : ByteArray := prog_1_method_18_code
def yX6_forget : MethodName := ⟨RX6, "forget", "()I"⟩
abbrev cX6_light : ByteArray := prog_1_method_19_code
def yX6_light : MethodName := ⟨RX6, "light", "(I)I"⟩
abbrev cX6_ask : ByteArray := prog_1_method_20_code
def yX6_ask : MethodName := ⟨RX6, "ask", "(I)I"⟩
abbrev cX6_tack : ByteArray := prog_1_method_21_code
def yX6_tack : MethodName := ⟨RX6, "tack", "(II)I"⟩
abbrev cX6_first : ByteArray := prog_1_method_22_code
def yX6_first : MethodName := ⟨RX6, "first", "(IIIII)J"⟩
abbrev cX6_year : ByteArray := prog_1_method_23_code
def yX6_year : MethodName := ⟨RX6, "year", "(III)I"⟩
abbrev cX6_image : ByteArray := prog_1_method_24_code
def yX6_image : MethodName := ⟨RX6, "image", "(I)I"⟩
abbrev cX6_restore : ByteArray := prog_1_method_25_code
def yX6_restore : MethodName := ⟨RX6, "restore", "(I)I"⟩
abbrev cX6_told : ByteArray := prog_1_method_26_code
def yX6_told : MethodName := ⟨RX6, "told", "(I)I"⟩
abbrev cX6_within : ByteArray := prog_1_method_27_code
def yX6_within : MethodName := ⟨RX6, "within", "(III)Z"⟩
abbrev cX6_isImage : ByteArray := prog_1_method_28_code
def yX6_isImage : MethodName := ⟨RX6, "isImage", "(I)Z"⟩
abbrev cX6_sailTheText : ByteArray := prog_1_method_29_code
def yX6_sailTheText : MethodName := ⟨RX6, "sailTheText", "(IIZ)I"⟩
abbrev cX6_shipAndWatch : ByteArray := prog_1_method_30_code
def yX6_shipAndWatch : MethodName := ⟨RX6, "shipAndWatch", "(LMastPulpits$Sea;I)I"⟩
abbrev cX6_fewestSteps : ByteArray := prog_1_method_31_code
def yX6_fewestSteps : MethodName := ⟨RX6, "fewestSteps", "(III)I"⟩
abbrev cX6_bestNextLook : ByteArray := prog_1_method_32_code
def yX6_bestNextLook : MethodName := ⟨RX6, "bestNextLook", "(JI)I"⟩
def RX7 : String := "MastPulpitsModel"
def TX7 : u_T := fun k => match k with
  | 0 => ("MastPulpitsModel", "ground", "[I", true)
  | 1 => ("MastPulpitsModel", "place", "I", false)
  | 2 => ("MastPulpitsModel", "hull", "I", false)
  | 3 => ("MastPulpitsModel", "eyes", "[I", true)
  | 4 => ("MastPulpitsModel", "who", "I", false)
  | 5 => ("MastPulpitsModel", "hours", "I", false)
  | 6 => ("MastPulpitsModel", "mist", "I", false)
  | 7 => ("MastPulpitsModel", "hour", "I", false)
  | 8 => ("MastPulpitsModel", "sightCell", "[I", true)
  | 9 => ("MastPulpitsModel", "sightGlass", "[I", true)
  | 10 => ("MastPulpitsModel", "sightSees", "[I", true)
  | 11 => ("MastPulpitsModel", "sights", "I", false)
  | 12 => ("MastPulpitsModel", "pad", "[I", true)
  | 13 => ("MastPulpitsModel", "padMany", "I", false)
  | 14 => ("MastPulpitsModel", "act", "[I", true)
  | 15 => ("MastPulpitsModel", "much", "[I", true)
  | 16 => ("MastPulpitsModel", "acts", "I", false)
  | 17 => ("MastPulpitsModel", "strikes", "I", false)
  | 18 => ("MastPulpitsModel", "calls", "I", false)
  | 19 => ("MastPulpitsModel", "silences", "I", false)
  | 20 => ("MastPulpitsModel", "had", "[I", true)
  | 21 => ("MastPulpitsModel", "badAct", "I", false)
  | 22 => ("MastPulpitsModel", "badWhy", "I", false)
  | 23 => ("MastPulpitsModel", "silentAct", "I", false)
  | 24 => ("MastPulpitsModel", "steps", "[I", true)
  | 25 => ("MastPulpitsModel", "pieces", "[I", true)
  | 26 => ("MastPulpitsModel", "used", "[I", true)
  | 27 => ("MastPulpitsModel", "fit", "[I", true)
  | 28 => ("MastPulpitsModel", "fitMany", "I", false)
  | 29 => ("MastPulpitsModel", "wins", "[Z", true)
  | 30 => ("MastPulpitsModel", "kept", "[I", true)
  | 31 => ("MastPulpitsModel", "isKept", "[Z", true)
  | 32 => ("MastPulpitsModel", "keptAt", "I", false)
  | _ => ("MastPulpitsModel", "isWriting", "Z", false)
def tyX7 : Nat → FieldType := fun k => match k with
  | 0 => .array .int
  | 1 => .int
  | 2 => .int
  | 3 => .array .int
  | 4 => .int
  | 5 => .int
  | 6 => .int
  | 7 => .int
  | 8 => .array .int
  | 9 => .array .int
  | 10 => .array .int
  | 11 => .int
  | 12 => .array .int
  | 13 => .int
  | 14 => .array .int
  | 15 => .array .int
  | 16 => .int
  | 17 => .int
  | 18 => .int
  | 19 => .int
  | 20 => .array .int
  | 21 => .int
  | 22 => .int
  | 23 => .int
  | 24 => .array .int
  | 25 => .array .int
  | 26 => .array .int
  | 27 => .array .int
  | 28 => .int
  | 29 => .array .boolean
  | 30 => .array .int
  | 31 => .array .boolean
  | 32 => .int
  | _ => .boolean
abbrev wsX70 : List Cond := u_ws RX7 TX7 34
theorem nmX7 : ∀ a, a < 34 → ∀ b, b < 34 → a ≠ b → (TX7 a).2.1 ≠ (TX7 b).2.1 := by decide +kernel
theorem tyX7_ok : ∀ k, k < 34 → parseFieldDescriptor (TX7 k).2.2.1 = some (tyX7 k) := by decide +kernel
abbrev cX7_init : ByteArray := prog_9_method_1_code
def yX7_init : MethodName := ⟨RX7, "<init>", "()V"⟩
abbrev cX7_in : ByteArray := prog_9_method_3_code
def yX7_in : MethodName := ⟨RX7, "in", "(JJJ)Z"⟩
abbrev cX7_isCell : ByteArray := prog_9_method_4_code
def yX7_isCell : MethodName := ⟨RX7, "isCell", "(I)Z"⟩
abbrev cX7_isWay : ByteArray := prog_9_method_5_code
def yX7_isWay : MethodName := ⟨RX7, "isWay", "(I)Z"⟩
abbrev cX7_less : ByteArray := prog_9_method_6_code
def yX7_less : MethodName := ⟨RX7, "less", "(II)I"⟩
abbrev cX7_off : ByteArray := prog_9_method_7_code
def yX7_off : MethodName := ⟨RX7, "off", "(II)I"⟩
abbrev cX7_far : ByteArray := prog_9_method_8_code
def yX7_far : MethodName := ⟨RX7, "far", "(II)I"⟩
abbrev cX7_downwards : ByteArray := prog_9_method_9_code
def yX7_downwards : MethodName := ⟨RX7, "downwards", "(I)I"⟩
abbrev cX7_across : ByteArray := prog_9_method_10_code
def yX7_across : MethodName := ⟨RX7, "across", "(I)I"⟩
abbrev cX7_beside : ByteArray := prog_9_method_11_code
def yX7_beside : MethodName := ⟨RX7, "beside", "(III)I"⟩
abbrev cX7_ahead : ByteArray := prog_9_method_12_code
def yX7_ahead : MethodName := ⟨RX7, "ahead", "(II)I"⟩
abbrev cX7_landMany : ByteArray := prog_9_method_13_code
def yX7_landMany : MethodName := ⟨RX7, "landMany", "()I"⟩
abbrev cX7_land : ByteArray := prog_9_method_14_code
def yX7_land : MethodName := ⟨RX7, "land", "(II)I"⟩
abbrev cX7_ship : ByteArray := prog_9_method_15_code
def yX7_ship : MethodName := ⟨RX7, "ship", "(II)I"⟩
abbrev cX7_watcher : ByteArray := prog_9_method_16_code
def yX7_watcher : MethodName := ⟨RX7, "watcher", "(II)I"⟩
abbrev cX7_fog : ByteArray := prog_9_method_17_code
def yX7_fog : MethodName := ⟨RX7, "fog", "(I)I"⟩
abbrev cX7_say : ByteArray := prog_9_method_18_code
def yX7_say : MethodName := ⟨RX7, "say", "(I)I"⟩
abbrev cX7_wipe : ByteArray := prog_9_method_19_code
def yX7_wipe : MethodName := ⟨RX7, "wipe", "()I"⟩
abbrev cX7_close : ByteArray := prog_9_method_20_code
def yX7_close : MethodName := ⟨RX7, "close", "(I)I"⟩
abbrev cX7_begin : ByteArray := prog_9_method_21_code
def yX7_begin : MethodName := ⟨RX7, "begin", "(I)I"⟩
abbrev cX7_digit : ByteArray := prog_9_method_22_code
def yX7_digit : MethodName := ⟨RX7, "digit", "(II)I"⟩
abbrev cX7_readOn : ByteArray := prog_9_method_23_code
def yX7_readOn : MethodName := ⟨RX7, "readOn", "(II)I"⟩
abbrev cX7_fault : ByteArray := prog_9_method_24_code
def yX7_fault : MethodName := ⟨RX7, "fault", "()I"⟩
abbrev cX7_whyNoSail : ByteArray := prog_9_method_25_code
def yX7_whyNoSail : MethodName := ⟨RX7, "whyNoSail", "(I)I"⟩
abbrev cX7_whyNot : ByteArray := prog_9_method_26_code
def yX7_whyNot : MethodName := ⟨RX7, "whyNot", "(II)I"⟩
abbrev cX7_glass : ByteArray := prog_9_method_27_code
def yX7_glass : MethodName := ⟨RX7, "glass", "()I"⟩
abbrev cX7_isSeen : ByteArray := prog_9_method_28_code
def yX7_isSeen : MethodName := ⟨RX7, "isSeen", "(I)Z"⟩
abbrev cX7_seenMany : ByteArray := prog_9_method_29_code
def yX7_seenMany : MethodName := ⟨RX7, "seenMany", "()I"⟩
abbrev cX7_nearest : ByteArray := prog_9_method_30_code
def yX7_nearest : MethodName := ⟨RX7, "nearest", "()I"⟩
abbrev cX7_climb : ByteArray := prog_9_method_31_code
def yX7_climb : MethodName := ⟨RX7, "climb", "(I)V"⟩
abbrev cX7_sail : ByteArray := prog_9_method_32_code
def yX7_sail : MethodName := ⟨RX7, "sail", "(I)V"⟩
abbrev cX7_call : ByteArray := prog_9_method_33_code
def yX7_call : MethodName := ⟨RX7, "call", "()V"⟩
abbrev cX7_passHour : ByteArray := prog_9_method_34_code
def yX7_passHour : MethodName := ⟨RX7, "passHour", "()V"⟩
abbrev cX7_happen : ByteArray := prog_9_method_35_code
def yX7_happen : MethodName := ⟨RX7, "happen", "(II)V"⟩
abbrev cX7_keepNow : ByteArray := prog_9_method_36_code
def yX7_keepNow : MethodName := ⟨RX7, "keepNow", "()V"⟩
abbrev cX7_back : ByteArray := prog_9_method_37_code
def yX7_back : MethodName := ⟨RX7, "back", "(I)I"⟩
abbrev cX7_goVoyages : ByteArray := prog_9_method_38_code
def yX7_goVoyages : MethodName := ⟨RX7, "goVoyages", "()V"⟩
abbrev cX7_refusal : ByteArray := prog_9_method_39_code
def yX7_refusal : MethodName := ⟨RX7, "refusal", "()I"⟩
abbrev cX7_judge : ByteArray := prog_9_method_40_code
def yX7_judge : MethodName := ⟨RX7, "judge", "(I)I"⟩
abbrev cX7_ofShip : ByteArray := prog_9_method_41_code
def yX7_ofShip : MethodName := ⟨RX7, "ofShip", "(I)I"⟩
abbrev cX7_behind : ByteArray := prog_9_method_42_code
def yX7_behind : MethodName := ⟨RX7, "behind", "(I)I"⟩
abbrev cX7_ofSeen : ByteArray := prog_9_method_43_code
def yX7_ofSeen : MethodName := ⟨RX7, "ofSeen", "(I)I"⟩
abbrev cX7_seen : ByteArray := prog_9_method_44_code
def yX7_seen : MethodName := ⟨RX7, "seen", "(I)I"⟩
abbrev cX7_silence : ByteArray := prog_9_method_45_code
def yX7_silence : MethodName := ⟨RX7, "silence", "(I)I"⟩
abbrev cX7_done : ByteArray := prog_9_method_46_code
def yX7_done : MethodName := ⟨RX7, "done", "()I"⟩
abbrev cX7_wayTo : ByteArray := prog_9_method_47_code
def yX7_wayTo : MethodName := ⟨RX7, "wayTo", "(II)I"⟩
abbrev cX7_oneStepMore : ByteArray := prog_9_method_48_code
def yX7_oneStepMore : MethodName := ⟨RX7, "oneStepMore", "(I)Z"⟩
abbrev cX7_course : ByteArray := prog_9_method_49_code
def yX7_course : MethodName := ⟨RX7, "course", "(III)I"⟩
abbrev cX7_bears : ByteArray := prog_9_method_50_code
def yX7_bears : MethodName := ⟨RX7, "bears", "(III)Z"⟩
abbrev cX7_cross : ByteArray := prog_9_method_51_code
def yX7_cross : MethodName := ⟨RX7, "cross", "(IIIII)I"⟩
abbrev cX7_readPieces : ByteArray := prog_9_method_52_code
def yX7_readPieces : MethodName := ⟨RX7, "readPieces", "(II)Z"⟩
abbrev cX7_cutMore : ByteArray := prog_9_method_53_code
def yX7_cutMore : MethodName := ⟨RX7, "cutMore", "(III)I"⟩
abbrev cX7_ropesOf : ByteArray := prog_9_method_54_code
def yX7_ropesOf : MethodName := ⟨RX7, "ropesOf", "(II)I"⟩
abbrev cX7_mostPieces : ByteArray := prog_9_method_55_code
def yX7_mostPieces : MethodName := ⟨RX7, "mostPieces", "(II)I"⟩
abbrev cX7_ropes : ByteArray := prog_9_method_56_code
def yX7_ropes : MethodName := ⟨RX7, "ropes", "(IIII)I"⟩
abbrev cX7_look : ByteArray := prog_9_method_57_code
def yX7_look : MethodName := ⟨RX7, "look", "(IIZ)I"⟩
abbrev cX7_forget : ByteArray := prog_9_method_58_code
def yX7_forget : MethodName := ⟨RX7, "forget", "()I"⟩
abbrev cX7_isFit : ByteArray := prog_9_method_59_code
def yX7_isFit : MethodName := ⟨RX7, "isFit", "(I)Z"⟩
abbrev cX7_findFits : ByteArray := prog_9_method_60_code
def yX7_findFits : MethodName := ⟨RX7, "findFits", "()V"⟩
abbrev cX7_light : ByteArray := prog_9_method_61_code
def yX7_light : MethodName := ⟨RX7, "light", "(I)I"⟩
abbrev cX7_mostLeft : ByteArray := prog_9_method_62_code
def yX7_mostLeft : MethodName := ⟨RX7, "mostLeft", "(II)I"⟩
abbrev cX7_ask : ByteArray := prog_9_method_63_code
def yX7_ask : MethodName := ⟨RX7, "ask", "(I)I"⟩
abbrev cX7_tackTo : ByteArray := prog_9_method_64_code
def yX7_tackTo : MethodName := ⟨RX7, "tackTo", "(II)I"⟩
abbrev cX7_leastTack : ByteArray := prog_9_method_65_code
def yX7_leastTack : MethodName := ⟨RX7, "leastTack", "(I)I"⟩
abbrev cX7_tack : ByteArray := prog_9_method_66_code
def yX7_tack : MethodName := ⟨RX7, "tack", "(II)I"⟩
abbrev cX7_lowest : ByteArray := prog_9_method_67_code
def yX7_lowest : MethodName := ⟨RX7, "lowest", "(JJI)J"⟩
abbrev cX7_first : ByteArray := prog_9_method_68_code
def yX7_first : MethodName := ⟨RX7, "first", "(IIIII)J"⟩
abbrev cX7_actBy : ByteArray := prog_9_method_69_code
def yX7_actBy : MethodName := ⟨RX7, "actBy", "(I)I"⟩
abbrev cX7_year : ByteArray := prog_9_method_70_code
def yX7_year : MethodName := ⟨RX7, "year", "(III)I"⟩
abbrev cX7_pass : ByteArray := prog_9_method_71_code
def yX7_pass : MethodName := ⟨RX7, "pass", "(I)I"⟩
abbrev cX7_passRow : ByteArray := prog_9_method_72_code
def yX7_passRow : MethodName := ⟨RX7, "passRow", "([II)V"⟩
abbrev cX7_passAll : ByteArray := prog_9_method_73_code
def yX7_passAll : MethodName := ⟨RX7, "passAll", "()V"⟩
abbrev cX7_image : ByteArray := prog_9_method_74_code
def yX7_image : MethodName := ⟨RX7, "image", "(I)I"⟩
abbrev cX7_restore : ByteArray := prog_9_method_75_code
def yX7_restore : MethodName := ⟨RX7, "restore", "(I)I"⟩
abbrev cX7_told : ByteArray := prog_9_method_76_code
def yX7_told : MethodName := ⟨RX7, "told", "(I)I"⟩
def RJ13 : String := "java/lang/Long"
def TJ13 : u_T := fun k => match k with
  | _ => ("", "", "", false)
def tyJ13 : Nat → FieldType := fun k => match k with
  | _ => .int
abbrev wsJ130 : List Cond := u_ws RJ13 TJ13 0
theorem nmJ13 : ∀ a, a < 0 → ∀ b, b < 0 → a ≠ b → (TJ13 a).2.1 ≠ (TJ13 b).2.1 := by decide +kernel
theorem tyJ13_ok : ∀ k, k < 0 → parseFieldDescriptor (TJ13 k).2.2.1 = some (tyJ13 k) := by decide +kernel
abbrev cJ13_bitCount_95d88 : ByteArray := prog_10_method_50_code
def yJ13_bitCount_95d88 : MethodName := ⟨RJ13, "bitCount", "(J)I"⟩
def RJ9 : String := "java/lang/Math"
def TJ9 : u_T := fun k => match k with
  | _ => ("", "", "", false)
def tyJ9 : Nat → FieldType := fun k => match k with
  | _ => .int
abbrev wsJ90 : List Cond := u_ws RJ9 TJ9 0
theorem nmJ9 : ∀ a, a < 0 → ∀ b, b < 0 → a ≠ b → (TJ9 a).2.1 ≠ (TJ9 b).2.1 := by decide +kernel
theorem tyJ9_ok : ∀ k, k < 0 → parseFieldDescriptor (TJ9 k).2.2.1 = some (tyJ9 k) := by decide +kernel
abbrev cJ9_max_7cf53 : ByteArray := prog_11_method_65_code
def yJ9_max_7cf53 : MethodName := ⟨RJ9, "max", "(II)I"⟩
abbrev cJ9_min_7cf53 : ByteArray := prog_11_method_69_code
def yJ9_min_7cf53 : MethodName := ⟨RJ9, "min", "(II)I"⟩
def RL : String := "MastPulpitsLaw"
abbrev cL_law : ByteArray := code
def yL_law : MethodName := ⟨RL, "law", "([I)Z"⟩
def wsX0_isCell : List Cond := .code yX0_isCell cX0_isCell 1 (some .boolean) :: ([])
def wsX0_isWay : List Cond := .code yX0_isWay cX0_isWay 1 (some .boolean) :: ([])
def wsX0_only : List Cond := .code yX0_only cX0_only 1 (some .long) :: ([])
def wsX0_holds : List Cond := .code yX0_holds cX0_holds 3 (some .boolean) :: ([])
def wsJ13_bitCount_95d88 : List Cond := .code yJ13_bitCount_95d88 cJ13_bitCount_95d88 2 (some .int) :: ([.constantLong RJ13 314 (6148914691236517205), .constantLong RJ13 316 (3689348814741910323), .constantLong RJ13 318 (1085102592571150095)])
def wsX0_least : List Cond := .code yX0_least cX0_least 2 (some .int) :: ([.methodLink RX0 11 yJ13_bitCount_95d88, .static yJ13_bitCount_95d88, .initialized RJ13, .code yJ13_bitCount_95d88 cJ13_bitCount_95d88 2 (some .int), .constantLong RJ13 314 (6148914691236517205), .constantLong RJ13 316 (3689348814741910323), .constantLong RJ13 318 (1085102592571150095)])
def wsX0_moved : List Cond := .code yX0_moved cX0_moved 6 (some .int) :: ([])
def wsX0_next : List Cond := .code yX0_next cX0_next 2 (some .int) :: ([.fieldLink RX0 21 "MastPulpits$Chart" "ROWS_OF_WAY" "[I", .fieldLink RX0 25 "MastPulpits$Chart" "COLUMNS_OF_WAY" "[I", .methodLink RX0 17 yX0_isCell, .static yX0_isCell, .initialized RX0, .code yX0_isCell cX0_isCell 1 (some .boolean), .methodLink RX0 28 yX0_moved, .static yX0_moved, .code yX0_moved cX0_moved 6 (some .int)])
def wsX0_ray : List Cond := .code yX0_ray cX0_ray 6 (some .long) :: ([.methodLink RX0 32 yX0_next, .static yX0_next, .initialized RX0, .code yX0_next cX0_next 2 (some .int), .fieldLink RX0 21 "MastPulpits$Chart" "ROWS_OF_WAY" "[I", .fieldLink RX0 25 "MastPulpits$Chart" "COLUMNS_OF_WAY" "[I", .methodLink RX0 17 yX0_isCell, .static yX0_isCell, .code yX0_isCell cX0_isCell 1 (some .boolean), .methodLink RX0 28 yX0_moved, .static yX0_moved, .code yX0_moved cX0_moved 6 (some .int), .methodLink RX0 36 yX0_only, .static yX0_only, .code yX0_only cX0_only 1 (some .long)])
def wsX0_around : List Cond := .code yX0_around cX0_around 12 (some .long) :: ([.methodLink RX0 40 Lib.Math.max.name, .static Lib.Math.max.name, .initialized "java/lang/Math", .code Lib.Math.max.name Lib.Math.max.code 2 (some .int), .methodLink RX0 45 Lib.Math.min.name, .static Lib.Math.min.name, .code Lib.Math.min.name Lib.Math.min.code 2 (some .int), .constantLong RX0 48 (-1), .constantLong RX0 50 (255), .constantLong RX0 52 (72340172838076673)])
def wsX0_spread : List Cond := .code yX0_spread cX0_spread 8 (some .long) :: ([.constantLong RX0 54 (-72340172838076674)])
def wsX0_leastWayInto : List Cond := .code yX0_leastWayInto cX0_leastWayInto 4 (some .int) :: ([.methodLink RX0 32 yX0_next, .static yX0_next, .initialized RX0, .code yX0_next cX0_next 2 (some .int), .fieldLink RX0 21 "MastPulpits$Chart" "ROWS_OF_WAY" "[I", .fieldLink RX0 25 "MastPulpits$Chart" "COLUMNS_OF_WAY" "[I", .methodLink RX0 17 yX0_isCell, .static yX0_isCell, .code yX0_isCell cX0_isCell 1 (some .boolean), .methodLink RX0 28 yX0_moved, .static yX0_moved, .code yX0_moved cX0_moved 6 (some .int), .methodLink RX0 56 yX0_holds, .static yX0_holds, .code yX0_holds cX0_holds 3 (some .boolean)])
def wsX0_tacksFrom : List Cond := .code yX0_tacksFrom cX0_tacksFrom 1 (some .long) :: ([.methodLink RX0 28 yX0_moved, .static yX0_moved, .initialized RX0, .code yX0_moved cX0_moved 6 (some .int), .methodLink RX0 36 yX0_only, .static yX0_only, .code yX0_only cX0_only 1 (some .long)])
def wsX0_cellsWhereTackingLoses : List Cond := .code yX0_cellsWhereTackingLoses cX0_cellsWhereTackingLoses 5 (some .long) :: ([.methodLink RX0 40 Lib.Math.max.name, .static Lib.Math.max.name, .initialized "java/lang/Math", .code Lib.Math.max.name Lib.Math.max.code 2 (some .int), .methodLink RX0 45 Lib.Math.min.name, .static Lib.Math.min.name, .code Lib.Math.min.name Lib.Math.min.code 2 (some .int), .methodLink RX0 60 yX0_tacksFrom, .static yX0_tacksFrom, .initialized RX0, .code yX0_tacksFrom cX0_tacksFrom 1 (some .long), .methodLink RX0 28 yX0_moved, .static yX0_moved, .code yX0_moved cX0_moved 6 (some .int), .methodLink RX0 36 yX0_only, .static yX0_only, .code yX0_only cX0_only 1 (some .long)])
def wsX1_init : List Cond := .code yX1_init cX1_init 1 none :: ([.methodLink RX1 1 objectInit, .instanceMethod objectInit, .code objectInit ⟨#[0xb1]⟩ 1 none])
def wsX1_watchByTurns : List Cond := .code yX1_watchByTurns cX1_watchByTurns 7 none :: ([.fieldLink RX1 7 "MastPulpits$Lookouts" "byFirst" "J", .fieldLink RX1 13 "MastPulpits$Lookouts" "byOther" "J", .fieldLink RX1 16 "MastPulpits$Lookouts" "byNobody" "J", .fieldLink RX1 19 "MastPulpits$Lookouts" "outOf" "J", .constantLong RX1 22 (10)] ++ wsX10)
def wsX1_partOf : List Cond := .code yX1_partOf cX1_partOf 9 (some .long) :: ([.fieldLink RX1 19 "MastPulpits$Lookouts" "outOf" "J", .constantLong RX1 28 (2), .constantLong RX1 30 (5)] ++ wsX10)
def wsX1_chance : List Cond := .code yX1_chance cX1_chance 3 (some .long) :: ([.fieldLink RX1 7 "MastPulpits$Lookouts" "byFirst" "J", .fieldLink RX1 13 "MastPulpits$Lookouts" "byOther" "J", .fieldLink RX1 16 "MastPulpits$Lookouts" "byNobody" "J", .methodLink RX1 24 yX1_partOf, .instanceMethod yX1_partOf, .selects RX1 yX1_partOf yX1_partOf, .initialized RX1, .code yX1_partOf cX1_partOf 9 (some .long), .fieldLink RX1 19 "MastPulpits$Lookouts" "outOf" "J", .constantLong RX1 28 (2), .constantLong RX1 30 (5)] ++ wsX10)
def wsX2_init : List Cond := .code yX2_init cX2_init 1 none :: ([.methodLink RX2 3 objectInit, .instanceMethod objectInit, .code objectInit ⟨#[0xb1]⟩ 1 none, .arrayClass .int, .fieldLink RX2 9 "MastPulpits$Pad" "signs" "[I", .fieldLink RX2 15 "MastPulpits$Pad" "length" "I"] ++ wsX20)
def wsX2_write : List Cond := .code yX2_write cX2_write 2 (some .boolean) :: ([.fieldLink RX2 15 "MastPulpits$Pad" "length" "I", .fieldLink RX2 9 "MastPulpits$Pad" "signs" "[I"] ++ wsX20)
def wsX2_signAt : List Cond := .code yX2_signAt cX2_signAt 2 (some .int) :: ([.fieldLink RX2 15 "MastPulpits$Pad" "length" "I", .fieldLink RX2 9 "MastPulpits$Pad" "signs" "[I"] ++ wsX20)
def wsX2_isLetter : List Cond := .code yX2_isLetter cX2_isLetter 1 (some .boolean) :: ([])
def wsX2_isDigit : List Cond := .code yX2_isDigit cX2_isDigit 1 (some .boolean) :: ([])
def wsX2_actAt : List Cond := .code yX2_actAt cX2_actAt 4 (some .int) :: ([.methodLink RX2 19 yX2_signAt, .instanceMethod yX2_signAt, .selects RX2 yX2_signAt yX2_signAt, .initialized RX2, .code yX2_signAt cX2_signAt 2 (some .int), .fieldLink RX2 15 "MastPulpits$Pad" "length" "I", .fieldLink RX2 9 "MastPulpits$Pad" "signs" "[I", .methodLink RX2 23 yX2_isLetter, .static yX2_isLetter, .code yX2_isLetter cX2_isLetter 1 (some .boolean), .methodLink RX2 27 yX2_isDigit, .static yX2_isDigit, .code yX2_isDigit cX2_isDigit 1 (some .boolean)] ++ wsX20)
def wsX2_withAt : List Cond := .code yX2_withAt cX2_withAt 3 (some .int) :: ([.methodLink RX2 19 yX2_signAt, .instanceMethod yX2_signAt, .selects RX2 yX2_signAt yX2_signAt, .initialized RX2, .code yX2_signAt cX2_signAt 2 (some .int), .fieldLink RX2 15 "MastPulpits$Pad" "length" "I", .fieldLink RX2 9 "MastPulpits$Pad" "signs" "[I", .methodLink RX2 23 yX2_isLetter, .static yX2_isLetter, .code yX2_isLetter cX2_isLetter 1 (some .boolean)] ++ wsX20)
def wsX2_signsOf : List Cond := .code yX2_signsOf cX2_signsOf 1 (some .int) :: ([])
def wsX2_needsASecond : List Cond := .code yX2_needsASecond cX2_needsASecond 1 (some .boolean) :: ([.methodLink RX2 23 yX2_isLetter, .static yX2_isLetter, .initialized RX2, .code yX2_isLetter cX2_isLetter 1 (some .boolean)])
def wsX2_firstFault : List Cond := .code yX2_firstFault cX2_firstFault 4 (some .int) :: ([.fieldLink RX2 15 "MastPulpits$Pad" "length" "I", .methodLink RX2 30 yX2_actAt, .instanceMethod yX2_actAt, .selects RX2 yX2_actAt yX2_actAt, .initialized RX2, .code yX2_actAt cX2_actAt 4 (some .int), .methodLink RX2 19 yX2_signAt, .instanceMethod yX2_signAt, .selects RX2 yX2_signAt yX2_signAt, .code yX2_signAt cX2_signAt 2 (some .int), .fieldLink RX2 9 "MastPulpits$Pad" "signs" "[I", .methodLink RX2 23 yX2_isLetter, .static yX2_isLetter, .code yX2_isLetter cX2_isLetter 1 (some .boolean), .methodLink RX2 27 yX2_isDigit, .static yX2_isDigit, .code yX2_isDigit cX2_isDigit 1 (some .boolean), .methodLink RX2 33 yX2_needsASecond, .static yX2_needsASecond, .code yX2_needsASecond cX2_needsASecond 1 (some .boolean), .methodLink RX2 36 yX2_signsOf, .static yX2_signsOf, .code yX2_signsOf cX2_signsOf 1 (some .int)] ++ wsX20)
def wsX3_init : List Cond := .code yX3_init cX3_init 1 none :: ([.methodLink RX3 3 objectInit, .instanceMethod objectInit, .code objectInit ⟨#[0xb1]⟩ 1 none, .arrayClass .int, .fieldLink RX3 11 "MastPulpits$RopeCutter" "pieces" "[I", .fieldLink RX3 15 "MastPulpits$RopeCutter" "cutOfSet" "[I", .fieldLink RX3 18 "MastPulpits$RopeCutter" "many" "I"] ++ wsX30)
def wsX3_takePieces : List Cond := .code yX3_takePieces cX3_takePieces 5 (some .boolean) :: ([.fieldLink RX3 18 "MastPulpits$RopeCutter" "many" "I", .fieldLink RX3 11 "MastPulpits$RopeCutter" "pieces" "[I"] ++ wsX30)
def wsX3_cutFurther : List Cond := .code yX3_cutFurther cX3_cutFurther 3 (some .int) :: ([])
def wsX3_leastCut : List Cond := .code yX3_leastCut cX3_leastCut 6 (some .int) :: ([.fieldLink RX3 18 "MastPulpits$RopeCutter" "many" "I", .fieldLink RX3 11 "MastPulpits$RopeCutter" "pieces" "[I", .fieldLink RX3 15 "MastPulpits$RopeCutter" "cutOfSet" "[I", .methodLink RX3 30 Lib.Math.min.name, .static Lib.Math.min.name, .initialized "java/lang/Math", .code Lib.Math.min.name Lib.Math.min.code 2 (some .int), .methodLink RX3 26 yX3_cutFurther, .static yX3_cutFurther, .initialized RX3, .code yX3_cutFurther cX3_cutFurther 3 (some .int)] ++ wsX30)
def wsX3_fewestRopes : List Cond := .code yX3_fewestRopes cX3_fewestRopes 3 (some .int) :: ([.fieldLink RX3 15 "MastPulpits$RopeCutter" "cutOfSet" "[I", .fieldLink RX3 18 "MastPulpits$RopeCutter" "many" "I", .methodLink RX3 22 yX3_leastCut, .instanceMethod yX3_leastCut, .selects RX3 yX3_leastCut yX3_leastCut, .initialized RX3, .code yX3_leastCut cX3_leastCut 6 (some .int), .fieldLink RX3 11 "MastPulpits$RopeCutter" "pieces" "[I", .methodLink RX3 30 Lib.Math.min.name, .static Lib.Math.min.name, .initialized "java/lang/Math", .code Lib.Math.min.name Lib.Math.min.code 2 (some .int), .methodLink RX3 26 yX3_cutFurther, .static yX3_cutFurther, .code yX3_cutFurther cX3_cutFurther 3 (some .int)] ++ wsX30)
def wsX3_mostFromOne : List Cond := .code yX3_mostFromOne cX3_mostFromOne 6 (some .int) :: ([.fieldLink RX3 18 "MastPulpits$RopeCutter" "many" "I", .fieldLink RX3 11 "MastPulpits$RopeCutter" "pieces" "[I"] ++ wsX30)
def wsX4_init : List Cond := .code yX4_init cX4_init 1 none :: ([.methodLink RX4 3 objectInit, .instanceMethod objectInit, .code objectInit ⟨#[0xb1]⟩ 1 none, .fieldLink RX4 9 "MastPulpits$Sea" "lands" "J", .fieldLink RX4 15 "MastPulpits$Sea" "shipCell" "I", .fieldLink RX4 19 "MastPulpits$Sea" "shipHull" "I", .fieldLink RX4 22 "MastPulpits$Sea" "up" "I", .fieldLink RX4 25 "MastPulpits$Sea" "hoursUp" "I", .fieldLink RX4 28 "MastPulpits$Sea" "fogNow" "I", .fieldLink RX4 31 "MastPulpits$Sea" "hourNow" "I", .fieldLink RX4 34 "MastPulpits$Sea" "sights" "I", .constantLong RX4 39 (-1), .fieldLink RX4 41 "MastPulpits$Sea" "fitting" "J", .arrayClass .int, .fieldLink RX4 44 "MastPulpits$Sea" "eyes" "[I"] ++ wsX40)
def wsX4_takeOver : List Cond := .code yX4_takeOver cX4_takeOver 3 none :: ([.fieldLink RX4 9 "MastPulpits$Sea" "lands" "J", .fieldLink RX4 15 "MastPulpits$Sea" "shipCell" "I", .fieldLink RX4 19 "MastPulpits$Sea" "shipHull" "I", .fieldLink RX4 22 "MastPulpits$Sea" "up" "I", .fieldLink RX4 25 "MastPulpits$Sea" "hoursUp" "I", .fieldLink RX4 28 "MastPulpits$Sea" "fogNow" "I", .fieldLink RX4 31 "MastPulpits$Sea" "hourNow" "I", .fieldLink RX4 34 "MastPulpits$Sea" "sights" "I", .fieldLink RX4 41 "MastPulpits$Sea" "fitting" "J", .fieldLink RX4 44 "MastPulpits$Sea" "eyes" "[I"] ++ wsX40)
def wsX4_isLand : List Cond := .code yX4_isLand cX4_isLand 2 (some .boolean) :: ([.fieldLink RX4 9 "MastPulpits$Sea" "lands" "J", .methodLink RX4 48 yX0_holds, .static yX0_holds, .initialized RX0, .code yX0_holds cX0_holds 3 (some .boolean)] ++ wsX40)
def wsX4_isWatcher : List Cond := .code yX4_isWatcher cX4_isWatcher 2 (some .boolean) :: ([.fieldLink RX4 44 "MastPulpits$Sea" "eyes" "[I"] ++ wsX40)
def wsX4_eyesOf : List Cond := .code yX4_eyesOf cX4_eyesOf 2 (some .int) :: ([.fieldLink RX4 44 "MastPulpits$Sea" "eyes" "[I"] ++ wsX40)
def wsX4_giveEyes : List Cond := .code yX4_giveEyes cX4_giveEyes 3 none :: ([.fieldLink RX4 44 "MastPulpits$Sea" "eyes" "[I"] ++ wsX40)
def wsX4_glass : List Cond := .code yX4_glass cX4_glass 3 (some .int) :: ([.fieldLink RX4 22 "MastPulpits$Sea" "up" "I", .fieldLink RX4 44 "MastPulpits$Sea" "eyes" "[I", .fieldLink RX4 28 "MastPulpits$Sea" "fogNow" "I", .methodLink RX4 52 Lib.Math.max.name, .static Lib.Math.max.name, .initialized "java/lang/Math", .code Lib.Math.max.name Lib.Math.max.code 2 (some .int), .fieldLink RX4 25 "MastPulpits$Sea" "hoursUp" "I"] ++ wsX40)
def wsX4_sighted_r1 : List Cond := [Cond.fieldLink RX4 22 "MastPulpits$Sea" "up" "I", Cond.fieldLink RX4 9 "MastPulpits$Sea" "lands" "J", Cond.fieldLink RX4 15 "MastPulpits$Sea" "shipCell" "I", Cond.methodLink RX4 58 yX4_glass, Cond.instanceMethod yX4_glass, Cond.selects RX4 yX4_glass yX4_glass, Cond.initialized RX4, Cond.code yX4_glass cX4_glass 3 (some .int), Cond.fieldLink RX4 44 "MastPulpits$Sea" "eyes" "[I", Cond.fieldLink RX4 28 "MastPulpits$Sea" "fogNow" "I", Cond.methodLink RX4 52 Lib.Math.max.name, Cond.static Lib.Math.max.name, Cond.initialized "java/lang/Math", Cond.code Lib.Math.max.name Lib.Math.max.code 2 (some .int), Cond.fieldLink RX4 25 "MastPulpits$Sea" "hoursUp" "I", Cond.methodLink RX4 62 yX0_around, Cond.static yX0_around, Cond.initialized RX0, Cond.code yX0_around cX0_around 12 (some .long), Cond.methodLink RX0 40 Lib.Math.max.name, Cond.methodLink RX0 45 Lib.Math.min.name, Cond.static Lib.Math.min.name, Cond.code Lib.Math.min.name Lib.Math.min.code 2 (some .int), Cond.constantLong RX0 48 (-1)]
def wsX4_sighted_r2 : List Cond := [Cond.constantLong RX0 50 (255), Cond.constantLong RX0 52 (72340172838076673)]
def wsX4_sighted : List Cond := .code yX4_sighted cX4_sighted 1 (some .long) :: ((wsX4_sighted_r1 ++ wsX4_sighted_r2) ++ wsX40)
def wsX4_nearestFar_r1 : List Cond := [Cond.fieldLink RX4 15 "MastPulpits$Sea" "shipCell" "I", Cond.methodLink RX4 66 yX4_sighted, Cond.instanceMethod yX4_sighted, Cond.selects RX4 yX4_sighted yX4_sighted, Cond.initialized RX4, Cond.code yX4_sighted cX4_sighted 1 (some .long), Cond.fieldLink RX4 22 "MastPulpits$Sea" "up" "I", Cond.fieldLink RX4 9 "MastPulpits$Sea" "lands" "J", Cond.methodLink RX4 58 yX4_glass, Cond.instanceMethod yX4_glass, Cond.selects RX4 yX4_glass yX4_glass, Cond.code yX4_glass cX4_glass 3 (some .int), Cond.fieldLink RX4 44 "MastPulpits$Sea" "eyes" "[I", Cond.fieldLink RX4 28 "MastPulpits$Sea" "fogNow" "I", Cond.methodLink RX4 52 Lib.Math.max.name, Cond.static Lib.Math.max.name, Cond.initialized "java/lang/Math", Cond.code Lib.Math.max.name Lib.Math.max.code 2 (some .int), Cond.fieldLink RX4 25 "MastPulpits$Sea" "hoursUp" "I", Cond.methodLink RX4 62 yX0_around, Cond.static yX0_around, Cond.initialized RX0, Cond.code yX0_around cX0_around 12 (some .long), Cond.methodLink RX0 40 Lib.Math.max.name]
def wsX4_nearestFar_r2 : List Cond := [Cond.methodLink RX0 45 Lib.Math.min.name, Cond.static Lib.Math.min.name, Cond.code Lib.Math.min.name Lib.Math.min.code 2 (some .int), Cond.constantLong RX0 48 (-1), Cond.constantLong RX0 50 (255), Cond.constantLong RX0 52 (72340172838076673)]
def wsX4_nearestFar : List Cond := .code yX4_nearestFar cX4_nearestFar 4 (some .int) :: ((wsX4_nearestFar_r1 ++ wsX4_nearestFar_r2) ++ wsX40)
def wsX4_nearestLand_r1 : List Cond := [Cond.fieldLink RX4 15 "MastPulpits$Sea" "shipCell" "I", Cond.methodLink RX4 70 yX4_nearestFar, Cond.instanceMethod yX4_nearestFar, Cond.selects RX4 yX4_nearestFar yX4_nearestFar, Cond.initialized RX4, Cond.code yX4_nearestFar cX4_nearestFar 4 (some .int), Cond.methodLink RX4 66 yX4_sighted, Cond.instanceMethod yX4_sighted, Cond.selects RX4 yX4_sighted yX4_sighted, Cond.code yX4_sighted cX4_sighted 1 (some .long), Cond.fieldLink RX4 22 "MastPulpits$Sea" "up" "I", Cond.fieldLink RX4 9 "MastPulpits$Sea" "lands" "J", Cond.methodLink RX4 58 yX4_glass, Cond.instanceMethod yX4_glass, Cond.selects RX4 yX4_glass yX4_glass, Cond.code yX4_glass cX4_glass 3 (some .int), Cond.fieldLink RX4 44 "MastPulpits$Sea" "eyes" "[I", Cond.fieldLink RX4 28 "MastPulpits$Sea" "fogNow" "I", Cond.methodLink RX4 52 Lib.Math.max.name, Cond.static Lib.Math.max.name, Cond.initialized "java/lang/Math", Cond.code Lib.Math.max.name Lib.Math.max.code 2 (some .int), Cond.fieldLink RX4 25 "MastPulpits$Sea" "hoursUp" "I", Cond.methodLink RX4 62 yX0_around]
def wsX4_nearestLand_r2 : List Cond := [Cond.static yX0_around, Cond.initialized RX0, Cond.code yX0_around cX0_around 12 (some .long), Cond.methodLink RX0 40 Lib.Math.max.name, Cond.methodLink RX0 45 Lib.Math.min.name, Cond.static Lib.Math.min.name, Cond.code Lib.Math.min.name Lib.Math.min.code 2 (some .int), Cond.constantLong RX0 48 (-1), Cond.constantLong RX0 50 (255), Cond.constantLong RX0 52 (72340172838076673), Cond.methodLink RX4 73 yX0_least, Cond.static yX0_least, Cond.code yX0_least cX0_least 2 (some .int), Cond.methodLink RX0 11 yJ13_bitCount_95d88, Cond.static yJ13_bitCount_95d88, Cond.initialized RJ13, Cond.code yJ13_bitCount_95d88 cJ13_bitCount_95d88 2 (some .int), Cond.constantLong RJ13 314 (6148914691236517205), Cond.constantLong RJ13 316 (3689348814741910323), Cond.constantLong RJ13 318 (1085102592571150095)]
def wsX4_nearestLand : List Cond := .code yX4_nearestLand cX4_nearestLand 2 (some .int) :: ((wsX4_nearestLand_r1 ++ wsX4_nearestLand_r2) ++ wsX40)
def wsX4_reasonAgainstSailing : List Cond := .code yX4_reasonAgainstSailing cX4_reasonAgainstSailing 2 (some .int) :: ([.fieldLink RX4 22 "MastPulpits$Sea" "up" "I", .fieldLink RX4 19 "MastPulpits$Sea" "shipHull" "I"] ++ wsX40)
def wsX4_reasonAgainst : List Cond := .code yX4_reasonAgainst cX4_reasonAgainst 4 (some .int) :: ([.fieldLink RX4 22 "MastPulpits$Sea" "up" "I", .fieldLink RX4 28 "MastPulpits$Sea" "fogNow" "I", .fieldLink RX4 31 "MastPulpits$Sea" "hourNow" "I", .methodLink RX4 77 yX4_reasonAgainstSailing, .instanceMethod yX4_reasonAgainstSailing, .selects RX4 yX4_reasonAgainstSailing yX4_reasonAgainstSailing, .initialized RX4, .code yX4_reasonAgainstSailing cX4_reasonAgainstSailing 2 (some .int), .fieldLink RX4 19 "MastPulpits$Sea" "shipHull" "I"] ++ wsX40)
def wsX4_goOrStrike : List Cond := .code yX4_goOrStrike cX4_goOrStrike 2 none :: ([.fieldLink RX4 9 "MastPulpits$Sea" "lands" "J", .fieldLink RX4 19 "MastPulpits$Sea" "shipHull" "I", .fieldLink RX4 15 "MastPulpits$Sea" "shipCell" "I", .methodLink RX4 48 yX0_holds, .static yX0_holds, .initialized RX0, .code yX0_holds cX0_holds 3 (some .boolean)] ++ wsX40)
def wsX4_passAnHour : List Cond := .code yX4_passAnHour cX4_passAnHour 1 none :: ([.fieldLink RX4 31 "MastPulpits$Sea" "hourNow" "I", .fieldLink RX4 28 "MastPulpits$Sea" "fogNow" "I", .methodLink RX4 52 Lib.Math.max.name, .static Lib.Math.max.name, .initialized "java/lang/Math", .code Lib.Math.max.name Lib.Math.max.code 2 (some .int), .fieldLink RX4 22 "MastPulpits$Sea" "up" "I", .fieldLink RX4 25 "MastPulpits$Sea" "hoursUp" "I"] ++ wsX40)
def wsX4_perform : List Cond := .code yX4_perform cX4_perform 4 none :: ([.fieldLink RX4 22 "MastPulpits$Sea" "up" "I", .fieldLink RX4 25 "MastPulpits$Sea" "hoursUp" "I", .fieldLink RX4 28 "MastPulpits$Sea" "fogNow" "I", .methodLink RX4 81 yX4_goOrStrike, .instanceMethod yX4_goOrStrike, .selects RX4 yX4_goOrStrike yX4_goOrStrike, .initialized RX4, .code yX4_goOrStrike cX4_goOrStrike 2 none, .fieldLink RX4 9 "MastPulpits$Sea" "lands" "J", .fieldLink RX4 19 "MastPulpits$Sea" "shipHull" "I", .fieldLink RX4 15 "MastPulpits$Sea" "shipCell" "I", .methodLink RX4 48 yX0_holds, .static yX0_holds, .initialized RX0, .code yX0_holds cX0_holds 3 (some .boolean), .methodLink RX4 85 yX4_passAnHour, .instanceMethod yX4_passAnHour, .selects RX4 yX4_passAnHour yX4_passAnHour, .code yX4_passAnHour cX4_passAnHour 1 none, .fieldLink RX4 31 "MastPulpits$Sea" "hourNow" "I", .methodLink RX4 52 Lib.Math.max.name, .static Lib.Math.max.name, .initialized "java/lang/Math", .code Lib.Math.max.name Lib.Math.max.code 2 (some .int)] ++ wsX40)
def wsX5_init : List Cond := .code yX5_init cX5_init 1 none :: ([.methodLink RX5 3 objectInit, .instanceMethod objectInit, .code objectInit ⟨#[0xb1]⟩ 1 none, .classLink RX5 9 RX4, .instantiable RX4 10, .initialized RX4, .fieldLink RX5 12 "MastPulpits$Voyage" "seaThen" "LMastPulpits$Sea;", .instanceMethod yX4_init, .code yX4_init cX4_init 1 none, .methodLink RX4 3 objectInit, .fieldLink RX4 9 "MastPulpits$Sea" "lands" "J", .fieldLink RX4 15 "MastPulpits$Sea" "shipCell" "I", .fieldLink RX4 19 "MastPulpits$Sea" "shipHull" "I", .fieldLink RX4 22 "MastPulpits$Sea" "up" "I", .fieldLink RX4 25 "MastPulpits$Sea" "hoursUp" "I", .fieldLink RX4 28 "MastPulpits$Sea" "fogNow" "I", .fieldLink RX4 31 "MastPulpits$Sea" "hourNow" "I", .fieldLink RX4 34 "MastPulpits$Sea" "sights" "I", .constantLong RX4 39 (-1), .fieldLink RX4 41 "MastPulpits$Sea" "fitting" "J", .arrayClass .int, .fieldLink RX4 44 "MastPulpits$Sea" "eyes" "[I"] ++ wsX40 ++ wsX50)
def wsX5_setOut : List Cond := .code yX5_setOut cX5_setOut 2 none :: ([.fieldLink RX5 12 "MastPulpits$Voyage" "seaThen" "LMastPulpits$Sea;", .fieldLink RX5 22 "MastPulpits$Voyage" "acts" "I", .fieldLink RX5 26 "MastPulpits$Voyage" "stoppedAt" "I", .fieldLink RX5 29 "MastPulpits$Voyage" "reason" "I", .fieldLink RX5 32 "MastPulpits$Voyage" "strikes" "I", .fieldLink RX5 35 "MastPulpits$Voyage" "calls" "I", .fieldLink RX5 38 "MastPulpits$Voyage" "silences" "I", .fieldLink RX5 41 "MastPulpits$Voyage" "firstSilence" "I", .methodLink RX5 18 yX4_takeOver, .instanceMethod yX4_takeOver, .selects RX4 yX4_takeOver yX4_takeOver, .initialized RX4, .code yX4_takeOver cX4_takeOver 3 none, .fieldLink RX4 9 "MastPulpits$Sea" "lands" "J", .fieldLink RX4 15 "MastPulpits$Sea" "shipCell" "I", .fieldLink RX4 19 "MastPulpits$Sea" "shipHull" "I", .fieldLink RX4 22 "MastPulpits$Sea" "up" "I", .fieldLink RX4 25 "MastPulpits$Sea" "hoursUp" "I", .fieldLink RX4 28 "MastPulpits$Sea" "fogNow" "I", .fieldLink RX4 31 "MastPulpits$Sea" "hourNow" "I", .fieldLink RX4 34 "MastPulpits$Sea" "sights" "I", .fieldLink RX4 41 "MastPulpits$Sea" "fitting" "J", .fieldLink RX4 44 "MastPulpits$Sea" "eyes" "[I"] ++ wsX50 ++ wsX40)
def wsX5_countCall : List Cond := .code yX5_countCall cX5_countCall 3 none :: ([.fieldLink RX5 35 "MastPulpits$Voyage" "calls" "I", .fieldLink RX5 38 "MastPulpits$Voyage" "silences" "I", .fieldLink RX5 41 "MastPulpits$Voyage" "firstSilence" "I", .fieldLink RX5 22 "MastPulpits$Voyage" "acts" "I"] ++ wsX50)
def wsX5_tryAct_r1 : List Cond := [Cond.fieldLink RX5 12 "MastPulpits$Voyage" "seaThen" "LMastPulpits$Sea;", Cond.fieldLink RX5 70 "MastPulpits$Sea" "shipCell" "I", Cond.fieldLink RX5 32 "MastPulpits$Voyage" "strikes" "I", Cond.fieldLink RX5 22 "MastPulpits$Voyage" "acts" "I", Cond.methodLink RX5 73 yX0_next, Cond.static yX0_next, Cond.initialized RX0, Cond.code yX0_next cX0_next 2 (some .int), Cond.fieldLink RX0 21 "MastPulpits$Chart" "ROWS_OF_WAY" "[I", Cond.fieldLink RX0 25 "MastPulpits$Chart" "COLUMNS_OF_WAY" "[I", Cond.methodLink RX0 17 yX0_isCell, Cond.static yX0_isCell, Cond.code yX0_isCell cX0_isCell 1 (some .boolean), Cond.methodLink RX0 28 yX0_moved, Cond.static yX0_moved, Cond.code yX0_moved cX0_moved 6 (some .int), Cond.methodLink RX5 78 yX4_reasonAgainst, Cond.instanceMethod yX4_reasonAgainst, Cond.selects RX4 yX4_reasonAgainst yX4_reasonAgainst, Cond.initialized RX4, Cond.code yX4_reasonAgainst cX4_reasonAgainst 4 (some .int), Cond.fieldLink RX4 22 "MastPulpits$Sea" "up" "I", Cond.fieldLink RX4 28 "MastPulpits$Sea" "fogNow" "I", Cond.fieldLink RX4 31 "MastPulpits$Sea" "hourNow" "I"]
def wsX5_tryAct_r2 : List Cond := [Cond.methodLink RX4 77 yX4_reasonAgainstSailing, Cond.instanceMethod yX4_reasonAgainstSailing, Cond.selects RX4 yX4_reasonAgainstSailing yX4_reasonAgainstSailing, Cond.code yX4_reasonAgainstSailing cX4_reasonAgainstSailing 2 (some .int), Cond.fieldLink RX4 19 "MastPulpits$Sea" "shipHull" "I", Cond.methodLink RX5 82 yX4_sighted, Cond.instanceMethod yX4_sighted, Cond.selects RX4 yX4_sighted yX4_sighted, Cond.code yX4_sighted cX4_sighted 1 (some .long), Cond.fieldLink RX4 9 "MastPulpits$Sea" "lands" "J", Cond.fieldLink RX4 15 "MastPulpits$Sea" "shipCell" "I", Cond.methodLink RX4 58 yX4_glass, Cond.instanceMethod yX4_glass, Cond.selects RX4 yX4_glass yX4_glass, Cond.code yX4_glass cX4_glass 3 (some .int), Cond.fieldLink RX4 44 "MastPulpits$Sea" "eyes" "[I", Cond.methodLink RX4 52 Lib.Math.max.name, Cond.static Lib.Math.max.name, Cond.initialized "java/lang/Math", Cond.code Lib.Math.max.name Lib.Math.max.code 2 (some .int), Cond.fieldLink RX4 25 "MastPulpits$Sea" "hoursUp" "I", Cond.methodLink RX4 62 yX0_around, Cond.static yX0_around, Cond.code yX0_around cX0_around 12 (some .long)]
def wsX5_tryAct_r3 : List Cond := [Cond.methodLink RX0 40 Lib.Math.max.name, Cond.methodLink RX0 45 Lib.Math.min.name, Cond.static Lib.Math.min.name, Cond.code Lib.Math.min.name Lib.Math.min.code 2 (some .int), Cond.constantLong RX0 48 (-1), Cond.constantLong RX0 50 (255), Cond.constantLong RX0 52 (72340172838076673), Cond.methodLink RX5 86 yX5_countCall, Cond.instanceMethod yX5_countCall, Cond.selects RX5 yX5_countCall yX5_countCall, Cond.initialized RX5, Cond.code yX5_countCall cX5_countCall 3 none, Cond.fieldLink RX5 35 "MastPulpits$Voyage" "calls" "I", Cond.fieldLink RX5 38 "MastPulpits$Voyage" "silences" "I", Cond.fieldLink RX5 41 "MastPulpits$Voyage" "firstSilence" "I", Cond.methodLink RX5 90 yX4_isLand, Cond.instanceMethod yX4_isLand, Cond.selects RX4 yX4_isLand yX4_isLand, Cond.code yX4_isLand cX4_isLand 2 (some .boolean), Cond.methodLink RX4 48 yX0_holds, Cond.static yX0_holds, Cond.code yX0_holds cX0_holds 3 (some .boolean), Cond.methodLink RX5 94 yX4_perform, Cond.instanceMethod yX4_perform]
def wsX5_tryAct_r4 : List Cond := [Cond.selects RX4 yX4_perform yX4_perform, Cond.code yX4_perform cX4_perform 4 none, Cond.methodLink RX4 81 yX4_goOrStrike, Cond.instanceMethod yX4_goOrStrike, Cond.selects RX4 yX4_goOrStrike yX4_goOrStrike, Cond.code yX4_goOrStrike cX4_goOrStrike 2 none, Cond.methodLink RX4 85 yX4_passAnHour, Cond.instanceMethod yX4_passAnHour, Cond.selects RX4 yX4_passAnHour yX4_passAnHour, Cond.code yX4_passAnHour cX4_passAnHour 1 none]
def wsX5_tryAct : List Cond := .code yX5_tryAct cX5_tryAct 5 (some .int) :: ((wsX5_tryAct_r1 ++ (wsX5_tryAct_r2 ++ (wsX5_tryAct_r3 ++ wsX5_tryAct_r4))) ++ wsX50 ++ wsX40)
def wsX5_sailByText_r1 : List Cond := [Cond.fieldLink RX5 47 "MastPulpits$Pad" "length" "I", Cond.fieldLink RX5 29 "MastPulpits$Voyage" "reason" "I", Cond.fieldLink RX5 22 "MastPulpits$Voyage" "acts" "I", Cond.fieldLink RX5 26 "MastPulpits$Voyage" "stoppedAt" "I", Cond.methodLink RX5 44 yX5_setOut, Cond.instanceMethod yX5_setOut, Cond.selects RX5 yX5_setOut yX5_setOut, Cond.initialized RX5, Cond.code yX5_setOut cX5_setOut 2 none, Cond.fieldLink RX5 12 "MastPulpits$Voyage" "seaThen" "LMastPulpits$Sea;", Cond.fieldLink RX5 32 "MastPulpits$Voyage" "strikes" "I", Cond.fieldLink RX5 35 "MastPulpits$Voyage" "calls" "I", Cond.fieldLink RX5 38 "MastPulpits$Voyage" "silences" "I", Cond.fieldLink RX5 41 "MastPulpits$Voyage" "firstSilence" "I", Cond.methodLink RX5 18 yX4_takeOver, Cond.instanceMethod yX4_takeOver, Cond.selects RX4 yX4_takeOver yX4_takeOver, Cond.initialized RX4, Cond.code yX4_takeOver cX4_takeOver 3 none, Cond.fieldLink RX4 9 "MastPulpits$Sea" "lands" "J", Cond.fieldLink RX4 15 "MastPulpits$Sea" "shipCell" "I", Cond.fieldLink RX4 19 "MastPulpits$Sea" "shipHull" "I", Cond.fieldLink RX4 22 "MastPulpits$Sea" "up" "I", Cond.fieldLink RX4 25 "MastPulpits$Sea" "hoursUp" "I"]
def wsX5_sailByText_r2 : List Cond := [Cond.fieldLink RX4 28 "MastPulpits$Sea" "fogNow" "I", Cond.fieldLink RX4 31 "MastPulpits$Sea" "hourNow" "I", Cond.fieldLink RX4 34 "MastPulpits$Sea" "sights" "I", Cond.fieldLink RX4 41 "MastPulpits$Sea" "fitting" "J", Cond.fieldLink RX4 44 "MastPulpits$Sea" "eyes" "[I", Cond.methodLink RX5 52 yX2_actAt, Cond.instanceMethod yX2_actAt, Cond.selects RX2 yX2_actAt yX2_actAt, Cond.initialized RX2, Cond.code yX2_actAt cX2_actAt 4 (some .int), Cond.methodLink RX2 19 yX2_signAt, Cond.instanceMethod yX2_signAt, Cond.selects RX2 yX2_signAt yX2_signAt, Cond.code yX2_signAt cX2_signAt 2 (some .int), Cond.fieldLink RX2 15 "MastPulpits$Pad" "length" "I", Cond.fieldLink RX2 9 "MastPulpits$Pad" "signs" "[I", Cond.methodLink RX2 23 yX2_isLetter, Cond.static yX2_isLetter, Cond.code yX2_isLetter cX2_isLetter 1 (some .boolean), Cond.methodLink RX2 27 yX2_isDigit, Cond.static yX2_isDigit, Cond.code yX2_isDigit cX2_isDigit 1 (some .boolean), Cond.methodLink RX5 56 yX2_withAt, Cond.instanceMethod yX2_withAt]
def wsX5_sailByText_r3 : List Cond := [Cond.selects RX2 yX2_withAt yX2_withAt, Cond.code yX2_withAt cX2_withAt 3 (some .int), Cond.methodLink RX5 59 yX5_tryAct, Cond.instanceMethod yX5_tryAct, Cond.selects RX5 yX5_tryAct yX5_tryAct, Cond.code yX5_tryAct cX5_tryAct 5 (some .int), Cond.fieldLink RX5 70 "MastPulpits$Sea" "shipCell" "I", Cond.methodLink RX5 73 yX0_next, Cond.static yX0_next, Cond.initialized RX0, Cond.code yX0_next cX0_next 2 (some .int), Cond.fieldLink RX0 21 "MastPulpits$Chart" "ROWS_OF_WAY" "[I", Cond.fieldLink RX0 25 "MastPulpits$Chart" "COLUMNS_OF_WAY" "[I", Cond.methodLink RX0 17 yX0_isCell, Cond.static yX0_isCell, Cond.code yX0_isCell cX0_isCell 1 (some .boolean), Cond.methodLink RX0 28 yX0_moved, Cond.static yX0_moved, Cond.code yX0_moved cX0_moved 6 (some .int), Cond.methodLink RX5 78 yX4_reasonAgainst, Cond.instanceMethod yX4_reasonAgainst, Cond.selects RX4 yX4_reasonAgainst yX4_reasonAgainst, Cond.code yX4_reasonAgainst cX4_reasonAgainst 4 (some .int), Cond.methodLink RX4 77 yX4_reasonAgainstSailing]
def wsX5_sailByText_r4 : List Cond := [Cond.instanceMethod yX4_reasonAgainstSailing, Cond.selects RX4 yX4_reasonAgainstSailing yX4_reasonAgainstSailing, Cond.code yX4_reasonAgainstSailing cX4_reasonAgainstSailing 2 (some .int), Cond.methodLink RX5 82 yX4_sighted, Cond.instanceMethod yX4_sighted, Cond.selects RX4 yX4_sighted yX4_sighted, Cond.code yX4_sighted cX4_sighted 1 (some .long), Cond.methodLink RX4 58 yX4_glass, Cond.instanceMethod yX4_glass, Cond.selects RX4 yX4_glass yX4_glass, Cond.code yX4_glass cX4_glass 3 (some .int), Cond.methodLink RX4 52 Lib.Math.max.name, Cond.static Lib.Math.max.name, Cond.initialized "java/lang/Math", Cond.code Lib.Math.max.name Lib.Math.max.code 2 (some .int), Cond.methodLink RX4 62 yX0_around, Cond.static yX0_around, Cond.code yX0_around cX0_around 12 (some .long), Cond.methodLink RX0 40 Lib.Math.max.name, Cond.methodLink RX0 45 Lib.Math.min.name, Cond.static Lib.Math.min.name, Cond.code Lib.Math.min.name Lib.Math.min.code 2 (some .int), Cond.constantLong RX0 48 (-1), Cond.constantLong RX0 50 (255)]
def wsX5_sailByText_r5 : List Cond := [Cond.constantLong RX0 52 (72340172838076673), Cond.methodLink RX5 86 yX5_countCall, Cond.instanceMethod yX5_countCall, Cond.selects RX5 yX5_countCall yX5_countCall, Cond.code yX5_countCall cX5_countCall 3 none, Cond.methodLink RX5 90 yX4_isLand, Cond.instanceMethod yX4_isLand, Cond.selects RX4 yX4_isLand yX4_isLand, Cond.code yX4_isLand cX4_isLand 2 (some .boolean), Cond.methodLink RX4 48 yX0_holds, Cond.static yX0_holds, Cond.code yX0_holds cX0_holds 3 (some .boolean), Cond.methodLink RX5 94 yX4_perform, Cond.instanceMethod yX4_perform, Cond.selects RX4 yX4_perform yX4_perform, Cond.code yX4_perform cX4_perform 4 none, Cond.methodLink RX4 81 yX4_goOrStrike, Cond.instanceMethod yX4_goOrStrike, Cond.selects RX4 yX4_goOrStrike yX4_goOrStrike, Cond.code yX4_goOrStrike cX4_goOrStrike 2 none, Cond.methodLink RX4 85 yX4_passAnHour, Cond.instanceMethod yX4_passAnHour, Cond.selects RX4 yX4_passAnHour yX4_passAnHour, Cond.code yX4_passAnHour cX4_passAnHour 1 none]
def wsX5_sailByText_r6 : List Cond := [Cond.methodLink RX5 63 yX2_signsOf, Cond.static yX2_signsOf, Cond.code yX2_signsOf cX2_signsOf 1 (some .int)]
def wsX5_sailByText : List Cond := .code yX5_sailByText cX5_sailByText 6 none :: ((wsX5_sailByText_r1 ++ (wsX5_sailByText_r2 ++ (wsX5_sailByText_r3 ++ (wsX5_sailByText_r4 ++ (wsX5_sailByText_r5 ++ wsX5_sailByText_r6))))) ++ wsX20 ++ wsX50 ++ wsX40)
def wsX5_drawnAct : List Cond := .code yX5_drawnAct cX5_drawnAct 1 (some .int) :: ([])
def wsX5_sailByDraws_r1 : List Cond := [Cond.constant RX5 66 (65537), Cond.methodLink RX5 44 yX5_setOut, Cond.instanceMethod yX5_setOut, Cond.selects RX5 yX5_setOut yX5_setOut, Cond.initialized RX5, Cond.code yX5_setOut cX5_setOut 2 none, Cond.fieldLink RX5 12 "MastPulpits$Voyage" "seaThen" "LMastPulpits$Sea;", Cond.fieldLink RX5 22 "MastPulpits$Voyage" "acts" "I", Cond.fieldLink RX5 26 "MastPulpits$Voyage" "stoppedAt" "I", Cond.fieldLink RX5 29 "MastPulpits$Voyage" "reason" "I", Cond.fieldLink RX5 32 "MastPulpits$Voyage" "strikes" "I", Cond.fieldLink RX5 35 "MastPulpits$Voyage" "calls" "I", Cond.fieldLink RX5 38 "MastPulpits$Voyage" "silences" "I", Cond.fieldLink RX5 41 "MastPulpits$Voyage" "firstSilence" "I", Cond.methodLink RX5 18 yX4_takeOver, Cond.instanceMethod yX4_takeOver, Cond.selects RX4 yX4_takeOver yX4_takeOver, Cond.initialized RX4, Cond.code yX4_takeOver cX4_takeOver 3 none, Cond.fieldLink RX4 9 "MastPulpits$Sea" "lands" "J", Cond.fieldLink RX4 15 "MastPulpits$Sea" "shipCell" "I", Cond.fieldLink RX4 19 "MastPulpits$Sea" "shipHull" "I", Cond.fieldLink RX4 22 "MastPulpits$Sea" "up" "I", Cond.fieldLink RX4 25 "MastPulpits$Sea" "hoursUp" "I"]
def wsX5_sailByDraws_r2 : List Cond := [Cond.fieldLink RX4 28 "MastPulpits$Sea" "fogNow" "I", Cond.fieldLink RX4 31 "MastPulpits$Sea" "hourNow" "I", Cond.fieldLink RX4 34 "MastPulpits$Sea" "sights" "I", Cond.fieldLink RX4 41 "MastPulpits$Sea" "fitting" "J", Cond.fieldLink RX4 44 "MastPulpits$Sea" "eyes" "[I", Cond.methodLink RX5 67 yX5_drawnAct, Cond.static yX5_drawnAct, Cond.code yX5_drawnAct cX5_drawnAct 1 (some .int), Cond.methodLink RX5 59 yX5_tryAct, Cond.instanceMethod yX5_tryAct, Cond.selects RX5 yX5_tryAct yX5_tryAct, Cond.code yX5_tryAct cX5_tryAct 5 (some .int), Cond.fieldLink RX5 70 "MastPulpits$Sea" "shipCell" "I", Cond.methodLink RX5 73 yX0_next, Cond.static yX0_next, Cond.initialized RX0, Cond.code yX0_next cX0_next 2 (some .int), Cond.fieldLink RX0 21 "MastPulpits$Chart" "ROWS_OF_WAY" "[I", Cond.fieldLink RX0 25 "MastPulpits$Chart" "COLUMNS_OF_WAY" "[I", Cond.methodLink RX0 17 yX0_isCell, Cond.static yX0_isCell, Cond.code yX0_isCell cX0_isCell 1 (some .boolean), Cond.methodLink RX0 28 yX0_moved, Cond.static yX0_moved]
def wsX5_sailByDraws_r3 : List Cond := [Cond.code yX0_moved cX0_moved 6 (some .int), Cond.methodLink RX5 78 yX4_reasonAgainst, Cond.instanceMethod yX4_reasonAgainst, Cond.selects RX4 yX4_reasonAgainst yX4_reasonAgainst, Cond.code yX4_reasonAgainst cX4_reasonAgainst 4 (some .int), Cond.methodLink RX4 77 yX4_reasonAgainstSailing, Cond.instanceMethod yX4_reasonAgainstSailing, Cond.selects RX4 yX4_reasonAgainstSailing yX4_reasonAgainstSailing, Cond.code yX4_reasonAgainstSailing cX4_reasonAgainstSailing 2 (some .int), Cond.methodLink RX5 82 yX4_sighted, Cond.instanceMethod yX4_sighted, Cond.selects RX4 yX4_sighted yX4_sighted, Cond.code yX4_sighted cX4_sighted 1 (some .long), Cond.methodLink RX4 58 yX4_glass, Cond.instanceMethod yX4_glass, Cond.selects RX4 yX4_glass yX4_glass, Cond.code yX4_glass cX4_glass 3 (some .int), Cond.methodLink RX4 52 Lib.Math.max.name, Cond.static Lib.Math.max.name, Cond.initialized "java/lang/Math", Cond.code Lib.Math.max.name Lib.Math.max.code 2 (some .int), Cond.methodLink RX4 62 yX0_around, Cond.static yX0_around, Cond.code yX0_around cX0_around 12 (some .long)]
def wsX5_sailByDraws_r4 : List Cond := [Cond.methodLink RX0 40 Lib.Math.max.name, Cond.methodLink RX0 45 Lib.Math.min.name, Cond.static Lib.Math.min.name, Cond.code Lib.Math.min.name Lib.Math.min.code 2 (some .int), Cond.constantLong RX0 48 (-1), Cond.constantLong RX0 50 (255), Cond.constantLong RX0 52 (72340172838076673), Cond.methodLink RX5 86 yX5_countCall, Cond.instanceMethod yX5_countCall, Cond.selects RX5 yX5_countCall yX5_countCall, Cond.code yX5_countCall cX5_countCall 3 none, Cond.methodLink RX5 90 yX4_isLand, Cond.instanceMethod yX4_isLand, Cond.selects RX4 yX4_isLand yX4_isLand, Cond.code yX4_isLand cX4_isLand 2 (some .boolean), Cond.methodLink RX4 48 yX0_holds, Cond.static yX0_holds, Cond.code yX0_holds cX0_holds 3 (some .boolean), Cond.methodLink RX5 94 yX4_perform, Cond.instanceMethod yX4_perform, Cond.selects RX4 yX4_perform yX4_perform, Cond.code yX4_perform cX4_perform 4 none, Cond.methodLink RX4 81 yX4_goOrStrike, Cond.instanceMethod yX4_goOrStrike]
def wsX5_sailByDraws_r5 : List Cond := [Cond.selects RX4 yX4_goOrStrike yX4_goOrStrike, Cond.code yX4_goOrStrike cX4_goOrStrike 2 none, Cond.methodLink RX4 85 yX4_passAnHour, Cond.instanceMethod yX4_passAnHour, Cond.selects RX4 yX4_passAnHour yX4_passAnHour, Cond.code yX4_passAnHour cX4_passAnHour 1 none]
def wsX5_sailByDraws : List Cond := .code yX5_sailByDraws cX5_sailByDraws 8 none :: ((wsX5_sailByDraws_r1 ++ (wsX5_sailByDraws_r2 ++ (wsX5_sailByDraws_r3 ++ (wsX5_sailByDraws_r4 ++ wsX5_sailByDraws_r5)))) ++ wsX50 ++ wsX40)
def wsX6_init_r1 : List Cond := [Cond.methodLink RX6 1 objectInit, Cond.instanceMethod objectInit, Cond.code objectInit ⟨#[0xb1]⟩ 1 none, Cond.classLink RX6 7 RX4, Cond.instantiable RX4 10, Cond.initialized RX4, Cond.fieldLink RX6 10 "MastPulpits" "sea" "LMastPulpits$Sea;", Cond.classLink RX6 16 RX2, Cond.instantiable RX2 2, Cond.initialized RX2, Cond.fieldLink RX6 19 "MastPulpits" "pad" "LMastPulpits$Pad;", Cond.classLink RX6 23 RX5, Cond.instantiable RX5 8, Cond.initialized RX5, Cond.fieldLink RX6 26 "MastPulpits" "voyage" "LMastPulpits$Voyage;", Cond.classLink RX6 30 RX3, Cond.instantiable RX3 3, Cond.initialized RX3, Cond.fieldLink RX6 33 "MastPulpits" "cutter" "LMastPulpits$RopeCutter;", Cond.classLink RX6 37 RX1, Cond.instantiable RX1 4, Cond.initialized RX1, Cond.fieldLink RX6 40 "MastPulpits" "lookouts" "LMastPulpits$Lookouts;", Cond.fieldLink RX6 44 "MastPulpits" "images" "[LMastPulpits$Sea;"]
def wsX6_init_r2 : List Cond := [Cond.arrayClass .boolean, Cond.fieldLink RX6 48 "MastPulpits" "kept" "[Z", Cond.instanceMethod yX4_init, Cond.code yX4_init cX4_init 1 none, Cond.methodLink RX4 3 objectInit, Cond.fieldLink RX4 9 "MastPulpits$Sea" "lands" "J", Cond.fieldLink RX4 15 "MastPulpits$Sea" "shipCell" "I", Cond.fieldLink RX4 19 "MastPulpits$Sea" "shipHull" "I", Cond.fieldLink RX4 22 "MastPulpits$Sea" "up" "I", Cond.fieldLink RX4 25 "MastPulpits$Sea" "hoursUp" "I", Cond.fieldLink RX4 28 "MastPulpits$Sea" "fogNow" "I", Cond.fieldLink RX4 31 "MastPulpits$Sea" "hourNow" "I", Cond.fieldLink RX4 34 "MastPulpits$Sea" "sights" "I", Cond.constantLong RX4 39 (-1), Cond.fieldLink RX4 41 "MastPulpits$Sea" "fitting" "J", Cond.arrayClass .int, Cond.fieldLink RX4 44 "MastPulpits$Sea" "eyes" "[I", Cond.instanceMethod yX2_init, Cond.code yX2_init cX2_init 1 none, Cond.methodLink RX2 3 objectInit, Cond.fieldLink RX2 9 "MastPulpits$Pad" "signs" "[I", Cond.fieldLink RX2 15 "MastPulpits$Pad" "length" "I", Cond.instanceMethod yX5_init, Cond.code yX5_init cX5_init 1 none]
def wsX6_init_r3 : List Cond := [Cond.methodLink RX5 3 objectInit, Cond.classLink RX5 9 RX4, Cond.fieldLink RX5 12 "MastPulpits$Voyage" "seaThen" "LMastPulpits$Sea;", Cond.instanceMethod yX3_init, Cond.code yX3_init cX3_init 1 none, Cond.methodLink RX3 3 objectInit, Cond.fieldLink RX3 11 "MastPulpits$RopeCutter" "pieces" "[I", Cond.fieldLink RX3 15 "MastPulpits$RopeCutter" "cutOfSet" "[I", Cond.fieldLink RX3 18 "MastPulpits$RopeCutter" "many" "I", Cond.instanceMethod yX1_init, Cond.code yX1_init cX1_init 1 none, Cond.methodLink RX1 1 objectInit]
def wsX6_init : List Cond := .code yX6_init cX6_init 1 none :: ((wsX6_init_r1 ++ (wsX6_init_r2 ++ wsX6_init_r3)) ++ wsX40 ++ wsX60 ++ wsX20 ++ wsX50 ++ wsX30 ++ wsX10)
def wsX6_within : List Cond := .code yX6_within cX6_within 3 (some .boolean) :: ([])
def wsX6_land : List Cond := .code yX6_land cX6_land 5 (some .int) :: ([.fieldLink RX6 10 "MastPulpits" "sea" "LMastPulpits$Sea;", .fieldLink RX6 62 "MastPulpits$Sea" "shipCell" "I", .fieldLink RX6 70 "MastPulpits$Sea" "lands" "J", .constantLong RX6 74 (-1), .methodLink RX6 52 yX0_isCell, .static yX0_isCell, .initialized RX0, .code yX0_isCell cX0_isCell 1 (some .boolean), .methodLink RX6 58 yX6_within, .static yX6_within, .initialized RX6, .code yX6_within cX6_within 3 (some .boolean), .methodLink RX6 66 yX0_only, .static yX0_only, .code yX0_only cX0_only 1 (some .long), .methodLink RX6 76 yJ13_bitCount_95d88, .static yJ13_bitCount_95d88, .initialized RJ13, .code yJ13_bitCount_95d88 cJ13_bitCount_95d88 2 (some .int), .constantLong RJ13 314 (6148914691236517205), .constantLong RJ13 316 (3689348814741910323), .constantLong RJ13 318 (1085102592571150095)] ++ wsX60 ++ wsX40)
def wsX6_ship : List Cond := .code yX6_ship cX6_ship 4 (some .int) :: ([.fieldLink RX6 10 "MastPulpits" "sea" "LMastPulpits$Sea;", .fieldLink RX6 62 "MastPulpits$Sea" "shipCell" "I", .fieldLink RX6 85 "MastPulpits$Sea" "shipHull" "I", .methodLink RX6 52 yX0_isCell, .static yX0_isCell, .initialized RX0, .code yX0_isCell cX0_isCell 1 (some .boolean), .methodLink RX6 58 yX6_within, .static yX6_within, .initialized RX6, .code yX6_within cX6_within 3 (some .boolean), .methodLink RX6 82 yX4_isLand, .instanceMethod yX4_isLand, .selects RX4 yX4_isLand yX4_isLand, .initialized RX4, .code yX4_isLand cX4_isLand 2 (some .boolean), .fieldLink RX4 9 "MastPulpits$Sea" "lands" "J", .methodLink RX4 48 yX0_holds, .static yX0_holds, .code yX0_holds cX0_holds 3 (some .boolean)] ++ wsX60 ++ wsX40)
def wsX6_watcher : List Cond := .code yX6_watcher cX6_watcher 4 (some .int) :: ([.fieldLink RX6 10 "MastPulpits" "sea" "LMastPulpits$Sea;", .methodLink RX6 88 yX4_isWatcher, .instanceMethod yX4_isWatcher, .selects RX4 yX4_isWatcher yX4_isWatcher, .initialized RX4, .code yX4_isWatcher cX4_isWatcher 2 (some .boolean), .fieldLink RX4 44 "MastPulpits$Sea" "eyes" "[I", .methodLink RX6 58 yX6_within, .static yX6_within, .initialized RX6, .code yX6_within cX6_within 3 (some .boolean), .methodLink RX6 91 yX4_eyesOf, .instanceMethod yX4_eyesOf, .selects RX4 yX4_eyesOf yX4_eyesOf, .code yX4_eyesOf cX4_eyesOf 2 (some .int), .methodLink RX6 95 yX4_giveEyes, .instanceMethod yX4_giveEyes, .selects RX4 yX4_giveEyes yX4_giveEyes, .code yX4_giveEyes cX4_giveEyes 3 none] ++ wsX60 ++ wsX40)
def wsX6_fog : List Cond := .code yX6_fog cX6_fog 3 (some .int) :: ([.fieldLink RX6 10 "MastPulpits" "sea" "LMastPulpits$Sea;", .fieldLink RX6 99 "MastPulpits$Sea" "fogNow" "I", .methodLink RX6 58 yX6_within, .static yX6_within, .initialized RX6, .code yX6_within cX6_within 3 (some .boolean)] ++ wsX60 ++ wsX40)
def wsX6_say : List Cond := .code yX6_say cX6_say 2 (some .int) :: ([.fieldLink RX6 19 "MastPulpits" "pad" "LMastPulpits$Pad;", .fieldLink RX6 105 "MastPulpits$Pad" "length" "I", .methodLink RX6 58 yX6_within, .static yX6_within, .initialized RX6, .code yX6_within cX6_within 3 (some .boolean), .methodLink RX6 102 yX2_write, .instanceMethod yX2_write, .selects RX2 yX2_write yX2_write, .initialized RX2, .code yX2_write cX2_write 2 (some .boolean), .fieldLink RX2 15 "MastPulpits$Pad" "length" "I", .fieldLink RX2 9 "MastPulpits$Pad" "signs" "[I"] ++ wsX60 ++ wsX20)
def wsX6_wipe : List Cond := .code yX6_wipe cX6_wipe 2 (some .int) :: ([.fieldLink RX6 19 "MastPulpits" "pad" "LMastPulpits$Pad;", .fieldLink RX6 105 "MastPulpits$Pad" "length" "I"] ++ wsX60 ++ wsX20)
def wsX6_fault_r1 : List Cond := [Cond.fieldLink RX6 19 "MastPulpits" "pad" "LMastPulpits$Pad;", Cond.methodLink RX6 108 yX2_firstFault, Cond.instanceMethod yX2_firstFault, Cond.selects RX2 yX2_firstFault yX2_firstFault, Cond.initialized RX2, Cond.code yX2_firstFault cX2_firstFault 4 (some .int), Cond.fieldLink RX2 15 "MastPulpits$Pad" "length" "I", Cond.methodLink RX2 30 yX2_actAt, Cond.instanceMethod yX2_actAt, Cond.selects RX2 yX2_actAt yX2_actAt, Cond.code yX2_actAt cX2_actAt 4 (some .int), Cond.methodLink RX2 19 yX2_signAt, Cond.instanceMethod yX2_signAt, Cond.selects RX2 yX2_signAt yX2_signAt, Cond.code yX2_signAt cX2_signAt 2 (some .int), Cond.fieldLink RX2 9 "MastPulpits$Pad" "signs" "[I", Cond.methodLink RX2 23 yX2_isLetter, Cond.static yX2_isLetter, Cond.code yX2_isLetter cX2_isLetter 1 (some .boolean), Cond.methodLink RX2 27 yX2_isDigit, Cond.static yX2_isDigit, Cond.code yX2_isDigit cX2_isDigit 1 (some .boolean), Cond.methodLink RX2 33 yX2_needsASecond, Cond.static yX2_needsASecond]
def wsX6_fault_r2 : List Cond := [Cond.code yX2_needsASecond cX2_needsASecond 1 (some .boolean), Cond.methodLink RX2 36 yX2_signsOf, Cond.static yX2_signsOf, Cond.code yX2_signsOf cX2_signsOf 1 (some .int)]
def wsX6_fault : List Cond := .code yX6_fault cX6_fault 1 (some .int) :: ((wsX6_fault_r1 ++ wsX6_fault_r2) ++ wsX60 ++ wsX20)
def wsX6_sailTheText_r1 : List Cond := [Cond.fieldLink RX6 19 "MastPulpits" "pad" "LMastPulpits$Pad;", Cond.fieldLink RX6 26 "MastPulpits" "voyage" "LMastPulpits$Voyage;", Cond.fieldLink RX6 10 "MastPulpits" "sea" "LMastPulpits$Sea;", Cond.fieldLink RX6 116 "MastPulpits$Voyage" "stoppedAt" "I", Cond.methodLink RX6 58 yX6_within, Cond.static yX6_within, Cond.initialized RX6, Cond.code yX6_within cX6_within 3 (some .boolean), Cond.methodLink RX6 108 yX2_firstFault, Cond.instanceMethod yX2_firstFault, Cond.selects RX2 yX2_firstFault yX2_firstFault, Cond.initialized RX2, Cond.code yX2_firstFault cX2_firstFault 4 (some .int), Cond.fieldLink RX2 15 "MastPulpits$Pad" "length" "I", Cond.methodLink RX2 30 yX2_actAt, Cond.instanceMethod yX2_actAt, Cond.selects RX2 yX2_actAt yX2_actAt, Cond.code yX2_actAt cX2_actAt 4 (some .int), Cond.methodLink RX2 19 yX2_signAt, Cond.instanceMethod yX2_signAt, Cond.selects RX2 yX2_signAt yX2_signAt, Cond.code yX2_signAt cX2_signAt 2 (some .int), Cond.fieldLink RX2 9 "MastPulpits$Pad" "signs" "[I", Cond.methodLink RX2 23 yX2_isLetter]
def wsX6_sailTheText_r2 : List Cond := [Cond.static yX2_isLetter, Cond.code yX2_isLetter cX2_isLetter 1 (some .boolean), Cond.methodLink RX2 27 yX2_isDigit, Cond.static yX2_isDigit, Cond.code yX2_isDigit cX2_isDigit 1 (some .boolean), Cond.methodLink RX2 33 yX2_needsASecond, Cond.static yX2_needsASecond, Cond.code yX2_needsASecond cX2_needsASecond 1 (some .boolean), Cond.methodLink RX2 36 yX2_signsOf, Cond.static yX2_signsOf, Cond.code yX2_signsOf cX2_signsOf 1 (some .int), Cond.methodLink RX6 220 yX5_sailByText, Cond.instanceMethod yX5_sailByText, Cond.selects RX5 yX5_sailByText yX5_sailByText, Cond.initialized RX5, Cond.code yX5_sailByText cX5_sailByText 6 none, Cond.fieldLink RX5 47 "MastPulpits$Pad" "length" "I", Cond.fieldLink RX5 29 "MastPulpits$Voyage" "reason" "I", Cond.fieldLink RX5 22 "MastPulpits$Voyage" "acts" "I", Cond.fieldLink RX5 26 "MastPulpits$Voyage" "stoppedAt" "I", Cond.methodLink RX5 44 yX5_setOut, Cond.instanceMethod yX5_setOut, Cond.selects RX5 yX5_setOut yX5_setOut, Cond.code yX5_setOut cX5_setOut 2 none]
def wsX6_sailTheText_r3 : List Cond := [Cond.fieldLink RX5 12 "MastPulpits$Voyage" "seaThen" "LMastPulpits$Sea;", Cond.fieldLink RX5 32 "MastPulpits$Voyage" "strikes" "I", Cond.fieldLink RX5 35 "MastPulpits$Voyage" "calls" "I", Cond.fieldLink RX5 38 "MastPulpits$Voyage" "silences" "I", Cond.fieldLink RX5 41 "MastPulpits$Voyage" "firstSilence" "I", Cond.methodLink RX5 18 yX4_takeOver, Cond.instanceMethod yX4_takeOver, Cond.selects RX4 yX4_takeOver yX4_takeOver, Cond.initialized RX4, Cond.code yX4_takeOver cX4_takeOver 3 none, Cond.fieldLink RX4 9 "MastPulpits$Sea" "lands" "J", Cond.fieldLink RX4 15 "MastPulpits$Sea" "shipCell" "I", Cond.fieldLink RX4 19 "MastPulpits$Sea" "shipHull" "I", Cond.fieldLink RX4 22 "MastPulpits$Sea" "up" "I", Cond.fieldLink RX4 25 "MastPulpits$Sea" "hoursUp" "I", Cond.fieldLink RX4 28 "MastPulpits$Sea" "fogNow" "I", Cond.fieldLink RX4 31 "MastPulpits$Sea" "hourNow" "I", Cond.fieldLink RX4 34 "MastPulpits$Sea" "sights" "I", Cond.fieldLink RX4 41 "MastPulpits$Sea" "fitting" "J", Cond.fieldLink RX4 44 "MastPulpits$Sea" "eyes" "[I", Cond.methodLink RX5 52 yX2_actAt, Cond.methodLink RX5 56 yX2_withAt, Cond.instanceMethod yX2_withAt, Cond.selects RX2 yX2_withAt yX2_withAt]
def wsX6_sailTheText_r4 : List Cond := [Cond.code yX2_withAt cX2_withAt 3 (some .int), Cond.methodLink RX5 59 yX5_tryAct, Cond.instanceMethod yX5_tryAct, Cond.selects RX5 yX5_tryAct yX5_tryAct, Cond.code yX5_tryAct cX5_tryAct 5 (some .int), Cond.fieldLink RX5 70 "MastPulpits$Sea" "shipCell" "I", Cond.methodLink RX5 73 yX0_next, Cond.static yX0_next, Cond.initialized RX0, Cond.code yX0_next cX0_next 2 (some .int), Cond.fieldLink RX0 21 "MastPulpits$Chart" "ROWS_OF_WAY" "[I", Cond.fieldLink RX0 25 "MastPulpits$Chart" "COLUMNS_OF_WAY" "[I", Cond.methodLink RX0 17 yX0_isCell, Cond.static yX0_isCell, Cond.code yX0_isCell cX0_isCell 1 (some .boolean), Cond.methodLink RX0 28 yX0_moved, Cond.static yX0_moved, Cond.code yX0_moved cX0_moved 6 (some .int), Cond.methodLink RX5 78 yX4_reasonAgainst, Cond.instanceMethod yX4_reasonAgainst, Cond.selects RX4 yX4_reasonAgainst yX4_reasonAgainst, Cond.code yX4_reasonAgainst cX4_reasonAgainst 4 (some .int), Cond.methodLink RX4 77 yX4_reasonAgainstSailing, Cond.instanceMethod yX4_reasonAgainstSailing]
def wsX6_sailTheText_r5 : List Cond := [Cond.selects RX4 yX4_reasonAgainstSailing yX4_reasonAgainstSailing, Cond.code yX4_reasonAgainstSailing cX4_reasonAgainstSailing 2 (some .int), Cond.methodLink RX5 82 yX4_sighted, Cond.instanceMethod yX4_sighted, Cond.selects RX4 yX4_sighted yX4_sighted, Cond.code yX4_sighted cX4_sighted 1 (some .long), Cond.methodLink RX4 58 yX4_glass, Cond.instanceMethod yX4_glass, Cond.selects RX4 yX4_glass yX4_glass, Cond.code yX4_glass cX4_glass 3 (some .int), Cond.methodLink RX4 52 Lib.Math.max.name, Cond.static Lib.Math.max.name, Cond.initialized "java/lang/Math", Cond.code Lib.Math.max.name Lib.Math.max.code 2 (some .int), Cond.methodLink RX4 62 yX0_around, Cond.static yX0_around, Cond.code yX0_around cX0_around 12 (some .long), Cond.methodLink RX0 40 Lib.Math.max.name, Cond.methodLink RX0 45 Lib.Math.min.name, Cond.static Lib.Math.min.name, Cond.code Lib.Math.min.name Lib.Math.min.code 2 (some .int), Cond.constantLong RX0 48 (-1), Cond.constantLong RX0 50 (255), Cond.constantLong RX0 52 (72340172838076673)]
def wsX6_sailTheText_r6 : List Cond := [Cond.methodLink RX5 86 yX5_countCall, Cond.instanceMethod yX5_countCall, Cond.selects RX5 yX5_countCall yX5_countCall, Cond.code yX5_countCall cX5_countCall 3 none, Cond.methodLink RX5 90 yX4_isLand, Cond.instanceMethod yX4_isLand, Cond.selects RX4 yX4_isLand yX4_isLand, Cond.code yX4_isLand cX4_isLand 2 (some .boolean), Cond.methodLink RX4 48 yX0_holds, Cond.static yX0_holds, Cond.code yX0_holds cX0_holds 3 (some .boolean), Cond.methodLink RX5 94 yX4_perform, Cond.instanceMethod yX4_perform, Cond.selects RX4 yX4_perform yX4_perform, Cond.code yX4_perform cX4_perform 4 none, Cond.methodLink RX4 81 yX4_goOrStrike, Cond.instanceMethod yX4_goOrStrike, Cond.selects RX4 yX4_goOrStrike yX4_goOrStrike, Cond.code yX4_goOrStrike cX4_goOrStrike 2 none, Cond.methodLink RX4 85 yX4_passAnHour, Cond.instanceMethod yX4_passAnHour, Cond.selects RX4 yX4_passAnHour yX4_passAnHour, Cond.code yX4_passAnHour cX4_passAnHour 1 none, Cond.methodLink RX5 63 yX2_signsOf]
def wsX6_sailTheText : List Cond := .code yX6_sailTheText cX6_sailTheText 4 (some .int) :: ((wsX6_sailTheText_r1 ++ (wsX6_sailTheText_r2 ++ (wsX6_sailTheText_r3 ++ (wsX6_sailTheText_r4 ++ (wsX6_sailTheText_r5 ++ wsX6_sailTheText_r6))))) ++ wsX60 ++ wsX50 ++ wsX20 ++ wsX40)
def wsX6_judge_r1 : List Cond := [Cond.fieldLink RX6 26 "MastPulpits" "voyage" "LMastPulpits$Voyage;", Cond.fieldLink RX6 116 "MastPulpits$Voyage" "stoppedAt" "I", Cond.fieldLink RX6 119 "MastPulpits$Voyage" "reason" "I", Cond.fieldLink RX6 122 "MastPulpits$Voyage" "strikes" "I", Cond.methodLink RX6 112 yX6_sailTheText, Cond.instanceMethod yX6_sailTheText, Cond.selects RX6 yX6_sailTheText yX6_sailTheText, Cond.initialized RX6, Cond.code yX6_sailTheText cX6_sailTheText 4 (some .int), Cond.fieldLink RX6 19 "MastPulpits" "pad" "LMastPulpits$Pad;", Cond.fieldLink RX6 10 "MastPulpits" "sea" "LMastPulpits$Sea;", Cond.methodLink RX6 58 yX6_within, Cond.static yX6_within, Cond.code yX6_within cX6_within 3 (some .boolean), Cond.methodLink RX6 108 yX2_firstFault, Cond.instanceMethod yX2_firstFault, Cond.selects RX2 yX2_firstFault yX2_firstFault, Cond.initialized RX2, Cond.code yX2_firstFault cX2_firstFault 4 (some .int), Cond.fieldLink RX2 15 "MastPulpits$Pad" "length" "I", Cond.methodLink RX2 30 yX2_actAt, Cond.instanceMethod yX2_actAt, Cond.selects RX2 yX2_actAt yX2_actAt, Cond.code yX2_actAt cX2_actAt 4 (some .int)]
def wsX6_judge_r2 : List Cond := [Cond.methodLink RX2 19 yX2_signAt, Cond.instanceMethod yX2_signAt, Cond.selects RX2 yX2_signAt yX2_signAt, Cond.code yX2_signAt cX2_signAt 2 (some .int), Cond.fieldLink RX2 9 "MastPulpits$Pad" "signs" "[I", Cond.methodLink RX2 23 yX2_isLetter, Cond.static yX2_isLetter, Cond.code yX2_isLetter cX2_isLetter 1 (some .boolean), Cond.methodLink RX2 27 yX2_isDigit, Cond.static yX2_isDigit, Cond.code yX2_isDigit cX2_isDigit 1 (some .boolean), Cond.methodLink RX2 33 yX2_needsASecond, Cond.static yX2_needsASecond, Cond.code yX2_needsASecond cX2_needsASecond 1 (some .boolean), Cond.methodLink RX2 36 yX2_signsOf, Cond.static yX2_signsOf, Cond.code yX2_signsOf cX2_signsOf 1 (some .int), Cond.methodLink RX6 220 yX5_sailByText, Cond.instanceMethod yX5_sailByText, Cond.selects RX5 yX5_sailByText yX5_sailByText, Cond.initialized RX5, Cond.code yX5_sailByText cX5_sailByText 6 none, Cond.fieldLink RX5 47 "MastPulpits$Pad" "length" "I", Cond.fieldLink RX5 29 "MastPulpits$Voyage" "reason" "I"]
def wsX6_judge_r3 : List Cond := [Cond.fieldLink RX5 22 "MastPulpits$Voyage" "acts" "I", Cond.fieldLink RX5 26 "MastPulpits$Voyage" "stoppedAt" "I", Cond.methodLink RX5 44 yX5_setOut, Cond.instanceMethod yX5_setOut, Cond.selects RX5 yX5_setOut yX5_setOut, Cond.code yX5_setOut cX5_setOut 2 none, Cond.fieldLink RX5 12 "MastPulpits$Voyage" "seaThen" "LMastPulpits$Sea;", Cond.fieldLink RX5 32 "MastPulpits$Voyage" "strikes" "I", Cond.fieldLink RX5 35 "MastPulpits$Voyage" "calls" "I", Cond.fieldLink RX5 38 "MastPulpits$Voyage" "silences" "I", Cond.fieldLink RX5 41 "MastPulpits$Voyage" "firstSilence" "I", Cond.methodLink RX5 18 yX4_takeOver, Cond.instanceMethod yX4_takeOver, Cond.selects RX4 yX4_takeOver yX4_takeOver, Cond.initialized RX4, Cond.code yX4_takeOver cX4_takeOver 3 none, Cond.fieldLink RX4 9 "MastPulpits$Sea" "lands" "J", Cond.fieldLink RX4 15 "MastPulpits$Sea" "shipCell" "I", Cond.fieldLink RX4 19 "MastPulpits$Sea" "shipHull" "I", Cond.fieldLink RX4 22 "MastPulpits$Sea" "up" "I", Cond.fieldLink RX4 25 "MastPulpits$Sea" "hoursUp" "I", Cond.fieldLink RX4 28 "MastPulpits$Sea" "fogNow" "I", Cond.fieldLink RX4 31 "MastPulpits$Sea" "hourNow" "I", Cond.fieldLink RX4 34 "MastPulpits$Sea" "sights" "I"]
def wsX6_judge_r4 : List Cond := [Cond.fieldLink RX4 41 "MastPulpits$Sea" "fitting" "J", Cond.fieldLink RX4 44 "MastPulpits$Sea" "eyes" "[I", Cond.methodLink RX5 52 yX2_actAt, Cond.methodLink RX5 56 yX2_withAt, Cond.instanceMethod yX2_withAt, Cond.selects RX2 yX2_withAt yX2_withAt, Cond.code yX2_withAt cX2_withAt 3 (some .int), Cond.methodLink RX5 59 yX5_tryAct, Cond.instanceMethod yX5_tryAct, Cond.selects RX5 yX5_tryAct yX5_tryAct, Cond.code yX5_tryAct cX5_tryAct 5 (some .int), Cond.fieldLink RX5 70 "MastPulpits$Sea" "shipCell" "I", Cond.methodLink RX5 73 yX0_next, Cond.static yX0_next, Cond.initialized RX0, Cond.code yX0_next cX0_next 2 (some .int), Cond.fieldLink RX0 21 "MastPulpits$Chart" "ROWS_OF_WAY" "[I", Cond.fieldLink RX0 25 "MastPulpits$Chart" "COLUMNS_OF_WAY" "[I", Cond.methodLink RX0 17 yX0_isCell, Cond.static yX0_isCell, Cond.code yX0_isCell cX0_isCell 1 (some .boolean), Cond.methodLink RX0 28 yX0_moved, Cond.static yX0_moved, Cond.code yX0_moved cX0_moved 6 (some .int)]
def wsX6_judge_r5 : List Cond := [Cond.methodLink RX5 78 yX4_reasonAgainst, Cond.instanceMethod yX4_reasonAgainst, Cond.selects RX4 yX4_reasonAgainst yX4_reasonAgainst, Cond.code yX4_reasonAgainst cX4_reasonAgainst 4 (some .int), Cond.methodLink RX4 77 yX4_reasonAgainstSailing, Cond.instanceMethod yX4_reasonAgainstSailing, Cond.selects RX4 yX4_reasonAgainstSailing yX4_reasonAgainstSailing, Cond.code yX4_reasonAgainstSailing cX4_reasonAgainstSailing 2 (some .int), Cond.methodLink RX5 82 yX4_sighted, Cond.instanceMethod yX4_sighted, Cond.selects RX4 yX4_sighted yX4_sighted, Cond.code yX4_sighted cX4_sighted 1 (some .long), Cond.methodLink RX4 58 yX4_glass, Cond.instanceMethod yX4_glass, Cond.selects RX4 yX4_glass yX4_glass, Cond.code yX4_glass cX4_glass 3 (some .int), Cond.methodLink RX4 52 Lib.Math.max.name, Cond.static Lib.Math.max.name, Cond.initialized "java/lang/Math", Cond.code Lib.Math.max.name Lib.Math.max.code 2 (some .int), Cond.methodLink RX4 62 yX0_around, Cond.static yX0_around, Cond.code yX0_around cX0_around 12 (some .long), Cond.methodLink RX0 40 Lib.Math.max.name]
def wsX6_judge_r6 : List Cond := [Cond.methodLink RX0 45 Lib.Math.min.name, Cond.static Lib.Math.min.name, Cond.code Lib.Math.min.name Lib.Math.min.code 2 (some .int), Cond.constantLong RX0 48 (-1), Cond.constantLong RX0 50 (255), Cond.constantLong RX0 52 (72340172838076673), Cond.methodLink RX5 86 yX5_countCall, Cond.instanceMethod yX5_countCall, Cond.selects RX5 yX5_countCall yX5_countCall, Cond.code yX5_countCall cX5_countCall 3 none, Cond.methodLink RX5 90 yX4_isLand, Cond.instanceMethod yX4_isLand, Cond.selects RX4 yX4_isLand yX4_isLand, Cond.code yX4_isLand cX4_isLand 2 (some .boolean), Cond.methodLink RX4 48 yX0_holds, Cond.static yX0_holds, Cond.code yX0_holds cX0_holds 3 (some .boolean), Cond.methodLink RX5 94 yX4_perform, Cond.instanceMethod yX4_perform, Cond.selects RX4 yX4_perform yX4_perform, Cond.code yX4_perform cX4_perform 4 none, Cond.methodLink RX4 81 yX4_goOrStrike, Cond.instanceMethod yX4_goOrStrike, Cond.selects RX4 yX4_goOrStrike yX4_goOrStrike]
def wsX6_judge_r7 : List Cond := [Cond.code yX4_goOrStrike cX4_goOrStrike 2 none, Cond.methodLink RX4 85 yX4_passAnHour, Cond.instanceMethod yX4_passAnHour, Cond.selects RX4 yX4_passAnHour yX4_passAnHour, Cond.code yX4_passAnHour cX4_passAnHour 1 none, Cond.methodLink RX5 63 yX2_signsOf]
def wsX6_judge : List Cond := .code yX6_judge cX6_judge 3 (some .int) :: ((wsX6_judge_r1 ++ (wsX6_judge_r2 ++ (wsX6_judge_r3 ++ (wsX6_judge_r4 ++ (wsX6_judge_r5 ++ (wsX6_judge_r6 ++ wsX6_judge_r7)))))) ++ wsX60 ++ wsX50 ++ wsX20 ++ wsX40)
def wsX6_shipAndWatch : List Cond := .code yX6_shipAndWatch cX6_shipAndWatch 2 (some .int) :: ([.fieldLink RX6 62 "MastPulpits$Sea" "shipCell" "I", .fieldLink RX6 85 "MastPulpits$Sea" "shipHull" "I", .fieldLink RX6 132 "MastPulpits$Sea" "up" "I", .fieldLink RX6 224 "MastPulpits$Sea" "hoursUp" "I", .fieldLink RX6 99 "MastPulpits$Sea" "fogNow" "I", .fieldLink RX6 227 "MastPulpits$Sea" "hourNow" "I"] ++ wsX40)
def wsX6_behind_r1 : List Cond := [Cond.fieldLink RX6 26 "MastPulpits" "voyage" "LMastPulpits$Voyage;", Cond.fieldLink RX6 125 "MastPulpits$Voyage" "seaThen" "LMastPulpits$Sea;", Cond.methodLink RX6 112 yX6_sailTheText, Cond.instanceMethod yX6_sailTheText, Cond.selects RX6 yX6_sailTheText yX6_sailTheText, Cond.initialized RX6, Cond.code yX6_sailTheText cX6_sailTheText 4 (some .int), Cond.fieldLink RX6 19 "MastPulpits" "pad" "LMastPulpits$Pad;", Cond.fieldLink RX6 10 "MastPulpits" "sea" "LMastPulpits$Sea;", Cond.fieldLink RX6 116 "MastPulpits$Voyage" "stoppedAt" "I", Cond.methodLink RX6 58 yX6_within, Cond.static yX6_within, Cond.code yX6_within cX6_within 3 (some .boolean), Cond.methodLink RX6 108 yX2_firstFault, Cond.instanceMethod yX2_firstFault, Cond.selects RX2 yX2_firstFault yX2_firstFault, Cond.initialized RX2, Cond.code yX2_firstFault cX2_firstFault 4 (some .int), Cond.fieldLink RX2 15 "MastPulpits$Pad" "length" "I", Cond.methodLink RX2 30 yX2_actAt, Cond.instanceMethod yX2_actAt, Cond.selects RX2 yX2_actAt yX2_actAt, Cond.code yX2_actAt cX2_actAt 4 (some .int), Cond.methodLink RX2 19 yX2_signAt]
def wsX6_behind_r2 : List Cond := [Cond.instanceMethod yX2_signAt, Cond.selects RX2 yX2_signAt yX2_signAt, Cond.code yX2_signAt cX2_signAt 2 (some .int), Cond.fieldLink RX2 9 "MastPulpits$Pad" "signs" "[I", Cond.methodLink RX2 23 yX2_isLetter, Cond.static yX2_isLetter, Cond.code yX2_isLetter cX2_isLetter 1 (some .boolean), Cond.methodLink RX2 27 yX2_isDigit, Cond.static yX2_isDigit, Cond.code yX2_isDigit cX2_isDigit 1 (some .boolean), Cond.methodLink RX2 33 yX2_needsASecond, Cond.static yX2_needsASecond, Cond.code yX2_needsASecond cX2_needsASecond 1 (some .boolean), Cond.methodLink RX2 36 yX2_signsOf, Cond.static yX2_signsOf, Cond.code yX2_signsOf cX2_signsOf 1 (some .int), Cond.methodLink RX6 220 yX5_sailByText, Cond.instanceMethod yX5_sailByText, Cond.selects RX5 yX5_sailByText yX5_sailByText, Cond.initialized RX5, Cond.code yX5_sailByText cX5_sailByText 6 none, Cond.fieldLink RX5 47 "MastPulpits$Pad" "length" "I", Cond.fieldLink RX5 29 "MastPulpits$Voyage" "reason" "I", Cond.fieldLink RX5 22 "MastPulpits$Voyage" "acts" "I"]
def wsX6_behind_r3 : List Cond := [Cond.fieldLink RX5 26 "MastPulpits$Voyage" "stoppedAt" "I", Cond.methodLink RX5 44 yX5_setOut, Cond.instanceMethod yX5_setOut, Cond.selects RX5 yX5_setOut yX5_setOut, Cond.code yX5_setOut cX5_setOut 2 none, Cond.fieldLink RX5 12 "MastPulpits$Voyage" "seaThen" "LMastPulpits$Sea;", Cond.fieldLink RX5 32 "MastPulpits$Voyage" "strikes" "I", Cond.fieldLink RX5 35 "MastPulpits$Voyage" "calls" "I", Cond.fieldLink RX5 38 "MastPulpits$Voyage" "silences" "I", Cond.fieldLink RX5 41 "MastPulpits$Voyage" "firstSilence" "I", Cond.methodLink RX5 18 yX4_takeOver, Cond.instanceMethod yX4_takeOver, Cond.selects RX4 yX4_takeOver yX4_takeOver, Cond.initialized RX4, Cond.code yX4_takeOver cX4_takeOver 3 none, Cond.fieldLink RX4 9 "MastPulpits$Sea" "lands" "J", Cond.fieldLink RX4 15 "MastPulpits$Sea" "shipCell" "I", Cond.fieldLink RX4 19 "MastPulpits$Sea" "shipHull" "I", Cond.fieldLink RX4 22 "MastPulpits$Sea" "up" "I", Cond.fieldLink RX4 25 "MastPulpits$Sea" "hoursUp" "I", Cond.fieldLink RX4 28 "MastPulpits$Sea" "fogNow" "I", Cond.fieldLink RX4 31 "MastPulpits$Sea" "hourNow" "I", Cond.fieldLink RX4 34 "MastPulpits$Sea" "sights" "I", Cond.fieldLink RX4 41 "MastPulpits$Sea" "fitting" "J"]
def wsX6_behind_r4 : List Cond := [Cond.fieldLink RX4 44 "MastPulpits$Sea" "eyes" "[I", Cond.methodLink RX5 52 yX2_actAt, Cond.methodLink RX5 56 yX2_withAt, Cond.instanceMethod yX2_withAt, Cond.selects RX2 yX2_withAt yX2_withAt, Cond.code yX2_withAt cX2_withAt 3 (some .int), Cond.methodLink RX5 59 yX5_tryAct, Cond.instanceMethod yX5_tryAct, Cond.selects RX5 yX5_tryAct yX5_tryAct, Cond.code yX5_tryAct cX5_tryAct 5 (some .int), Cond.fieldLink RX5 70 "MastPulpits$Sea" "shipCell" "I", Cond.methodLink RX5 73 yX0_next, Cond.static yX0_next, Cond.initialized RX0, Cond.code yX0_next cX0_next 2 (some .int), Cond.fieldLink RX0 21 "MastPulpits$Chart" "ROWS_OF_WAY" "[I", Cond.fieldLink RX0 25 "MastPulpits$Chart" "COLUMNS_OF_WAY" "[I", Cond.methodLink RX0 17 yX0_isCell, Cond.static yX0_isCell, Cond.code yX0_isCell cX0_isCell 1 (some .boolean), Cond.methodLink RX0 28 yX0_moved, Cond.static yX0_moved, Cond.code yX0_moved cX0_moved 6 (some .int), Cond.methodLink RX5 78 yX4_reasonAgainst]
def wsX6_behind_r5 : List Cond := [Cond.instanceMethod yX4_reasonAgainst, Cond.selects RX4 yX4_reasonAgainst yX4_reasonAgainst, Cond.code yX4_reasonAgainst cX4_reasonAgainst 4 (some .int), Cond.methodLink RX4 77 yX4_reasonAgainstSailing, Cond.instanceMethod yX4_reasonAgainstSailing, Cond.selects RX4 yX4_reasonAgainstSailing yX4_reasonAgainstSailing, Cond.code yX4_reasonAgainstSailing cX4_reasonAgainstSailing 2 (some .int), Cond.methodLink RX5 82 yX4_sighted, Cond.instanceMethod yX4_sighted, Cond.selects RX4 yX4_sighted yX4_sighted, Cond.code yX4_sighted cX4_sighted 1 (some .long), Cond.methodLink RX4 58 yX4_glass, Cond.instanceMethod yX4_glass, Cond.selects RX4 yX4_glass yX4_glass, Cond.code yX4_glass cX4_glass 3 (some .int), Cond.methodLink RX4 52 Lib.Math.max.name, Cond.static Lib.Math.max.name, Cond.initialized "java/lang/Math", Cond.code Lib.Math.max.name Lib.Math.max.code 2 (some .int), Cond.methodLink RX4 62 yX0_around, Cond.static yX0_around, Cond.code yX0_around cX0_around 12 (some .long), Cond.methodLink RX0 40 Lib.Math.max.name, Cond.methodLink RX0 45 Lib.Math.min.name]
def wsX6_behind_r6 : List Cond := [Cond.static Lib.Math.min.name, Cond.code Lib.Math.min.name Lib.Math.min.code 2 (some .int), Cond.constantLong RX0 48 (-1), Cond.constantLong RX0 50 (255), Cond.constantLong RX0 52 (72340172838076673), Cond.methodLink RX5 86 yX5_countCall, Cond.instanceMethod yX5_countCall, Cond.selects RX5 yX5_countCall yX5_countCall, Cond.code yX5_countCall cX5_countCall 3 none, Cond.methodLink RX5 90 yX4_isLand, Cond.instanceMethod yX4_isLand, Cond.selects RX4 yX4_isLand yX4_isLand, Cond.code yX4_isLand cX4_isLand 2 (some .boolean), Cond.methodLink RX4 48 yX0_holds, Cond.static yX0_holds, Cond.code yX0_holds cX0_holds 3 (some .boolean), Cond.methodLink RX5 94 yX4_perform, Cond.instanceMethod yX4_perform, Cond.selects RX4 yX4_perform yX4_perform, Cond.code yX4_perform cX4_perform 4 none, Cond.methodLink RX4 81 yX4_goOrStrike, Cond.instanceMethod yX4_goOrStrike, Cond.selects RX4 yX4_goOrStrike yX4_goOrStrike, Cond.code yX4_goOrStrike cX4_goOrStrike 2 none]
def wsX6_behind_r7 : List Cond := [Cond.methodLink RX4 85 yX4_passAnHour, Cond.instanceMethod yX4_passAnHour, Cond.selects RX4 yX4_passAnHour yX4_passAnHour, Cond.code yX4_passAnHour cX4_passAnHour 1 none, Cond.methodLink RX5 63 yX2_signsOf, Cond.methodLink RX6 128 yX6_shipAndWatch, Cond.static yX6_shipAndWatch, Cond.code yX6_shipAndWatch cX6_shipAndWatch 2 (some .int), Cond.fieldLink RX6 62 "MastPulpits$Sea" "shipCell" "I", Cond.fieldLink RX6 85 "MastPulpits$Sea" "shipHull" "I", Cond.fieldLink RX6 132 "MastPulpits$Sea" "up" "I", Cond.fieldLink RX6 224 "MastPulpits$Sea" "hoursUp" "I", Cond.fieldLink RX6 99 "MastPulpits$Sea" "fogNow" "I", Cond.fieldLink RX6 227 "MastPulpits$Sea" "hourNow" "I"]
def wsX6_behind : List Cond := .code yX6_behind cX6_behind 3 (some .int) :: ((wsX6_behind_r1 ++ (wsX6_behind_r2 ++ (wsX6_behind_r3 ++ (wsX6_behind_r4 ++ (wsX6_behind_r5 ++ (wsX6_behind_r6 ++ wsX6_behind_r7)))))) ++ wsX60 ++ wsX50 ++ wsX20 ++ wsX40)
def wsX6_seen_r1 : List Cond := [Cond.fieldLink RX6 26 "MastPulpits" "voyage" "LMastPulpits$Voyage;", Cond.fieldLink RX6 125 "MastPulpits$Voyage" "seaThen" "LMastPulpits$Sea;", Cond.fieldLink RX6 132 "MastPulpits$Sea" "up" "I", Cond.methodLink RX6 112 yX6_sailTheText, Cond.instanceMethod yX6_sailTheText, Cond.selects RX6 yX6_sailTheText yX6_sailTheText, Cond.initialized RX6, Cond.code yX6_sailTheText cX6_sailTheText 4 (some .int), Cond.fieldLink RX6 19 "MastPulpits" "pad" "LMastPulpits$Pad;", Cond.fieldLink RX6 10 "MastPulpits" "sea" "LMastPulpits$Sea;", Cond.fieldLink RX6 116 "MastPulpits$Voyage" "stoppedAt" "I", Cond.methodLink RX6 58 yX6_within, Cond.static yX6_within, Cond.code yX6_within cX6_within 3 (some .boolean), Cond.methodLink RX6 108 yX2_firstFault, Cond.instanceMethod yX2_firstFault, Cond.selects RX2 yX2_firstFault yX2_firstFault, Cond.initialized RX2, Cond.code yX2_firstFault cX2_firstFault 4 (some .int), Cond.fieldLink RX2 15 "MastPulpits$Pad" "length" "I", Cond.methodLink RX2 30 yX2_actAt, Cond.instanceMethod yX2_actAt, Cond.selects RX2 yX2_actAt yX2_actAt, Cond.code yX2_actAt cX2_actAt 4 (some .int)]
def wsX6_seen_r2 : List Cond := [Cond.methodLink RX2 19 yX2_signAt, Cond.instanceMethod yX2_signAt, Cond.selects RX2 yX2_signAt yX2_signAt, Cond.code yX2_signAt cX2_signAt 2 (some .int), Cond.fieldLink RX2 9 "MastPulpits$Pad" "signs" "[I", Cond.methodLink RX2 23 yX2_isLetter, Cond.static yX2_isLetter, Cond.code yX2_isLetter cX2_isLetter 1 (some .boolean), Cond.methodLink RX2 27 yX2_isDigit, Cond.static yX2_isDigit, Cond.code yX2_isDigit cX2_isDigit 1 (some .boolean), Cond.methodLink RX2 33 yX2_needsASecond, Cond.static yX2_needsASecond, Cond.code yX2_needsASecond cX2_needsASecond 1 (some .boolean), Cond.methodLink RX2 36 yX2_signsOf, Cond.static yX2_signsOf, Cond.code yX2_signsOf cX2_signsOf 1 (some .int), Cond.methodLink RX6 220 yX5_sailByText, Cond.instanceMethod yX5_sailByText, Cond.selects RX5 yX5_sailByText yX5_sailByText, Cond.initialized RX5, Cond.code yX5_sailByText cX5_sailByText 6 none, Cond.fieldLink RX5 47 "MastPulpits$Pad" "length" "I", Cond.fieldLink RX5 29 "MastPulpits$Voyage" "reason" "I"]
def wsX6_seen_r3 : List Cond := [Cond.fieldLink RX5 22 "MastPulpits$Voyage" "acts" "I", Cond.fieldLink RX5 26 "MastPulpits$Voyage" "stoppedAt" "I", Cond.methodLink RX5 44 yX5_setOut, Cond.instanceMethod yX5_setOut, Cond.selects RX5 yX5_setOut yX5_setOut, Cond.code yX5_setOut cX5_setOut 2 none, Cond.fieldLink RX5 12 "MastPulpits$Voyage" "seaThen" "LMastPulpits$Sea;", Cond.fieldLink RX5 32 "MastPulpits$Voyage" "strikes" "I", Cond.fieldLink RX5 35 "MastPulpits$Voyage" "calls" "I", Cond.fieldLink RX5 38 "MastPulpits$Voyage" "silences" "I", Cond.fieldLink RX5 41 "MastPulpits$Voyage" "firstSilence" "I", Cond.methodLink RX5 18 yX4_takeOver, Cond.instanceMethod yX4_takeOver, Cond.selects RX4 yX4_takeOver yX4_takeOver, Cond.initialized RX4, Cond.code yX4_takeOver cX4_takeOver 3 none, Cond.fieldLink RX4 9 "MastPulpits$Sea" "lands" "J", Cond.fieldLink RX4 15 "MastPulpits$Sea" "shipCell" "I", Cond.fieldLink RX4 19 "MastPulpits$Sea" "shipHull" "I", Cond.fieldLink RX4 22 "MastPulpits$Sea" "up" "I", Cond.fieldLink RX4 25 "MastPulpits$Sea" "hoursUp" "I", Cond.fieldLink RX4 28 "MastPulpits$Sea" "fogNow" "I", Cond.fieldLink RX4 31 "MastPulpits$Sea" "hourNow" "I", Cond.fieldLink RX4 34 "MastPulpits$Sea" "sights" "I"]
def wsX6_seen_r4 : List Cond := [Cond.fieldLink RX4 41 "MastPulpits$Sea" "fitting" "J", Cond.fieldLink RX4 44 "MastPulpits$Sea" "eyes" "[I", Cond.methodLink RX5 52 yX2_actAt, Cond.methodLink RX5 56 yX2_withAt, Cond.instanceMethod yX2_withAt, Cond.selects RX2 yX2_withAt yX2_withAt, Cond.code yX2_withAt cX2_withAt 3 (some .int), Cond.methodLink RX5 59 yX5_tryAct, Cond.instanceMethod yX5_tryAct, Cond.selects RX5 yX5_tryAct yX5_tryAct, Cond.code yX5_tryAct cX5_tryAct 5 (some .int), Cond.fieldLink RX5 70 "MastPulpits$Sea" "shipCell" "I", Cond.methodLink RX5 73 yX0_next, Cond.static yX0_next, Cond.initialized RX0, Cond.code yX0_next cX0_next 2 (some .int), Cond.fieldLink RX0 21 "MastPulpits$Chart" "ROWS_OF_WAY" "[I", Cond.fieldLink RX0 25 "MastPulpits$Chart" "COLUMNS_OF_WAY" "[I", Cond.methodLink RX0 17 yX0_isCell, Cond.static yX0_isCell, Cond.code yX0_isCell cX0_isCell 1 (some .boolean), Cond.methodLink RX0 28 yX0_moved, Cond.static yX0_moved, Cond.code yX0_moved cX0_moved 6 (some .int)]
def wsX6_seen_r5 : List Cond := [Cond.methodLink RX5 78 yX4_reasonAgainst, Cond.instanceMethod yX4_reasonAgainst, Cond.selects RX4 yX4_reasonAgainst yX4_reasonAgainst, Cond.code yX4_reasonAgainst cX4_reasonAgainst 4 (some .int), Cond.methodLink RX4 77 yX4_reasonAgainstSailing, Cond.instanceMethod yX4_reasonAgainstSailing, Cond.selects RX4 yX4_reasonAgainstSailing yX4_reasonAgainstSailing, Cond.code yX4_reasonAgainstSailing cX4_reasonAgainstSailing 2 (some .int), Cond.methodLink RX5 82 yX4_sighted, Cond.instanceMethod yX4_sighted, Cond.selects RX4 yX4_sighted yX4_sighted, Cond.code yX4_sighted cX4_sighted 1 (some .long), Cond.methodLink RX4 58 yX4_glass, Cond.instanceMethod yX4_glass, Cond.selects RX4 yX4_glass yX4_glass, Cond.code yX4_glass cX4_glass 3 (some .int), Cond.methodLink RX4 52 Lib.Math.max.name, Cond.static Lib.Math.max.name, Cond.initialized "java/lang/Math", Cond.code Lib.Math.max.name Lib.Math.max.code 2 (some .int), Cond.methodLink RX4 62 yX0_around, Cond.static yX0_around, Cond.code yX0_around cX0_around 12 (some .long), Cond.methodLink RX0 40 Lib.Math.max.name]
def wsX6_seen_r6 : List Cond := [Cond.methodLink RX0 45 Lib.Math.min.name, Cond.static Lib.Math.min.name, Cond.code Lib.Math.min.name Lib.Math.min.code 2 (some .int), Cond.constantLong RX0 48 (-1), Cond.constantLong RX0 50 (255), Cond.constantLong RX0 52 (72340172838076673), Cond.methodLink RX5 86 yX5_countCall, Cond.instanceMethod yX5_countCall, Cond.selects RX5 yX5_countCall yX5_countCall, Cond.code yX5_countCall cX5_countCall 3 none, Cond.methodLink RX5 90 yX4_isLand, Cond.instanceMethod yX4_isLand, Cond.selects RX4 yX4_isLand yX4_isLand, Cond.code yX4_isLand cX4_isLand 2 (some .boolean), Cond.methodLink RX4 48 yX0_holds, Cond.static yX0_holds, Cond.code yX0_holds cX0_holds 3 (some .boolean), Cond.methodLink RX5 94 yX4_perform, Cond.instanceMethod yX4_perform, Cond.selects RX4 yX4_perform yX4_perform, Cond.code yX4_perform cX4_perform 4 none, Cond.methodLink RX4 81 yX4_goOrStrike, Cond.instanceMethod yX4_goOrStrike, Cond.selects RX4 yX4_goOrStrike yX4_goOrStrike]
def wsX6_seen_r7 : List Cond := [Cond.code yX4_goOrStrike cX4_goOrStrike 2 none, Cond.methodLink RX4 85 yX4_passAnHour, Cond.instanceMethod yX4_passAnHour, Cond.selects RX4 yX4_passAnHour yX4_passAnHour, Cond.code yX4_passAnHour cX4_passAnHour 1 none, Cond.methodLink RX5 63 yX2_signsOf, Cond.methodLink RX6 135 yX4_sighted, Cond.methodLink RX6 76 yJ13_bitCount_95d88, Cond.static yJ13_bitCount_95d88, Cond.initialized RJ13, Cond.code yJ13_bitCount_95d88 cJ13_bitCount_95d88 2 (some .int), Cond.constantLong RJ13 314 (6148914691236517205), Cond.constantLong RJ13 316 (3689348814741910323), Cond.constantLong RJ13 318 (1085102592571150095), Cond.methodLink RX6 139 yX4_nearestFar, Cond.instanceMethod yX4_nearestFar, Cond.selects RX4 yX4_nearestFar yX4_nearestFar, Cond.code yX4_nearestFar cX4_nearestFar 4 (some .int), Cond.methodLink RX4 66 yX4_sighted, Cond.methodLink RX6 142 yX4_nearestLand, Cond.instanceMethod yX4_nearestLand, Cond.selects RX4 yX4_nearestLand yX4_nearestLand, Cond.code yX4_nearestLand cX4_nearestLand 2 (some .int), Cond.methodLink RX4 70 yX4_nearestFar]
def wsX6_seen_r8 : List Cond := [Cond.methodLink RX4 73 yX0_least, Cond.static yX0_least, Cond.code yX0_least cX0_least 2 (some .int), Cond.methodLink RX0 11 yJ13_bitCount_95d88]
def wsX6_seen : List Cond := .code yX6_seen cX6_seen 4 (some .int) :: ((wsX6_seen_r1 ++ (wsX6_seen_r2 ++ (wsX6_seen_r3 ++ (wsX6_seen_r4 ++ (wsX6_seen_r5 ++ (wsX6_seen_r6 ++ (wsX6_seen_r7 ++ wsX6_seen_r8))))))) ++ wsX60 ++ wsX50 ++ wsX40 ++ wsX20)
def wsX6_silence_r1 : List Cond := [Cond.fieldLink RX6 26 "MastPulpits" "voyage" "LMastPulpits$Voyage;", Cond.fieldLink RX6 145 "MastPulpits$Voyage" "firstSilence" "I", Cond.fieldLink RX6 148 "MastPulpits$Voyage" "calls" "I", Cond.methodLink RX6 112 yX6_sailTheText, Cond.instanceMethod yX6_sailTheText, Cond.selects RX6 yX6_sailTheText yX6_sailTheText, Cond.initialized RX6, Cond.code yX6_sailTheText cX6_sailTheText 4 (some .int), Cond.fieldLink RX6 19 "MastPulpits" "pad" "LMastPulpits$Pad;", Cond.fieldLink RX6 10 "MastPulpits" "sea" "LMastPulpits$Sea;", Cond.fieldLink RX6 116 "MastPulpits$Voyage" "stoppedAt" "I", Cond.methodLink RX6 58 yX6_within, Cond.static yX6_within, Cond.code yX6_within cX6_within 3 (some .boolean), Cond.methodLink RX6 108 yX2_firstFault, Cond.instanceMethod yX2_firstFault, Cond.selects RX2 yX2_firstFault yX2_firstFault, Cond.initialized RX2, Cond.code yX2_firstFault cX2_firstFault 4 (some .int), Cond.fieldLink RX2 15 "MastPulpits$Pad" "length" "I", Cond.methodLink RX2 30 yX2_actAt, Cond.instanceMethod yX2_actAt, Cond.selects RX2 yX2_actAt yX2_actAt, Cond.code yX2_actAt cX2_actAt 4 (some .int)]
def wsX6_silence_r2 : List Cond := [Cond.methodLink RX2 19 yX2_signAt, Cond.instanceMethod yX2_signAt, Cond.selects RX2 yX2_signAt yX2_signAt, Cond.code yX2_signAt cX2_signAt 2 (some .int), Cond.fieldLink RX2 9 "MastPulpits$Pad" "signs" "[I", Cond.methodLink RX2 23 yX2_isLetter, Cond.static yX2_isLetter, Cond.code yX2_isLetter cX2_isLetter 1 (some .boolean), Cond.methodLink RX2 27 yX2_isDigit, Cond.static yX2_isDigit, Cond.code yX2_isDigit cX2_isDigit 1 (some .boolean), Cond.methodLink RX2 33 yX2_needsASecond, Cond.static yX2_needsASecond, Cond.code yX2_needsASecond cX2_needsASecond 1 (some .boolean), Cond.methodLink RX2 36 yX2_signsOf, Cond.static yX2_signsOf, Cond.code yX2_signsOf cX2_signsOf 1 (some .int), Cond.methodLink RX6 220 yX5_sailByText, Cond.instanceMethod yX5_sailByText, Cond.selects RX5 yX5_sailByText yX5_sailByText, Cond.initialized RX5, Cond.code yX5_sailByText cX5_sailByText 6 none, Cond.fieldLink RX5 47 "MastPulpits$Pad" "length" "I", Cond.fieldLink RX5 29 "MastPulpits$Voyage" "reason" "I"]
def wsX6_silence_r3 : List Cond := [Cond.fieldLink RX5 22 "MastPulpits$Voyage" "acts" "I", Cond.fieldLink RX5 26 "MastPulpits$Voyage" "stoppedAt" "I", Cond.methodLink RX5 44 yX5_setOut, Cond.instanceMethod yX5_setOut, Cond.selects RX5 yX5_setOut yX5_setOut, Cond.code yX5_setOut cX5_setOut 2 none, Cond.fieldLink RX5 12 "MastPulpits$Voyage" "seaThen" "LMastPulpits$Sea;", Cond.fieldLink RX5 32 "MastPulpits$Voyage" "strikes" "I", Cond.fieldLink RX5 35 "MastPulpits$Voyage" "calls" "I", Cond.fieldLink RX5 38 "MastPulpits$Voyage" "silences" "I", Cond.fieldLink RX5 41 "MastPulpits$Voyage" "firstSilence" "I", Cond.methodLink RX5 18 yX4_takeOver, Cond.instanceMethod yX4_takeOver, Cond.selects RX4 yX4_takeOver yX4_takeOver, Cond.initialized RX4, Cond.code yX4_takeOver cX4_takeOver 3 none, Cond.fieldLink RX4 9 "MastPulpits$Sea" "lands" "J", Cond.fieldLink RX4 15 "MastPulpits$Sea" "shipCell" "I", Cond.fieldLink RX4 19 "MastPulpits$Sea" "shipHull" "I", Cond.fieldLink RX4 22 "MastPulpits$Sea" "up" "I", Cond.fieldLink RX4 25 "MastPulpits$Sea" "hoursUp" "I", Cond.fieldLink RX4 28 "MastPulpits$Sea" "fogNow" "I", Cond.fieldLink RX4 31 "MastPulpits$Sea" "hourNow" "I", Cond.fieldLink RX4 34 "MastPulpits$Sea" "sights" "I"]
def wsX6_silence_r4 : List Cond := [Cond.fieldLink RX4 41 "MastPulpits$Sea" "fitting" "J", Cond.fieldLink RX4 44 "MastPulpits$Sea" "eyes" "[I", Cond.methodLink RX5 52 yX2_actAt, Cond.methodLink RX5 56 yX2_withAt, Cond.instanceMethod yX2_withAt, Cond.selects RX2 yX2_withAt yX2_withAt, Cond.code yX2_withAt cX2_withAt 3 (some .int), Cond.methodLink RX5 59 yX5_tryAct, Cond.instanceMethod yX5_tryAct, Cond.selects RX5 yX5_tryAct yX5_tryAct, Cond.code yX5_tryAct cX5_tryAct 5 (some .int), Cond.fieldLink RX5 70 "MastPulpits$Sea" "shipCell" "I", Cond.methodLink RX5 73 yX0_next, Cond.static yX0_next, Cond.initialized RX0, Cond.code yX0_next cX0_next 2 (some .int), Cond.fieldLink RX0 21 "MastPulpits$Chart" "ROWS_OF_WAY" "[I", Cond.fieldLink RX0 25 "MastPulpits$Chart" "COLUMNS_OF_WAY" "[I", Cond.methodLink RX0 17 yX0_isCell, Cond.static yX0_isCell, Cond.code yX0_isCell cX0_isCell 1 (some .boolean), Cond.methodLink RX0 28 yX0_moved, Cond.static yX0_moved, Cond.code yX0_moved cX0_moved 6 (some .int)]
def wsX6_silence_r5 : List Cond := [Cond.methodLink RX5 78 yX4_reasonAgainst, Cond.instanceMethod yX4_reasonAgainst, Cond.selects RX4 yX4_reasonAgainst yX4_reasonAgainst, Cond.code yX4_reasonAgainst cX4_reasonAgainst 4 (some .int), Cond.methodLink RX4 77 yX4_reasonAgainstSailing, Cond.instanceMethod yX4_reasonAgainstSailing, Cond.selects RX4 yX4_reasonAgainstSailing yX4_reasonAgainstSailing, Cond.code yX4_reasonAgainstSailing cX4_reasonAgainstSailing 2 (some .int), Cond.methodLink RX5 82 yX4_sighted, Cond.instanceMethod yX4_sighted, Cond.selects RX4 yX4_sighted yX4_sighted, Cond.code yX4_sighted cX4_sighted 1 (some .long), Cond.methodLink RX4 58 yX4_glass, Cond.instanceMethod yX4_glass, Cond.selects RX4 yX4_glass yX4_glass, Cond.code yX4_glass cX4_glass 3 (some .int), Cond.methodLink RX4 52 Lib.Math.max.name, Cond.static Lib.Math.max.name, Cond.initialized "java/lang/Math", Cond.code Lib.Math.max.name Lib.Math.max.code 2 (some .int), Cond.methodLink RX4 62 yX0_around, Cond.static yX0_around, Cond.code yX0_around cX0_around 12 (some .long), Cond.methodLink RX0 40 Lib.Math.max.name]
def wsX6_silence_r6 : List Cond := [Cond.methodLink RX0 45 Lib.Math.min.name, Cond.static Lib.Math.min.name, Cond.code Lib.Math.min.name Lib.Math.min.code 2 (some .int), Cond.constantLong RX0 48 (-1), Cond.constantLong RX0 50 (255), Cond.constantLong RX0 52 (72340172838076673), Cond.methodLink RX5 86 yX5_countCall, Cond.instanceMethod yX5_countCall, Cond.selects RX5 yX5_countCall yX5_countCall, Cond.code yX5_countCall cX5_countCall 3 none, Cond.methodLink RX5 90 yX4_isLand, Cond.instanceMethod yX4_isLand, Cond.selects RX4 yX4_isLand yX4_isLand, Cond.code yX4_isLand cX4_isLand 2 (some .boolean), Cond.methodLink RX4 48 yX0_holds, Cond.static yX0_holds, Cond.code yX0_holds cX0_holds 3 (some .boolean), Cond.methodLink RX5 94 yX4_perform, Cond.instanceMethod yX4_perform, Cond.selects RX4 yX4_perform yX4_perform, Cond.code yX4_perform cX4_perform 4 none, Cond.methodLink RX4 81 yX4_goOrStrike, Cond.instanceMethod yX4_goOrStrike, Cond.selects RX4 yX4_goOrStrike yX4_goOrStrike]
def wsX6_silence_r7 : List Cond := [Cond.code yX4_goOrStrike cX4_goOrStrike 2 none, Cond.methodLink RX4 85 yX4_passAnHour, Cond.instanceMethod yX4_passAnHour, Cond.selects RX4 yX4_passAnHour yX4_passAnHour, Cond.code yX4_passAnHour cX4_passAnHour 1 none, Cond.methodLink RX5 63 yX2_signsOf]
def wsX6_silence : List Cond := .code yX6_silence cX6_silence 3 (some .int) :: ((wsX6_silence_r1 ++ (wsX6_silence_r2 ++ (wsX6_silence_r3 ++ (wsX6_silence_r4 ++ (wsX6_silence_r5 ++ (wsX6_silence_r6 ++ wsX6_silence_r7)))))) ++ wsX60 ++ wsX50 ++ wsX20 ++ wsX40)
def wsX6_done_r1 : List Cond := [Cond.fieldLink RX6 10 "MastPulpits" "sea" "LMastPulpits$Sea;", Cond.fieldLink RX6 26 "MastPulpits" "voyage" "LMastPulpits$Voyage;", Cond.fieldLink RX6 125 "MastPulpits$Voyage" "seaThen" "LMastPulpits$Sea;", Cond.fieldLink RX6 19 "MastPulpits" "pad" "LMastPulpits$Pad;", Cond.fieldLink RX6 105 "MastPulpits$Pad" "length" "I", Cond.fieldLink RX6 155 "MastPulpits$Voyage" "acts" "I", Cond.methodLink RX6 112 yX6_sailTheText, Cond.instanceMethod yX6_sailTheText, Cond.selects RX6 yX6_sailTheText yX6_sailTheText, Cond.initialized RX6, Cond.code yX6_sailTheText cX6_sailTheText 4 (some .int), Cond.fieldLink RX6 116 "MastPulpits$Voyage" "stoppedAt" "I", Cond.methodLink RX6 58 yX6_within, Cond.static yX6_within, Cond.code yX6_within cX6_within 3 (some .boolean), Cond.methodLink RX6 108 yX2_firstFault, Cond.instanceMethod yX2_firstFault, Cond.selects RX2 yX2_firstFault yX2_firstFault, Cond.initialized RX2, Cond.code yX2_firstFault cX2_firstFault 4 (some .int), Cond.fieldLink RX2 15 "MastPulpits$Pad" "length" "I", Cond.methodLink RX2 30 yX2_actAt, Cond.instanceMethod yX2_actAt, Cond.selects RX2 yX2_actAt yX2_actAt]
def wsX6_done_r2 : List Cond := [Cond.code yX2_actAt cX2_actAt 4 (some .int), Cond.methodLink RX2 19 yX2_signAt, Cond.instanceMethod yX2_signAt, Cond.selects RX2 yX2_signAt yX2_signAt, Cond.code yX2_signAt cX2_signAt 2 (some .int), Cond.fieldLink RX2 9 "MastPulpits$Pad" "signs" "[I", Cond.methodLink RX2 23 yX2_isLetter, Cond.static yX2_isLetter, Cond.code yX2_isLetter cX2_isLetter 1 (some .boolean), Cond.methodLink RX2 27 yX2_isDigit, Cond.static yX2_isDigit, Cond.code yX2_isDigit cX2_isDigit 1 (some .boolean), Cond.methodLink RX2 33 yX2_needsASecond, Cond.static yX2_needsASecond, Cond.code yX2_needsASecond cX2_needsASecond 1 (some .boolean), Cond.methodLink RX2 36 yX2_signsOf, Cond.static yX2_signsOf, Cond.code yX2_signsOf cX2_signsOf 1 (some .int), Cond.methodLink RX6 220 yX5_sailByText, Cond.instanceMethod yX5_sailByText, Cond.selects RX5 yX5_sailByText yX5_sailByText, Cond.initialized RX5, Cond.code yX5_sailByText cX5_sailByText 6 none, Cond.fieldLink RX5 47 "MastPulpits$Pad" "length" "I"]
def wsX6_done_r3 : List Cond := [Cond.fieldLink RX5 29 "MastPulpits$Voyage" "reason" "I", Cond.fieldLink RX5 22 "MastPulpits$Voyage" "acts" "I", Cond.fieldLink RX5 26 "MastPulpits$Voyage" "stoppedAt" "I", Cond.methodLink RX5 44 yX5_setOut, Cond.instanceMethod yX5_setOut, Cond.selects RX5 yX5_setOut yX5_setOut, Cond.code yX5_setOut cX5_setOut 2 none, Cond.fieldLink RX5 12 "MastPulpits$Voyage" "seaThen" "LMastPulpits$Sea;", Cond.fieldLink RX5 32 "MastPulpits$Voyage" "strikes" "I", Cond.fieldLink RX5 35 "MastPulpits$Voyage" "calls" "I", Cond.fieldLink RX5 38 "MastPulpits$Voyage" "silences" "I", Cond.fieldLink RX5 41 "MastPulpits$Voyage" "firstSilence" "I", Cond.methodLink RX5 18 yX4_takeOver, Cond.instanceMethod yX4_takeOver, Cond.selects RX4 yX4_takeOver yX4_takeOver, Cond.initialized RX4, Cond.code yX4_takeOver cX4_takeOver 3 none, Cond.fieldLink RX4 9 "MastPulpits$Sea" "lands" "J", Cond.fieldLink RX4 15 "MastPulpits$Sea" "shipCell" "I", Cond.fieldLink RX4 19 "MastPulpits$Sea" "shipHull" "I", Cond.fieldLink RX4 22 "MastPulpits$Sea" "up" "I", Cond.fieldLink RX4 25 "MastPulpits$Sea" "hoursUp" "I", Cond.fieldLink RX4 28 "MastPulpits$Sea" "fogNow" "I", Cond.fieldLink RX4 31 "MastPulpits$Sea" "hourNow" "I"]
def wsX6_done_r4 : List Cond := [Cond.fieldLink RX4 34 "MastPulpits$Sea" "sights" "I", Cond.fieldLink RX4 41 "MastPulpits$Sea" "fitting" "J", Cond.fieldLink RX4 44 "MastPulpits$Sea" "eyes" "[I", Cond.methodLink RX5 52 yX2_actAt, Cond.methodLink RX5 56 yX2_withAt, Cond.instanceMethod yX2_withAt, Cond.selects RX2 yX2_withAt yX2_withAt, Cond.code yX2_withAt cX2_withAt 3 (some .int), Cond.methodLink RX5 59 yX5_tryAct, Cond.instanceMethod yX5_tryAct, Cond.selects RX5 yX5_tryAct yX5_tryAct, Cond.code yX5_tryAct cX5_tryAct 5 (some .int), Cond.fieldLink RX5 70 "MastPulpits$Sea" "shipCell" "I", Cond.methodLink RX5 73 yX0_next, Cond.static yX0_next, Cond.initialized RX0, Cond.code yX0_next cX0_next 2 (some .int), Cond.fieldLink RX0 21 "MastPulpits$Chart" "ROWS_OF_WAY" "[I", Cond.fieldLink RX0 25 "MastPulpits$Chart" "COLUMNS_OF_WAY" "[I", Cond.methodLink RX0 17 yX0_isCell, Cond.static yX0_isCell, Cond.code yX0_isCell cX0_isCell 1 (some .boolean), Cond.methodLink RX0 28 yX0_moved, Cond.static yX0_moved]
def wsX6_done_r5 : List Cond := [Cond.code yX0_moved cX0_moved 6 (some .int), Cond.methodLink RX5 78 yX4_reasonAgainst, Cond.instanceMethod yX4_reasonAgainst, Cond.selects RX4 yX4_reasonAgainst yX4_reasonAgainst, Cond.code yX4_reasonAgainst cX4_reasonAgainst 4 (some .int), Cond.methodLink RX4 77 yX4_reasonAgainstSailing, Cond.instanceMethod yX4_reasonAgainstSailing, Cond.selects RX4 yX4_reasonAgainstSailing yX4_reasonAgainstSailing, Cond.code yX4_reasonAgainstSailing cX4_reasonAgainstSailing 2 (some .int), Cond.methodLink RX5 82 yX4_sighted, Cond.instanceMethod yX4_sighted, Cond.selects RX4 yX4_sighted yX4_sighted, Cond.code yX4_sighted cX4_sighted 1 (some .long), Cond.methodLink RX4 58 yX4_glass, Cond.instanceMethod yX4_glass, Cond.selects RX4 yX4_glass yX4_glass, Cond.code yX4_glass cX4_glass 3 (some .int), Cond.methodLink RX4 52 Lib.Math.max.name, Cond.static Lib.Math.max.name, Cond.initialized "java/lang/Math", Cond.code Lib.Math.max.name Lib.Math.max.code 2 (some .int), Cond.methodLink RX4 62 yX0_around, Cond.static yX0_around, Cond.code yX0_around cX0_around 12 (some .long)]
def wsX6_done_r6 : List Cond := [Cond.methodLink RX0 40 Lib.Math.max.name, Cond.methodLink RX0 45 Lib.Math.min.name, Cond.static Lib.Math.min.name, Cond.code Lib.Math.min.name Lib.Math.min.code 2 (some .int), Cond.constantLong RX0 48 (-1), Cond.constantLong RX0 50 (255), Cond.constantLong RX0 52 (72340172838076673), Cond.methodLink RX5 86 yX5_countCall, Cond.instanceMethod yX5_countCall, Cond.selects RX5 yX5_countCall yX5_countCall, Cond.code yX5_countCall cX5_countCall 3 none, Cond.methodLink RX5 90 yX4_isLand, Cond.instanceMethod yX4_isLand, Cond.selects RX4 yX4_isLand yX4_isLand, Cond.code yX4_isLand cX4_isLand 2 (some .boolean), Cond.methodLink RX4 48 yX0_holds, Cond.static yX0_holds, Cond.code yX0_holds cX0_holds 3 (some .boolean), Cond.methodLink RX5 94 yX4_perform, Cond.instanceMethod yX4_perform, Cond.selects RX4 yX4_perform yX4_perform, Cond.code yX4_perform cX4_perform 4 none, Cond.methodLink RX4 81 yX4_goOrStrike, Cond.instanceMethod yX4_goOrStrike]
def wsX6_done_r7 : List Cond := [Cond.selects RX4 yX4_goOrStrike yX4_goOrStrike, Cond.code yX4_goOrStrike cX4_goOrStrike 2 none, Cond.methodLink RX4 85 yX4_passAnHour, Cond.instanceMethod yX4_passAnHour, Cond.selects RX4 yX4_passAnHour yX4_passAnHour, Cond.code yX4_passAnHour cX4_passAnHour 1 none, Cond.methodLink RX5 63 yX2_signsOf, Cond.methodLink RX6 151 yX4_takeOver]
def wsX6_done : List Cond := .code yX6_done cX6_done 2 (some .int) :: ((wsX6_done_r1 ++ (wsX6_done_r2 ++ (wsX6_done_r3 ++ (wsX6_done_r4 ++ (wsX6_done_r5 ++ (wsX6_done_r6 ++ wsX6_done_r7)))))) ++ wsX60 ++ wsX50 ++ wsX20 ++ wsX40)
def wsX6_fewestSteps_r1 : List Cond := [Cond.fieldLink RX6 10 "MastPulpits" "sea" "LMastPulpits$Sea;", Cond.fieldLink RX6 70 "MastPulpits$Sea" "lands" "J", Cond.constantLong RX6 74 (-1), Cond.methodLink RX6 82 yX4_isLand, Cond.instanceMethod yX4_isLand, Cond.selects RX4 yX4_isLand yX4_isLand, Cond.initialized RX4, Cond.code yX4_isLand cX4_isLand 2 (some .boolean), Cond.fieldLink RX4 9 "MastPulpits$Sea" "lands" "J", Cond.methodLink RX4 48 yX0_holds, Cond.static yX0_holds, Cond.initialized RX0, Cond.code yX0_holds cX0_holds 3 (some .boolean), Cond.methodLink RX6 66 yX0_only, Cond.static yX0_only, Cond.code yX0_only cX0_only 1 (some .long), Cond.methodLink RX6 230 yX0_spread, Cond.static yX0_spread, Cond.code yX0_spread cX0_spread 8 (some .long), Cond.constantLong RX0 54 (-72340172838076674), Cond.methodLink RX6 234 yX0_holds, Cond.methodLink RX6 238 yX0_leastWayInto, Cond.static yX0_leastWayInto, Cond.code yX0_leastWayInto cX0_leastWayInto 4 (some .int)]
def wsX6_fewestSteps_r2 : List Cond := [Cond.methodLink RX0 32 yX0_next, Cond.static yX0_next, Cond.code yX0_next cX0_next 2 (some .int), Cond.fieldLink RX0 21 "MastPulpits$Chart" "ROWS_OF_WAY" "[I", Cond.fieldLink RX0 25 "MastPulpits$Chart" "COLUMNS_OF_WAY" "[I", Cond.methodLink RX0 17 yX0_isCell, Cond.static yX0_isCell, Cond.code yX0_isCell cX0_isCell 1 (some .boolean), Cond.methodLink RX0 28 yX0_moved, Cond.static yX0_moved, Cond.code yX0_moved cX0_moved 6 (some .int), Cond.methodLink RX0 56 yX0_holds]
def wsX6_fewestSteps : List Cond := .code yX6_fewestSteps cX6_fewestSteps 9 (some .int) :: ((wsX6_fewestSteps_r1 ++ wsX6_fewestSteps_r2) ++ wsX60 ++ wsX40)
def wsX6_course_r1 : List Cond := [Cond.methodLink RX6 52 yX0_isCell, Cond.static yX0_isCell, Cond.initialized RX0, Cond.code yX0_isCell cX0_isCell 1 (some .boolean), Cond.methodLink RX6 58 yX6_within, Cond.static yX6_within, Cond.initialized RX6, Cond.code yX6_within cX6_within 3 (some .boolean), Cond.methodLink RX6 158 yX6_fewestSteps, Cond.instanceMethod yX6_fewestSteps, Cond.selects RX6 yX6_fewestSteps yX6_fewestSteps, Cond.code yX6_fewestSteps cX6_fewestSteps 9 (some .int), Cond.fieldLink RX6 10 "MastPulpits" "sea" "LMastPulpits$Sea;", Cond.fieldLink RX6 70 "MastPulpits$Sea" "lands" "J", Cond.constantLong RX6 74 (-1), Cond.methodLink RX6 82 yX4_isLand, Cond.instanceMethod yX4_isLand, Cond.selects RX4 yX4_isLand yX4_isLand, Cond.initialized RX4, Cond.code yX4_isLand cX4_isLand 2 (some .boolean), Cond.fieldLink RX4 9 "MastPulpits$Sea" "lands" "J", Cond.methodLink RX4 48 yX0_holds, Cond.static yX0_holds, Cond.code yX0_holds cX0_holds 3 (some .boolean)]
def wsX6_course_r2 : List Cond := [Cond.methodLink RX6 66 yX0_only, Cond.static yX0_only, Cond.code yX0_only cX0_only 1 (some .long), Cond.methodLink RX6 230 yX0_spread, Cond.static yX0_spread, Cond.code yX0_spread cX0_spread 8 (some .long), Cond.constantLong RX0 54 (-72340172838076674), Cond.methodLink RX6 234 yX0_holds, Cond.methodLink RX6 238 yX0_leastWayInto, Cond.static yX0_leastWayInto, Cond.code yX0_leastWayInto cX0_leastWayInto 4 (some .int), Cond.methodLink RX0 32 yX0_next, Cond.static yX0_next, Cond.code yX0_next cX0_next 2 (some .int), Cond.fieldLink RX0 21 "MastPulpits$Chart" "ROWS_OF_WAY" "[I", Cond.fieldLink RX0 25 "MastPulpits$Chart" "COLUMNS_OF_WAY" "[I", Cond.methodLink RX0 17 yX0_isCell, Cond.methodLink RX0 28 yX0_moved, Cond.static yX0_moved, Cond.code yX0_moved cX0_moved 6 (some .int), Cond.methodLink RX0 56 yX0_holds]
def wsX6_course : List Cond := .code yX6_course cX6_course 4 (some .int) :: ((wsX6_course_r1 ++ wsX6_course_r2) ++ wsX60 ++ wsX40)
def wsX6_cross_r1 : List Cond := [Cond.methodLink RX6 52 yX0_isCell, Cond.static yX0_isCell, Cond.initialized RX0, Cond.code yX0_isCell cX0_isCell 1 (some .boolean), Cond.methodLink RX6 162 yX0_isWay, Cond.static yX0_isWay, Cond.code yX0_isWay cX0_isWay 1 (some .boolean), Cond.methodLink RX6 58 yX6_within, Cond.static yX6_within, Cond.initialized RX6, Cond.code yX6_within cX6_within 3 (some .boolean), Cond.methodLink RX6 165 yX0_ray, Cond.static yX0_ray, Cond.code yX0_ray cX0_ray 6 (some .long), Cond.methodLink RX0 32 yX0_next, Cond.static yX0_next, Cond.code yX0_next cX0_next 2 (some .int), Cond.fieldLink RX0 21 "MastPulpits$Chart" "ROWS_OF_WAY" "[I", Cond.fieldLink RX0 25 "MastPulpits$Chart" "COLUMNS_OF_WAY" "[I", Cond.methodLink RX0 17 yX0_isCell, Cond.methodLink RX0 28 yX0_moved, Cond.static yX0_moved, Cond.code yX0_moved cX0_moved 6 (some .int), Cond.methodLink RX0 36 yX0_only]
def wsX6_cross_r2 : List Cond := [Cond.static yX0_only, Cond.code yX0_only cX0_only 1 (some .long), Cond.methodLink RX6 76 yJ13_bitCount_95d88, Cond.static yJ13_bitCount_95d88, Cond.initialized RJ13, Cond.code yJ13_bitCount_95d88 cJ13_bitCount_95d88 2 (some .int), Cond.constantLong RJ13 314 (6148914691236517205), Cond.constantLong RJ13 316 (3689348814741910323), Cond.constantLong RJ13 318 (1085102592571150095), Cond.methodLink RX6 169 yX0_least, Cond.static yX0_least, Cond.code yX0_least cX0_least 2 (some .int), Cond.methodLink RX0 11 yJ13_bitCount_95d88]
def wsX6_cross : List Cond := .code yX6_cross cX6_cross 8 (some .int) :: ((wsX6_cross_r1 ++ wsX6_cross_r2))
def wsX6_ropes_r1 : List Cond := [Cond.fieldLink RX6 33 "MastPulpits" "cutter" "LMastPulpits$RopeCutter;", Cond.methodLink RX6 58 yX6_within, Cond.static yX6_within, Cond.initialized RX6, Cond.code yX6_within cX6_within 3 (some .boolean), Cond.methodLink RX6 172 yX3_takePieces, Cond.instanceMethod yX3_takePieces, Cond.selects RX3 yX3_takePieces yX3_takePieces, Cond.initialized RX3, Cond.code yX3_takePieces cX3_takePieces 5 (some .boolean), Cond.fieldLink RX3 18 "MastPulpits$RopeCutter" "many" "I", Cond.fieldLink RX3 11 "MastPulpits$RopeCutter" "pieces" "[I", Cond.methodLink RX6 176 yX3_fewestRopes, Cond.instanceMethod yX3_fewestRopes, Cond.selects RX3 yX3_fewestRopes yX3_fewestRopes, Cond.code yX3_fewestRopes cX3_fewestRopes 3 (some .int), Cond.fieldLink RX3 15 "MastPulpits$RopeCutter" "cutOfSet" "[I", Cond.methodLink RX3 22 yX3_leastCut, Cond.instanceMethod yX3_leastCut, Cond.selects RX3 yX3_leastCut yX3_leastCut, Cond.code yX3_leastCut cX3_leastCut 6 (some .int), Cond.methodLink RX3 30 Lib.Math.min.name, Cond.static Lib.Math.min.name, Cond.initialized "java/lang/Math"]
def wsX6_ropes_r2 : List Cond := [Cond.code Lib.Math.min.name Lib.Math.min.code 2 (some .int), Cond.methodLink RX3 26 yX3_cutFurther, Cond.static yX3_cutFurther, Cond.code yX3_cutFurther cX3_cutFurther 3 (some .int), Cond.methodLink RX6 179 yX3_mostFromOne, Cond.instanceMethod yX3_mostFromOne, Cond.selects RX3 yX3_mostFromOne yX3_mostFromOne, Cond.code yX3_mostFromOne cX3_mostFromOne 6 (some .int)]
def wsX6_ropes : List Cond := .code yX6_ropes cX6_ropes 5 (some .int) :: ((wsX6_ropes_r1 ++ wsX6_ropes_r2) ++ wsX60 ++ wsX30)
def wsX6_look_r1 : List Cond := [Cond.fieldLink RX6 10 "MastPulpits" "sea" "LMastPulpits$Sea;", Cond.fieldLink RX6 182 "MastPulpits$Sea" "sights" "I", Cond.fieldLink RX6 188 "MastPulpits$Sea" "fitting" "J", Cond.constantLong RX6 74 (-1), Cond.methodLink RX6 52 yX0_isCell, Cond.static yX0_isCell, Cond.initialized RX0, Cond.code yX0_isCell cX0_isCell 1 (some .boolean), Cond.methodLink RX6 58 yX6_within, Cond.static yX6_within, Cond.initialized RX6, Cond.code yX6_within cX6_within 3 (some .boolean), Cond.methodLink RX6 185 yX0_around, Cond.static yX0_around, Cond.code yX0_around cX0_around 12 (some .long), Cond.methodLink RX0 40 Lib.Math.max.name, Cond.static Lib.Math.max.name, Cond.initialized "java/lang/Math", Cond.code Lib.Math.max.name Lib.Math.max.code 2 (some .int), Cond.methodLink RX0 45 Lib.Math.min.name, Cond.static Lib.Math.min.name, Cond.code Lib.Math.min.name Lib.Math.min.code 2 (some .int), Cond.constantLong RX0 48 (-1), Cond.constantLong RX0 50 (255)]
def wsX6_look_r2 : List Cond := [Cond.constantLong RX0 52 (72340172838076673)]
def wsX6_look : List Cond := .code yX6_look cX6_look 6 (some .int) :: ((wsX6_look_r1 ++ wsX6_look_r2) ++ wsX60 ++ wsX40)
def wsX6_forget : List Cond := .code yX6_forget cX6_forget 2 (some .int) :: ([.fieldLink RX6 10 "MastPulpits" "sea" "LMastPulpits$Sea;", .fieldLink RX6 182 "MastPulpits$Sea" "sights" "I", .constantLong RX6 74 (-1), .fieldLink RX6 188 "MastPulpits$Sea" "fitting" "J"] ++ wsX60 ++ wsX40)
def wsX6_light : List Cond := .code yX6_light cX6_light 6 (some .int) :: ([.fieldLink RX6 10 "MastPulpits" "sea" "LMastPulpits$Sea;", .fieldLink RX6 188 "MastPulpits$Sea" "fitting" "J", .methodLink RX6 76 yJ13_bitCount_95d88, .static yJ13_bitCount_95d88, .initialized RJ13, .code yJ13_bitCount_95d88 cJ13_bitCount_95d88 2 (some .int), .constantLong RJ13 314 (6148914691236517205), .constantLong RJ13 316 (3689348814741910323), .constantLong RJ13 318 (1085102592571150095), .methodLink RX6 58 yX6_within, .static yX6_within, .initialized RX6, .code yX6_within cX6_within 3 (some .boolean), .methodLink RX6 169 yX0_least, .static yX0_least, .initialized RX0, .code yX0_least cX0_least 2 (some .int), .methodLink RX0 11 yJ13_bitCount_95d88] ++ wsX60 ++ wsX40)
def wsX6_bestNextLook : List Cond := .code yX6_bestNextLook cX6_bestNextLook 10 (some .int) :: ([.methodLink RX6 242 Lib.Math.max.name, .static Lib.Math.max.name, .initialized "java/lang/Math", .code Lib.Math.max.name Lib.Math.max.code 2 (some .int), .methodLink RX6 76 yJ13_bitCount_95d88, .static yJ13_bitCount_95d88, .initialized RJ13, .code yJ13_bitCount_95d88 cJ13_bitCount_95d88 2 (some .int), .constantLong RJ13 314 (6148914691236517205), .constantLong RJ13 316 (3689348814741910323), .constantLong RJ13 318 (1085102592571150095), .methodLink RX6 185 yX0_around, .static yX0_around, .initialized RX0, .code yX0_around cX0_around 12 (some .long), .methodLink RX0 40 Lib.Math.max.name, .methodLink RX0 45 Lib.Math.min.name, .static Lib.Math.min.name, .code Lib.Math.min.name Lib.Math.min.code 2 (some .int), .constantLong RX0 48 (-1), .constantLong RX0 50 (255), .constantLong RX0 52 (72340172838076673)])
def wsX6_ask_r1 : List Cond := [Cond.fieldLink RX6 10 "MastPulpits" "sea" "LMastPulpits$Sea;", Cond.fieldLink RX6 188 "MastPulpits$Sea" "fitting" "J", Cond.methodLink RX6 58 yX6_within, Cond.static yX6_within, Cond.initialized RX6, Cond.code yX6_within cX6_within 3 (some .boolean), Cond.methodLink RX6 191 yX6_bestNextLook, Cond.static yX6_bestNextLook, Cond.code yX6_bestNextLook cX6_bestNextLook 10 (some .int), Cond.methodLink RX6 242 Lib.Math.max.name, Cond.static Lib.Math.max.name, Cond.initialized "java/lang/Math", Cond.code Lib.Math.max.name Lib.Math.max.code 2 (some .int), Cond.methodLink RX6 76 yJ13_bitCount_95d88, Cond.static yJ13_bitCount_95d88, Cond.initialized RJ13, Cond.code yJ13_bitCount_95d88 cJ13_bitCount_95d88 2 (some .int), Cond.constantLong RJ13 314 (6148914691236517205), Cond.constantLong RJ13 316 (3689348814741910323), Cond.constantLong RJ13 318 (1085102592571150095), Cond.methodLink RX6 185 yX0_around, Cond.static yX0_around, Cond.initialized RX0, Cond.code yX0_around cX0_around 12 (some .long)]
def wsX6_ask_r2 : List Cond := [Cond.methodLink RX0 40 Lib.Math.max.name, Cond.methodLink RX0 45 Lib.Math.min.name, Cond.static Lib.Math.min.name, Cond.code Lib.Math.min.name Lib.Math.min.code 2 (some .int), Cond.constantLong RX0 48 (-1), Cond.constantLong RX0 50 (255), Cond.constantLong RX0 52 (72340172838076673)]
def wsX6_ask : List Cond := .code yX6_ask cX6_ask 2 (some .int) :: ((wsX6_ask_r1 ++ wsX6_ask_r2) ++ wsX60 ++ wsX40)
def wsX6_tack_r1 : List Cond := [Cond.methodLink RX6 52 yX0_isCell, Cond.static yX0_isCell, Cond.initialized RX0, Cond.code yX0_isCell cX0_isCell 1 (some .boolean), Cond.methodLink RX6 58 yX6_within, Cond.static yX6_within, Cond.initialized RX6, Cond.code yX6_within cX6_within 3 (some .boolean), Cond.methodLink RX6 195 yX0_tacksFrom, Cond.static yX0_tacksFrom, Cond.code yX0_tacksFrom cX0_tacksFrom 1 (some .long), Cond.methodLink RX0 28 yX0_moved, Cond.static yX0_moved, Cond.code yX0_moved cX0_moved 6 (some .int), Cond.methodLink RX0 36 yX0_only, Cond.static yX0_only, Cond.code yX0_only cX0_only 1 (some .long), Cond.methodLink RX6 198 yX0_cellsWhereTackingLoses, Cond.static yX0_cellsWhereTackingLoses, Cond.code yX0_cellsWhereTackingLoses cX0_cellsWhereTackingLoses 5 (some .long), Cond.methodLink RX0 40 Lib.Math.max.name, Cond.static Lib.Math.max.name, Cond.initialized "java/lang/Math", Cond.code Lib.Math.max.name Lib.Math.max.code 2 (some .int)]
def wsX6_tack_r2 : List Cond := [Cond.methodLink RX0 45 Lib.Math.min.name, Cond.static Lib.Math.min.name, Cond.code Lib.Math.min.name Lib.Math.min.code 2 (some .int), Cond.methodLink RX0 60 yX0_tacksFrom, Cond.methodLink RX6 169 yX0_least, Cond.static yX0_least, Cond.code yX0_least cX0_least 2 (some .int), Cond.methodLink RX0 11 yJ13_bitCount_95d88, Cond.static yJ13_bitCount_95d88, Cond.initialized RJ13, Cond.code yJ13_bitCount_95d88 cJ13_bitCount_95d88 2 (some .int), Cond.constantLong RJ13 314 (6148914691236517205), Cond.constantLong RJ13 316 (3689348814741910323), Cond.constantLong RJ13 318 (1085102592571150095)]
def wsX6_tack : List Cond := .code yX6_tack cX6_tack 4 (some .int) :: ((wsX6_tack_r1 ++ wsX6_tack_r2))
def wsX6_first_r1 : List Cond := [Cond.constantLong RX6 201 (-1000000000000000002), Cond.fieldLink RX6 40 "MastPulpits" "lookouts" "LMastPulpits$Lookouts;", Cond.methodLink RX6 58 yX6_within, Cond.static yX6_within, Cond.initialized RX6, Cond.code yX6_within cX6_within 3 (some .boolean), Cond.methodLink RX6 203 yX1_watchByTurns, Cond.instanceMethod yX1_watchByTurns, Cond.selects RX1 yX1_watchByTurns yX1_watchByTurns, Cond.initialized RX1, Cond.code yX1_watchByTurns cX1_watchByTurns 7 none, Cond.fieldLink RX1 7 "MastPulpits$Lookouts" "byFirst" "J", Cond.fieldLink RX1 13 "MastPulpits$Lookouts" "byOther" "J", Cond.fieldLink RX1 16 "MastPulpits$Lookouts" "byNobody" "J", Cond.fieldLink RX1 19 "MastPulpits$Lookouts" "outOf" "J", Cond.constantLong RX1 22 (10), Cond.methodLink RX6 207 yX1_chance, Cond.instanceMethod yX1_chance, Cond.selects RX1 yX1_chance yX1_chance, Cond.code yX1_chance cX1_chance 3 (some .long), Cond.methodLink RX1 24 yX1_partOf, Cond.instanceMethod yX1_partOf, Cond.selects RX1 yX1_partOf yX1_partOf, Cond.code yX1_partOf cX1_partOf 9 (some .long)]
def wsX6_first_r2 : List Cond := [Cond.constantLong RX1 28 (2), Cond.constantLong RX1 30 (5)]
def wsX6_first : List Cond := .code yX6_first cX6_first 6 (some .long) :: ((wsX6_first_r1 ++ wsX6_first_r2) ++ wsX60 ++ wsX10)
def wsX6_year_r1 : List Cond := [Cond.fieldLink RX6 26 "MastPulpits" "voyage" "LMastPulpits$Voyage;", Cond.fieldLink RX6 10 "MastPulpits" "sea" "LMastPulpits$Sea;", Cond.fieldLink RX6 125 "MastPulpits$Voyage" "seaThen" "LMastPulpits$Sea;", Cond.fieldLink RX6 62 "MastPulpits$Sea" "shipCell" "I", Cond.fieldLink RX6 85 "MastPulpits$Sea" "shipHull" "I", Cond.fieldLink RX6 214 "MastPulpits$Voyage" "silences" "I", Cond.methodLink RX6 58 yX6_within, Cond.static yX6_within, Cond.initialized RX6, Cond.code yX6_within cX6_within 3 (some .boolean), Cond.methodLink RX6 210 yX5_sailByDraws, Cond.instanceMethod yX5_sailByDraws, Cond.selects RX5 yX5_sailByDraws yX5_sailByDraws, Cond.initialized RX5, Cond.code yX5_sailByDraws cX5_sailByDraws 8 none, Cond.constant RX5 66 (65537), Cond.methodLink RX5 44 yX5_setOut, Cond.instanceMethod yX5_setOut, Cond.selects RX5 yX5_setOut yX5_setOut, Cond.code yX5_setOut cX5_setOut 2 none, Cond.fieldLink RX5 12 "MastPulpits$Voyage" "seaThen" "LMastPulpits$Sea;", Cond.fieldLink RX5 22 "MastPulpits$Voyage" "acts" "I", Cond.fieldLink RX5 26 "MastPulpits$Voyage" "stoppedAt" "I", Cond.fieldLink RX5 29 "MastPulpits$Voyage" "reason" "I"]
def wsX6_year_r2 : List Cond := [Cond.fieldLink RX5 32 "MastPulpits$Voyage" "strikes" "I", Cond.fieldLink RX5 35 "MastPulpits$Voyage" "calls" "I", Cond.fieldLink RX5 38 "MastPulpits$Voyage" "silences" "I", Cond.fieldLink RX5 41 "MastPulpits$Voyage" "firstSilence" "I", Cond.methodLink RX5 18 yX4_takeOver, Cond.instanceMethod yX4_takeOver, Cond.selects RX4 yX4_takeOver yX4_takeOver, Cond.initialized RX4, Cond.code yX4_takeOver cX4_takeOver 3 none, Cond.fieldLink RX4 9 "MastPulpits$Sea" "lands" "J", Cond.fieldLink RX4 15 "MastPulpits$Sea" "shipCell" "I", Cond.fieldLink RX4 19 "MastPulpits$Sea" "shipHull" "I", Cond.fieldLink RX4 22 "MastPulpits$Sea" "up" "I", Cond.fieldLink RX4 25 "MastPulpits$Sea" "hoursUp" "I", Cond.fieldLink RX4 28 "MastPulpits$Sea" "fogNow" "I", Cond.fieldLink RX4 31 "MastPulpits$Sea" "hourNow" "I", Cond.fieldLink RX4 34 "MastPulpits$Sea" "sights" "I", Cond.fieldLink RX4 41 "MastPulpits$Sea" "fitting" "J", Cond.fieldLink RX4 44 "MastPulpits$Sea" "eyes" "[I", Cond.methodLink RX5 67 yX5_drawnAct, Cond.static yX5_drawnAct, Cond.code yX5_drawnAct cX5_drawnAct 1 (some .int), Cond.methodLink RX5 59 yX5_tryAct, Cond.instanceMethod yX5_tryAct]
def wsX6_year_r3 : List Cond := [Cond.selects RX5 yX5_tryAct yX5_tryAct, Cond.code yX5_tryAct cX5_tryAct 5 (some .int), Cond.fieldLink RX5 70 "MastPulpits$Sea" "shipCell" "I", Cond.methodLink RX5 73 yX0_next, Cond.static yX0_next, Cond.initialized RX0, Cond.code yX0_next cX0_next 2 (some .int), Cond.fieldLink RX0 21 "MastPulpits$Chart" "ROWS_OF_WAY" "[I", Cond.fieldLink RX0 25 "MastPulpits$Chart" "COLUMNS_OF_WAY" "[I", Cond.methodLink RX0 17 yX0_isCell, Cond.static yX0_isCell, Cond.code yX0_isCell cX0_isCell 1 (some .boolean), Cond.methodLink RX0 28 yX0_moved, Cond.static yX0_moved, Cond.code yX0_moved cX0_moved 6 (some .int), Cond.methodLink RX5 78 yX4_reasonAgainst, Cond.instanceMethod yX4_reasonAgainst, Cond.selects RX4 yX4_reasonAgainst yX4_reasonAgainst, Cond.code yX4_reasonAgainst cX4_reasonAgainst 4 (some .int), Cond.methodLink RX4 77 yX4_reasonAgainstSailing, Cond.instanceMethod yX4_reasonAgainstSailing, Cond.selects RX4 yX4_reasonAgainstSailing yX4_reasonAgainstSailing, Cond.code yX4_reasonAgainstSailing cX4_reasonAgainstSailing 2 (some .int), Cond.methodLink RX5 82 yX4_sighted]
def wsX6_year_r4 : List Cond := [Cond.instanceMethod yX4_sighted, Cond.selects RX4 yX4_sighted yX4_sighted, Cond.code yX4_sighted cX4_sighted 1 (some .long), Cond.methodLink RX4 58 yX4_glass, Cond.instanceMethod yX4_glass, Cond.selects RX4 yX4_glass yX4_glass, Cond.code yX4_glass cX4_glass 3 (some .int), Cond.methodLink RX4 52 Lib.Math.max.name, Cond.static Lib.Math.max.name, Cond.initialized "java/lang/Math", Cond.code Lib.Math.max.name Lib.Math.max.code 2 (some .int), Cond.methodLink RX4 62 yX0_around, Cond.static yX0_around, Cond.code yX0_around cX0_around 12 (some .long), Cond.methodLink RX0 40 Lib.Math.max.name, Cond.methodLink RX0 45 Lib.Math.min.name, Cond.static Lib.Math.min.name, Cond.code Lib.Math.min.name Lib.Math.min.code 2 (some .int), Cond.constantLong RX0 48 (-1), Cond.constantLong RX0 50 (255), Cond.constantLong RX0 52 (72340172838076673), Cond.methodLink RX5 86 yX5_countCall, Cond.instanceMethod yX5_countCall, Cond.selects RX5 yX5_countCall yX5_countCall]
def wsX6_year_r5 : List Cond := [Cond.code yX5_countCall cX5_countCall 3 none, Cond.methodLink RX5 90 yX4_isLand, Cond.instanceMethod yX4_isLand, Cond.selects RX4 yX4_isLand yX4_isLand, Cond.code yX4_isLand cX4_isLand 2 (some .boolean), Cond.methodLink RX4 48 yX0_holds, Cond.static yX0_holds, Cond.code yX0_holds cX0_holds 3 (some .boolean), Cond.methodLink RX5 94 yX4_perform, Cond.instanceMethod yX4_perform, Cond.selects RX4 yX4_perform yX4_perform, Cond.code yX4_perform cX4_perform 4 none, Cond.methodLink RX4 81 yX4_goOrStrike, Cond.instanceMethod yX4_goOrStrike, Cond.selects RX4 yX4_goOrStrike yX4_goOrStrike, Cond.code yX4_goOrStrike cX4_goOrStrike 2 none, Cond.methodLink RX4 85 yX4_passAnHour, Cond.instanceMethod yX4_passAnHour, Cond.selects RX4 yX4_passAnHour yX4_passAnHour, Cond.code yX4_passAnHour cX4_passAnHour 1 none]
def wsX6_year : List Cond := .code yX6_year cX6_year 4 (some .int) :: ((wsX6_year_r1 ++ (wsX6_year_r2 ++ (wsX6_year_r3 ++ (wsX6_year_r4 ++ wsX6_year_r5)))) ++ wsX60 ++ wsX50 ++ wsX40)
def wsX6_isImage : List Cond := .code yX6_isImage cX6_isImage 2 (some .boolean) :: ([.fieldLink RX6 44 "MastPulpits" "images" "[LMastPulpits$Sea;", .fieldLink RX6 48 "MastPulpits" "kept" "[Z"] ++ wsX60)
def wsX6_image : List Cond := .code yX6_image cX6_image 2 (some .int) :: ([.fieldLink RX6 44 "MastPulpits" "images" "[LMastPulpits$Sea;", .fieldLink RX6 10 "MastPulpits" "sea" "LMastPulpits$Sea;", .fieldLink RX6 48 "MastPulpits" "kept" "[Z", .methodLink RX6 217 yX6_isImage, .instanceMethod yX6_isImage, .selects RX6 yX6_isImage yX6_isImage, .initialized RX6, .code yX6_isImage cX6_isImage 2 (some .boolean), .methodLink RX6 151 yX4_takeOver, .instanceMethod yX4_takeOver, .selects RX4 yX4_takeOver yX4_takeOver, .initialized RX4, .code yX4_takeOver cX4_takeOver 3 none, .fieldLink RX4 9 "MastPulpits$Sea" "lands" "J", .fieldLink RX4 15 "MastPulpits$Sea" "shipCell" "I", .fieldLink RX4 19 "MastPulpits$Sea" "shipHull" "I", .fieldLink RX4 22 "MastPulpits$Sea" "up" "I", .fieldLink RX4 25 "MastPulpits$Sea" "hoursUp" "I", .fieldLink RX4 28 "MastPulpits$Sea" "fogNow" "I", .fieldLink RX4 31 "MastPulpits$Sea" "hourNow" "I", .fieldLink RX4 34 "MastPulpits$Sea" "sights" "I", .fieldLink RX4 41 "MastPulpits$Sea" "fitting" "J", .fieldLink RX4 44 "MastPulpits$Sea" "eyes" "[I"] ++ wsX60 ++ wsX40)
def wsX6_restore : List Cond := .code yX6_restore cX6_restore 2 (some .int) :: ([.fieldLink RX6 48 "MastPulpits" "kept" "[Z", .fieldLink RX6 10 "MastPulpits" "sea" "LMastPulpits$Sea;", .fieldLink RX6 44 "MastPulpits" "images" "[LMastPulpits$Sea;", .methodLink RX6 217 yX6_isImage, .instanceMethod yX6_isImage, .selects RX6 yX6_isImage yX6_isImage, .initialized RX6, .code yX6_isImage cX6_isImage 2 (some .boolean), .methodLink RX6 151 yX4_takeOver, .instanceMethod yX4_takeOver, .selects RX4 yX4_takeOver yX4_takeOver, .initialized RX4, .code yX4_takeOver cX4_takeOver 3 none, .fieldLink RX4 9 "MastPulpits$Sea" "lands" "J", .fieldLink RX4 15 "MastPulpits$Sea" "shipCell" "I", .fieldLink RX4 19 "MastPulpits$Sea" "shipHull" "I", .fieldLink RX4 22 "MastPulpits$Sea" "up" "I", .fieldLink RX4 25 "MastPulpits$Sea" "hoursUp" "I", .fieldLink RX4 28 "MastPulpits$Sea" "fogNow" "I", .fieldLink RX4 31 "MastPulpits$Sea" "hourNow" "I", .fieldLink RX4 34 "MastPulpits$Sea" "sights" "I", .fieldLink RX4 41 "MastPulpits$Sea" "fitting" "J", .fieldLink RX4 44 "MastPulpits$Sea" "eyes" "[I"] ++ wsX60 ++ wsX40)
def wsX6_told_r1 : List Cond := [Cond.fieldLink RX6 10 "MastPulpits" "sea" "LMastPulpits$Sea;", Cond.fieldLink RX6 19 "MastPulpits" "pad" "LMastPulpits$Pad;", Cond.fieldLink RX6 105 "MastPulpits$Pad" "length" "I", Cond.fieldLink RX6 70 "MastPulpits$Sea" "lands" "J", Cond.fieldLink RX6 182 "MastPulpits$Sea" "sights" "I", Cond.methodLink RX6 58 yX6_within, Cond.static yX6_within, Cond.initialized RX6, Cond.code yX6_within cX6_within 3 (some .boolean), Cond.methodLink RX6 128 yX6_shipAndWatch, Cond.static yX6_shipAndWatch, Cond.code yX6_shipAndWatch cX6_shipAndWatch 2 (some .int), Cond.fieldLink RX6 62 "MastPulpits$Sea" "shipCell" "I", Cond.fieldLink RX6 85 "MastPulpits$Sea" "shipHull" "I", Cond.fieldLink RX6 132 "MastPulpits$Sea" "up" "I", Cond.fieldLink RX6 224 "MastPulpits$Sea" "hoursUp" "I", Cond.fieldLink RX6 99 "MastPulpits$Sea" "fogNow" "I", Cond.fieldLink RX6 227 "MastPulpits$Sea" "hourNow" "I", Cond.methodLink RX6 88 yX4_isWatcher, Cond.instanceMethod yX4_isWatcher, Cond.selects RX4 yX4_isWatcher yX4_isWatcher, Cond.initialized RX4, Cond.code yX4_isWatcher cX4_isWatcher 2 (some .boolean), Cond.fieldLink RX4 44 "MastPulpits$Sea" "eyes" "[I"]
def wsX6_told_r2 : List Cond := [Cond.methodLink RX6 91 yX4_eyesOf, Cond.instanceMethod yX4_eyesOf, Cond.selects RX4 yX4_eyesOf yX4_eyesOf, Cond.code yX4_eyesOf cX4_eyesOf 2 (some .int), Cond.methodLink RX6 52 yX0_isCell, Cond.static yX0_isCell, Cond.initialized RX0, Cond.code yX0_isCell cX0_isCell 1 (some .boolean), Cond.methodLink RX6 82 yX4_isLand, Cond.instanceMethod yX4_isLand, Cond.selects RX4 yX4_isLand yX4_isLand, Cond.code yX4_isLand cX4_isLand 2 (some .boolean), Cond.fieldLink RX4 9 "MastPulpits$Sea" "lands" "J", Cond.methodLink RX4 48 yX0_holds, Cond.static yX0_holds, Cond.code yX0_holds cX0_holds 3 (some .boolean), Cond.methodLink RX6 76 yJ13_bitCount_95d88, Cond.static yJ13_bitCount_95d88, Cond.initialized RJ13, Cond.code yJ13_bitCount_95d88 cJ13_bitCount_95d88 2 (some .int), Cond.constantLong RJ13 314 (6148914691236517205), Cond.constantLong RJ13 316 (3689348814741910323), Cond.constantLong RJ13 318 (1085102592571150095)]
def wsX6_told : List Cond := .code yX6_told cX6_told 2 (some .int) :: ((wsX6_told_r1 ++ wsX6_told_r2) ++ wsX60 ++ wsX20 ++ wsX40)
def wsX7_init : List Cond := .code yX7_init cX7_init 2 none :: ([.methodLink RX7 1 objectInit, .instanceMethod objectInit, .code objectInit ⟨#[0xb1]⟩ 1 none, .arrayClass .int, .fieldLink RX7 7 "MastPulpitsModel" "ground" "[I", .fieldLink RX7 13 "MastPulpitsModel" "eyes" "[I", .fieldLink RX7 16 "MastPulpitsModel" "sightCell" "[I", .fieldLink RX7 19 "MastPulpitsModel" "sightGlass" "[I", .fieldLink RX7 22 "MastPulpitsModel" "sightSees" "[I", .fieldLink RX7 25 "MastPulpitsModel" "pad" "[I", .fieldLink RX7 28 "MastPulpitsModel" "act" "[I", .fieldLink RX7 31 "MastPulpitsModel" "much" "[I", .fieldLink RX7 34 "MastPulpitsModel" "had" "[I", .fieldLink RX7 37 "MastPulpitsModel" "steps" "[I", .fieldLink RX7 40 "MastPulpitsModel" "pieces" "[I", .fieldLink RX7 43 "MastPulpitsModel" "used" "[I", .fieldLink RX7 46 "MastPulpitsModel" "fit" "[I", .arrayClass .boolean, .fieldLink RX7 49 "MastPulpitsModel" "wins" "[Z", .fieldLink RX7 53 "MastPulpitsModel" "kept" "[I", .fieldLink RX7 56 "MastPulpitsModel" "isKept" "[Z", .fieldLink RX7 59 "MastPulpitsModel" "place" "I", .fieldLink RX7 63 "MastPulpitsModel" "hull" "I", .fieldLink RX7 66 "MastPulpitsModel" "who" "I"] ++ wsX70)
def wsX7_in : List Cond := .code yX7_in cX7_in 6 (some .boolean) :: ([])
def wsX7_isCell : List Cond := .code yX7_isCell cX7_isCell 1 (some .boolean) :: ([.constantLong RX7 69 (63), .methodLink RX7 71 yX7_in, .static yX7_in, .initialized RX7, .code yX7_in cX7_in 6 (some .boolean)])
def wsX7_isWay : List Cond := .code yX7_isWay cX7_isWay 1 (some .boolean) :: ([.constantLong RX7 75 (7), .methodLink RX7 71 yX7_in, .static yX7_in, .initialized RX7, .code yX7_in cX7_in 6 (some .boolean)])
def wsX7_less : List Cond := .code yX7_less cX7_less 2 (some .int) :: ([])
def wsX7_off : List Cond := .code yX7_off cX7_off 2 (some .int) :: ([])
def wsX7_far : List Cond := .code yX7_far cX7_far 4 (some .int) :: ([.methodLink RX7 77 yX7_off, .static yX7_off, .initialized RX7, .code yX7_off cX7_off 2 (some .int)])
def wsX7_downwards : List Cond := .code yX7_downwards cX7_downwards 1 (some .int) :: ([])
def wsX7_across : List Cond := .code yX7_across cX7_across 1 (some .int) :: ([])
def wsX7_beside : List Cond := .code yX7_beside cX7_beside 5 (some .int) :: ([.constantLong RX7 75 (7), .methodLink RX7 71 yX7_in, .static yX7_in, .initialized RX7, .code yX7_in cX7_in 6 (some .boolean)])
def wsX7_ahead : List Cond := .code yX7_ahead cX7_ahead 2 (some .int) :: ([.methodLink RX7 81 yX7_downwards, .static yX7_downwards, .initialized RX7, .code yX7_downwards cX7_downwards 1 (some .int), .methodLink RX7 85 yX7_across, .static yX7_across, .code yX7_across cX7_across 1 (some .int), .methodLink RX7 88 yX7_beside, .static yX7_beside, .code yX7_beside cX7_beside 5 (some .int), .constantLong RX7 75 (7), .methodLink RX7 71 yX7_in, .static yX7_in, .code yX7_in cX7_in 6 (some .boolean)])
def wsX7_landMany : List Cond := .code yX7_landMany cX7_landMany 3 (some .int) :: ([.fieldLink RX7 7 "MastPulpitsModel" "ground" "[I"] ++ wsX70)
def wsX7_land : List Cond := .code yX7_land cX7_land 3 (some .int) :: ([.fieldLink RX7 59 "MastPulpitsModel" "place" "I", .fieldLink RX7 7 "MastPulpitsModel" "ground" "[I", .methodLink RX7 92 yX7_isCell, .static yX7_isCell, .initialized RX7, .code yX7_isCell cX7_isCell 1 (some .boolean), .constantLong RX7 69 (63), .methodLink RX7 71 yX7_in, .static yX7_in, .code yX7_in cX7_in 6 (some .boolean), .methodLink RX7 96 yX7_landMany, .instanceMethod yX7_landMany, .selects RX7 yX7_landMany yX7_landMany, .code yX7_landMany cX7_landMany 3 (some .int)] ++ wsX70)
def wsX7_ship : List Cond := .code yX7_ship cX7_ship 4 (some .int) :: ([.constantLong RX7 100 (9), .fieldLink RX7 7 "MastPulpitsModel" "ground" "[I", .fieldLink RX7 59 "MastPulpitsModel" "place" "I", .fieldLink RX7 63 "MastPulpitsModel" "hull" "I", .methodLink RX7 92 yX7_isCell, .static yX7_isCell, .initialized RX7, .code yX7_isCell cX7_isCell 1 (some .boolean), .constantLong RX7 69 (63), .methodLink RX7 71 yX7_in, .static yX7_in, .code yX7_in cX7_in 6 (some .boolean)] ++ wsX70)
def wsX7_watcher : List Cond := .code yX7_watcher cX7_watcher 4 (some .int) :: ([.constantLong RX7 102 (5), .constantLong RX7 75 (7), .fieldLink RX7 13 "MastPulpitsModel" "eyes" "[I", .methodLink RX7 71 yX7_in, .static yX7_in, .initialized RX7, .code yX7_in cX7_in 6 (some .boolean)] ++ wsX70)
def wsX7_fog : List Cond := .code yX7_fog cX7_fog 3 (some .int) :: ([.constantLong RX7 75 (7), .fieldLink RX7 104 "MastPulpitsModel" "mist" "I", .methodLink RX7 71 yX7_in, .static yX7_in, .initialized RX7, .code yX7_in cX7_in 6 (some .boolean)] ++ wsX70)
def wsX7_say : List Cond := .code yX7_say cX7_say 2 (some .int) :: ([.constantLong RX7 107 (33), .constantLong RX7 109 (126), .fieldLink RX7 111 "MastPulpitsModel" "padMany" "I", .fieldLink RX7 25 "MastPulpitsModel" "pad" "[I", .methodLink RX7 71 yX7_in, .static yX7_in, .initialized RX7, .code yX7_in cX7_in 6 (some .boolean)] ++ wsX70)
def wsX7_wipe : List Cond := .code yX7_wipe cX7_wipe 2 (some .int) :: ([.fieldLink RX7 111 "MastPulpitsModel" "padMany" "I"] ++ wsX70)
def wsX7_close : List Cond := .code yX7_close cX7_close 2 (some .int) :: ([.fieldLink RX7 28 "MastPulpitsModel" "act" "[I", .fieldLink RX7 114 "MastPulpitsModel" "acts" "I"] ++ wsX70)
def wsX7_begin : List Cond := .code yX7_begin cX7_begin 3 (some .int) :: ([.constantLong RX7 117 (65), .constantLong RX7 119 (70), .fieldLink RX7 31 "MastPulpitsModel" "much" "[I", .fieldLink RX7 114 "MastPulpitsModel" "acts" "I", .methodLink RX7 71 yX7_in, .static yX7_in, .initialized RX7, .code yX7_in cX7_in 6 (some .boolean), .methodLink RX7 121 yX7_close, .instanceMethod yX7_close, .selects RX7 yX7_close yX7_close, .code yX7_close cX7_close 2 (some .int), .fieldLink RX7 28 "MastPulpitsModel" "act" "[I"] ++ wsX70)
def wsX7_digit : List Cond := .code yX7_digit cX7_digit 3 (some .int) :: ([.fieldLink RX7 31 "MastPulpitsModel" "much" "[I", .fieldLink RX7 114 "MastPulpitsModel" "acts" "I", .constantLong RX7 124 (48), .constantLong RX7 126 (55), .methodLink RX7 71 yX7_in, .static yX7_in, .initialized RX7, .code yX7_in cX7_in 6 (some .boolean), .methodLink RX7 121 yX7_close, .instanceMethod yX7_close, .selects RX7 yX7_close yX7_close, .code yX7_close cX7_close 2 (some .int), .fieldLink RX7 28 "MastPulpitsModel" "act" "[I"] ++ wsX70)
def wsX7_readOn : List Cond := .code yX7_readOn cX7_readOn 3 (some .int) :: ([.methodLink RX7 128 yX7_begin, .instanceMethod yX7_begin, .selects RX7 yX7_begin yX7_begin, .initialized RX7, .code yX7_begin cX7_begin 3 (some .int), .constantLong RX7 117 (65), .constantLong RX7 119 (70), .fieldLink RX7 31 "MastPulpitsModel" "much" "[I", .fieldLink RX7 114 "MastPulpitsModel" "acts" "I", .methodLink RX7 71 yX7_in, .static yX7_in, .code yX7_in cX7_in 6 (some .boolean), .methodLink RX7 121 yX7_close, .instanceMethod yX7_close, .selects RX7 yX7_close yX7_close, .code yX7_close cX7_close 2 (some .int), .fieldLink RX7 28 "MastPulpitsModel" "act" "[I", .methodLink RX7 131 yX7_digit, .instanceMethod yX7_digit, .selects RX7 yX7_digit yX7_digit, .code yX7_digit cX7_digit 3 (some .int), .constantLong RX7 124 (48), .constantLong RX7 126 (55)] ++ wsX70)
def wsX7_fault_r1 : List Cond := [Cond.fieldLink RX7 114 "MastPulpitsModel" "acts" "I", Cond.fieldLink RX7 111 "MastPulpitsModel" "padMany" "I", Cond.fieldLink RX7 25 "MastPulpitsModel" "pad" "[I", Cond.methodLink RX7 134 yX7_readOn, Cond.instanceMethod yX7_readOn, Cond.selects RX7 yX7_readOn yX7_readOn, Cond.initialized RX7, Cond.code yX7_readOn cX7_readOn 3 (some .int), Cond.methodLink RX7 128 yX7_begin, Cond.instanceMethod yX7_begin, Cond.selects RX7 yX7_begin yX7_begin, Cond.code yX7_begin cX7_begin 3 (some .int), Cond.constantLong RX7 117 (65), Cond.constantLong RX7 119 (70), Cond.fieldLink RX7 31 "MastPulpitsModel" "much" "[I", Cond.methodLink RX7 71 yX7_in, Cond.static yX7_in, Cond.code yX7_in cX7_in 6 (some .boolean), Cond.methodLink RX7 121 yX7_close, Cond.instanceMethod yX7_close, Cond.selects RX7 yX7_close yX7_close, Cond.code yX7_close cX7_close 2 (some .int), Cond.fieldLink RX7 28 "MastPulpitsModel" "act" "[I", Cond.methodLink RX7 131 yX7_digit]
def wsX7_fault_r2 : List Cond := [Cond.instanceMethod yX7_digit, Cond.selects RX7 yX7_digit yX7_digit, Cond.code yX7_digit cX7_digit 3 (some .int), Cond.constantLong RX7 124 (48), Cond.constantLong RX7 126 (55)]
def wsX7_fault : List Cond := .code yX7_fault cX7_fault 3 (some .int) :: ((wsX7_fault_r1 ++ wsX7_fault_r2) ++ wsX70)
def wsX7_whyNoSail : List Cond := .code yX7_whyNoSail cX7_whyNoSail 2 (some .int) :: ([.fieldLink RX7 66 "MastPulpitsModel" "who" "I", .fieldLink RX7 63 "MastPulpitsModel" "hull" "I", .fieldLink RX7 59 "MastPulpitsModel" "place" "I", .methodLink RX7 137 yX7_ahead, .static yX7_ahead, .initialized RX7, .code yX7_ahead cX7_ahead 2 (some .int), .methodLink RX7 81 yX7_downwards, .static yX7_downwards, .code yX7_downwards cX7_downwards 1 (some .int), .methodLink RX7 85 yX7_across, .static yX7_across, .code yX7_across cX7_across 1 (some .int), .methodLink RX7 88 yX7_beside, .static yX7_beside, .code yX7_beside cX7_beside 5 (some .int), .constantLong RX7 75 (7), .methodLink RX7 71 yX7_in, .static yX7_in, .code yX7_in cX7_in 6 (some .boolean)] ++ wsX70)
def wsX7_whyNot_r1 : List Cond := [Cond.fieldLink RX7 66 "MastPulpitsModel" "who" "I", Cond.fieldLink RX7 104 "MastPulpitsModel" "mist" "I", Cond.fieldLink RX7 143 "MastPulpitsModel" "hour" "I", Cond.methodLink RX7 140 yX7_whyNoSail, Cond.instanceMethod yX7_whyNoSail, Cond.selects RX7 yX7_whyNoSail yX7_whyNoSail, Cond.initialized RX7, Cond.code yX7_whyNoSail cX7_whyNoSail 2 (some .int), Cond.fieldLink RX7 63 "MastPulpitsModel" "hull" "I", Cond.fieldLink RX7 59 "MastPulpitsModel" "place" "I", Cond.methodLink RX7 137 yX7_ahead, Cond.static yX7_ahead, Cond.code yX7_ahead cX7_ahead 2 (some .int), Cond.methodLink RX7 81 yX7_downwards, Cond.static yX7_downwards, Cond.code yX7_downwards cX7_downwards 1 (some .int), Cond.methodLink RX7 85 yX7_across, Cond.static yX7_across, Cond.code yX7_across cX7_across 1 (some .int), Cond.methodLink RX7 88 yX7_beside, Cond.static yX7_beside, Cond.code yX7_beside cX7_beside 5 (some .int), Cond.constantLong RX7 75 (7), Cond.methodLink RX7 71 yX7_in]
def wsX7_whyNot_r2 : List Cond := [Cond.static yX7_in, Cond.code yX7_in cX7_in 6 (some .boolean)]
def wsX7_whyNot : List Cond := .code yX7_whyNot cX7_whyNot 3 (some .int) :: ((wsX7_whyNot_r1 ++ wsX7_whyNot_r2) ++ wsX70)
def wsX7_glass : List Cond := .code yX7_glass cX7_glass 2 (some .int) :: ([.fieldLink RX7 13 "MastPulpitsModel" "eyes" "[I", .fieldLink RX7 66 "MastPulpitsModel" "who" "I", .fieldLink RX7 104 "MastPulpitsModel" "mist" "I", .fieldLink RX7 146 "MastPulpitsModel" "hours" "I"] ++ wsX70)
def wsX7_isSeen : List Cond := .code yX7_isSeen cX7_isSeen 2 (some .boolean) :: ([.fieldLink RX7 7 "MastPulpitsModel" "ground" "[I", .fieldLink RX7 59 "MastPulpitsModel" "place" "I", .methodLink RX7 149 yX7_far, .static yX7_far, .initialized RX7, .code yX7_far cX7_far 4 (some .int), .methodLink RX7 77 yX7_off, .static yX7_off, .code yX7_off cX7_off 2 (some .int), .methodLink RX7 152 yX7_glass, .instanceMethod yX7_glass, .selects RX7 yX7_glass yX7_glass, .code yX7_glass cX7_glass 2 (some .int), .fieldLink RX7 13 "MastPulpitsModel" "eyes" "[I", .fieldLink RX7 66 "MastPulpitsModel" "who" "I", .fieldLink RX7 104 "MastPulpitsModel" "mist" "I", .fieldLink RX7 146 "MastPulpitsModel" "hours" "I"] ++ wsX70)
def wsX7_seenMany : List Cond := .code yX7_seenMany cX7_seenMany 3 (some .int) :: ([.methodLink RX7 155 yX7_isSeen, .instanceMethod yX7_isSeen, .selects RX7 yX7_isSeen yX7_isSeen, .initialized RX7, .code yX7_isSeen cX7_isSeen 2 (some .boolean), .fieldLink RX7 7 "MastPulpitsModel" "ground" "[I", .fieldLink RX7 59 "MastPulpitsModel" "place" "I", .methodLink RX7 149 yX7_far, .static yX7_far, .code yX7_far cX7_far 4 (some .int), .methodLink RX7 77 yX7_off, .static yX7_off, .code yX7_off cX7_off 2 (some .int), .methodLink RX7 152 yX7_glass, .instanceMethod yX7_glass, .selects RX7 yX7_glass yX7_glass, .code yX7_glass cX7_glass 2 (some .int), .fieldLink RX7 13 "MastPulpitsModel" "eyes" "[I", .fieldLink RX7 66 "MastPulpitsModel" "who" "I", .fieldLink RX7 104 "MastPulpitsModel" "mist" "I", .fieldLink RX7 146 "MastPulpitsModel" "hours" "I"] ++ wsX70)
def wsX7_nearest : List Cond := .code yX7_nearest cX7_nearest 3 (some .int) :: ([.fieldLink RX7 59 "MastPulpitsModel" "place" "I", .methodLink RX7 155 yX7_isSeen, .instanceMethod yX7_isSeen, .selects RX7 yX7_isSeen yX7_isSeen, .initialized RX7, .code yX7_isSeen cX7_isSeen 2 (some .boolean), .fieldLink RX7 7 "MastPulpitsModel" "ground" "[I", .methodLink RX7 149 yX7_far, .static yX7_far, .code yX7_far cX7_far 4 (some .int), .methodLink RX7 77 yX7_off, .static yX7_off, .code yX7_off cX7_off 2 (some .int), .methodLink RX7 152 yX7_glass, .instanceMethod yX7_glass, .selects RX7 yX7_glass yX7_glass, .code yX7_glass cX7_glass 2 (some .int), .fieldLink RX7 13 "MastPulpitsModel" "eyes" "[I", .fieldLink RX7 66 "MastPulpitsModel" "who" "I", .fieldLink RX7 104 "MastPulpitsModel" "mist" "I", .fieldLink RX7 146 "MastPulpitsModel" "hours" "I"] ++ wsX70)
def wsX7_climb : List Cond := .code yX7_climb cX7_climb 2 none :: ([.fieldLink RX7 66 "MastPulpitsModel" "who" "I", .fieldLink RX7 146 "MastPulpitsModel" "hours" "I"] ++ wsX70)
def wsX7_sail : List Cond := .code yX7_sail cX7_sail 3 none :: ([.fieldLink RX7 59 "MastPulpitsModel" "place" "I", .fieldLink RX7 7 "MastPulpitsModel" "ground" "[I", .fieldLink RX7 63 "MastPulpitsModel" "hull" "I", .fieldLink RX7 158 "MastPulpitsModel" "strikes" "I", .methodLink RX7 137 yX7_ahead, .static yX7_ahead, .initialized RX7, .code yX7_ahead cX7_ahead 2 (some .int), .methodLink RX7 81 yX7_downwards, .static yX7_downwards, .code yX7_downwards cX7_downwards 1 (some .int), .methodLink RX7 85 yX7_across, .static yX7_across, .code yX7_across cX7_across 1 (some .int), .methodLink RX7 88 yX7_beside, .static yX7_beside, .code yX7_beside cX7_beside 5 (some .int), .constantLong RX7 75 (7), .methodLink RX7 71 yX7_in, .static yX7_in, .code yX7_in cX7_in 6 (some .boolean)] ++ wsX70)
def wsX7_call_r1 : List Cond := [Cond.fieldLink RX7 161 "MastPulpitsModel" "calls" "I", Cond.fieldLink RX7 164 "MastPulpitsModel" "silences" "I", Cond.methodLink RX7 167 yX7_seenMany, Cond.instanceMethod yX7_seenMany, Cond.selects RX7 yX7_seenMany yX7_seenMany, Cond.initialized RX7, Cond.code yX7_seenMany cX7_seenMany 3 (some .int), Cond.methodLink RX7 155 yX7_isSeen, Cond.instanceMethod yX7_isSeen, Cond.selects RX7 yX7_isSeen yX7_isSeen, Cond.code yX7_isSeen cX7_isSeen 2 (some .boolean), Cond.fieldLink RX7 7 "MastPulpitsModel" "ground" "[I", Cond.fieldLink RX7 59 "MastPulpitsModel" "place" "I", Cond.methodLink RX7 149 yX7_far, Cond.static yX7_far, Cond.code yX7_far cX7_far 4 (some .int), Cond.methodLink RX7 77 yX7_off, Cond.static yX7_off, Cond.code yX7_off cX7_off 2 (some .int), Cond.methodLink RX7 152 yX7_glass, Cond.instanceMethod yX7_glass, Cond.selects RX7 yX7_glass yX7_glass, Cond.code yX7_glass cX7_glass 2 (some .int), Cond.fieldLink RX7 13 "MastPulpitsModel" "eyes" "[I"]
def wsX7_call_r2 : List Cond := [Cond.fieldLink RX7 66 "MastPulpitsModel" "who" "I", Cond.fieldLink RX7 104 "MastPulpitsModel" "mist" "I", Cond.fieldLink RX7 146 "MastPulpitsModel" "hours" "I"]
def wsX7_call : List Cond := .code yX7_call cX7_call 1 none :: ((wsX7_call_r1 ++ wsX7_call_r2) ++ wsX70)
def wsX7_passHour : List Cond := .code yX7_passHour cX7_passHour 1 none :: ([.fieldLink RX7 146 "MastPulpitsModel" "hours" "I", .fieldLink RX7 66 "MastPulpitsModel" "who" "I", .fieldLink RX7 104 "MastPulpitsModel" "mist" "I", .fieldLink RX7 143 "MastPulpitsModel" "hour" "I"] ++ wsX70)
def wsX7_happen_r1 : List Cond := [Cond.fieldLink RX7 104 "MastPulpitsModel" "mist" "I", Cond.methodLink RX7 170 yX7_climb, Cond.instanceMethod yX7_climb, Cond.selects RX7 yX7_climb yX7_climb, Cond.initialized RX7, Cond.code yX7_climb cX7_climb 2 none, Cond.fieldLink RX7 66 "MastPulpitsModel" "who" "I", Cond.fieldLink RX7 146 "MastPulpitsModel" "hours" "I", Cond.methodLink RX7 174 yX7_sail, Cond.instanceMethod yX7_sail, Cond.selects RX7 yX7_sail yX7_sail, Cond.code yX7_sail cX7_sail 3 none, Cond.fieldLink RX7 59 "MastPulpitsModel" "place" "I", Cond.fieldLink RX7 7 "MastPulpitsModel" "ground" "[I", Cond.fieldLink RX7 63 "MastPulpitsModel" "hull" "I", Cond.fieldLink RX7 158 "MastPulpitsModel" "strikes" "I", Cond.methodLink RX7 137 yX7_ahead, Cond.static yX7_ahead, Cond.code yX7_ahead cX7_ahead 2 (some .int), Cond.methodLink RX7 81 yX7_downwards, Cond.static yX7_downwards, Cond.code yX7_downwards cX7_downwards 1 (some .int), Cond.methodLink RX7 85 yX7_across, Cond.static yX7_across]
def wsX7_happen_r2 : List Cond := [Cond.code yX7_across cX7_across 1 (some .int), Cond.methodLink RX7 88 yX7_beside, Cond.static yX7_beside, Cond.code yX7_beside cX7_beside 5 (some .int), Cond.constantLong RX7 75 (7), Cond.methodLink RX7 71 yX7_in, Cond.static yX7_in, Cond.code yX7_in cX7_in 6 (some .boolean), Cond.methodLink RX7 177 yX7_call, Cond.instanceMethod yX7_call, Cond.selects RX7 yX7_call yX7_call, Cond.code yX7_call cX7_call 1 none, Cond.fieldLink RX7 161 "MastPulpitsModel" "calls" "I", Cond.fieldLink RX7 164 "MastPulpitsModel" "silences" "I", Cond.methodLink RX7 167 yX7_seenMany, Cond.instanceMethod yX7_seenMany, Cond.selects RX7 yX7_seenMany yX7_seenMany, Cond.code yX7_seenMany cX7_seenMany 3 (some .int), Cond.methodLink RX7 155 yX7_isSeen, Cond.instanceMethod yX7_isSeen, Cond.selects RX7 yX7_isSeen yX7_isSeen, Cond.code yX7_isSeen cX7_isSeen 2 (some .boolean), Cond.methodLink RX7 149 yX7_far, Cond.static yX7_far]
def wsX7_happen_r3 : List Cond := [Cond.code yX7_far cX7_far 4 (some .int), Cond.methodLink RX7 77 yX7_off, Cond.static yX7_off, Cond.code yX7_off cX7_off 2 (some .int), Cond.methodLink RX7 152 yX7_glass, Cond.instanceMethod yX7_glass, Cond.selects RX7 yX7_glass yX7_glass, Cond.code yX7_glass cX7_glass 2 (some .int), Cond.fieldLink RX7 13 "MastPulpitsModel" "eyes" "[I", Cond.methodLink RX7 180 yX7_passHour, Cond.instanceMethod yX7_passHour, Cond.selects RX7 yX7_passHour yX7_passHour, Cond.code yX7_passHour cX7_passHour 1 none, Cond.fieldLink RX7 143 "MastPulpitsModel" "hour" "I"]
def wsX7_happen : List Cond := .code yX7_happen cX7_happen 3 none :: ((wsX7_happen_r1 ++ (wsX7_happen_r2 ++ wsX7_happen_r3)) ++ wsX70)
def wsX7_keepNow : List Cond := .code yX7_keepNow cX7_keepNow 1 none :: ([.fieldLink RX7 34 "MastPulpitsModel" "had" "[I", .fieldLink RX7 59 "MastPulpitsModel" "place" "I", .fieldLink RX7 63 "MastPulpitsModel" "hull" "I", .fieldLink RX7 66 "MastPulpitsModel" "who" "I", .fieldLink RX7 146 "MastPulpitsModel" "hours" "I", .fieldLink RX7 104 "MastPulpitsModel" "mist" "I", .fieldLink RX7 143 "MastPulpitsModel" "hour" "I"] ++ wsX70)
def wsX7_back : List Cond := .code yX7_back cX7_back 2 (some .int) :: ([.fieldLink RX7 34 "MastPulpitsModel" "had" "[I", .fieldLink RX7 59 "MastPulpitsModel" "place" "I", .fieldLink RX7 63 "MastPulpitsModel" "hull" "I", .fieldLink RX7 66 "MastPulpitsModel" "who" "I", .fieldLink RX7 146 "MastPulpitsModel" "hours" "I", .fieldLink RX7 104 "MastPulpitsModel" "mist" "I", .fieldLink RX7 143 "MastPulpitsModel" "hour" "I"] ++ wsX70)
def wsX7_goVoyages_r1 : List Cond := [Cond.fieldLink RX7 183 "MastPulpitsModel" "badAct" "I", Cond.fieldLink RX7 186 "MastPulpitsModel" "badWhy" "I", Cond.fieldLink RX7 189 "MastPulpitsModel" "silentAct" "I", Cond.fieldLink RX7 158 "MastPulpitsModel" "strikes" "I", Cond.fieldLink RX7 161 "MastPulpitsModel" "calls" "I", Cond.fieldLink RX7 164 "MastPulpitsModel" "silences" "I", Cond.fieldLink RX7 114 "MastPulpitsModel" "acts" "I", Cond.fieldLink RX7 28 "MastPulpitsModel" "act" "[I", Cond.fieldLink RX7 31 "MastPulpitsModel" "much" "[I", Cond.methodLink RX7 192 yX7_whyNot, Cond.instanceMethod yX7_whyNot, Cond.selects RX7 yX7_whyNot yX7_whyNot, Cond.initialized RX7, Cond.code yX7_whyNot cX7_whyNot 3 (some .int), Cond.fieldLink RX7 66 "MastPulpitsModel" "who" "I", Cond.fieldLink RX7 104 "MastPulpitsModel" "mist" "I", Cond.fieldLink RX7 143 "MastPulpitsModel" "hour" "I", Cond.methodLink RX7 140 yX7_whyNoSail, Cond.instanceMethod yX7_whyNoSail, Cond.selects RX7 yX7_whyNoSail yX7_whyNoSail, Cond.code yX7_whyNoSail cX7_whyNoSail 2 (some .int), Cond.fieldLink RX7 63 "MastPulpitsModel" "hull" "I", Cond.fieldLink RX7 59 "MastPulpitsModel" "place" "I", Cond.methodLink RX7 137 yX7_ahead]
def wsX7_goVoyages_r2 : List Cond := [Cond.static yX7_ahead, Cond.code yX7_ahead cX7_ahead 2 (some .int), Cond.methodLink RX7 81 yX7_downwards, Cond.static yX7_downwards, Cond.code yX7_downwards cX7_downwards 1 (some .int), Cond.methodLink RX7 85 yX7_across, Cond.static yX7_across, Cond.code yX7_across cX7_across 1 (some .int), Cond.methodLink RX7 88 yX7_beside, Cond.static yX7_beside, Cond.code yX7_beside cX7_beside 5 (some .int), Cond.constantLong RX7 75 (7), Cond.methodLink RX7 71 yX7_in, Cond.static yX7_in, Cond.code yX7_in cX7_in 6 (some .boolean), Cond.methodLink RX7 195 yX7_happen, Cond.instanceMethod yX7_happen, Cond.selects RX7 yX7_happen yX7_happen, Cond.code yX7_happen cX7_happen 3 none, Cond.methodLink RX7 170 yX7_climb, Cond.instanceMethod yX7_climb, Cond.selects RX7 yX7_climb yX7_climb, Cond.code yX7_climb cX7_climb 2 none, Cond.fieldLink RX7 146 "MastPulpitsModel" "hours" "I"]
def wsX7_goVoyages_r3 : List Cond := [Cond.methodLink RX7 174 yX7_sail, Cond.instanceMethod yX7_sail, Cond.selects RX7 yX7_sail yX7_sail, Cond.code yX7_sail cX7_sail 3 none, Cond.fieldLink RX7 7 "MastPulpitsModel" "ground" "[I", Cond.methodLink RX7 177 yX7_call, Cond.instanceMethod yX7_call, Cond.selects RX7 yX7_call yX7_call, Cond.code yX7_call cX7_call 1 none, Cond.methodLink RX7 167 yX7_seenMany, Cond.instanceMethod yX7_seenMany, Cond.selects RX7 yX7_seenMany yX7_seenMany, Cond.code yX7_seenMany cX7_seenMany 3 (some .int), Cond.methodLink RX7 155 yX7_isSeen, Cond.instanceMethod yX7_isSeen, Cond.selects RX7 yX7_isSeen yX7_isSeen, Cond.code yX7_isSeen cX7_isSeen 2 (some .boolean), Cond.methodLink RX7 149 yX7_far, Cond.static yX7_far, Cond.code yX7_far cX7_far 4 (some .int), Cond.methodLink RX7 77 yX7_off, Cond.static yX7_off, Cond.code yX7_off cX7_off 2 (some .int), Cond.methodLink RX7 152 yX7_glass]
def wsX7_goVoyages_r4 : List Cond := [Cond.instanceMethod yX7_glass, Cond.selects RX7 yX7_glass yX7_glass, Cond.code yX7_glass cX7_glass 2 (some .int), Cond.fieldLink RX7 13 "MastPulpitsModel" "eyes" "[I", Cond.methodLink RX7 180 yX7_passHour, Cond.instanceMethod yX7_passHour, Cond.selects RX7 yX7_passHour yX7_passHour, Cond.code yX7_passHour cX7_passHour 1 none]
def wsX7_goVoyages : List Cond := .code yX7_goVoyages cX7_goVoyages 3 none :: ((wsX7_goVoyages_r1 ++ (wsX7_goVoyages_r2 ++ (wsX7_goVoyages_r3 ++ wsX7_goVoyages_r4))) ++ wsX70)
def wsX7_refusal_r1 : List Cond := [Cond.fieldLink RX7 183 "MastPulpitsModel" "badAct" "I", Cond.methodLink RX7 199 yX7_keepNow, Cond.instanceMethod yX7_keepNow, Cond.selects RX7 yX7_keepNow yX7_keepNow, Cond.initialized RX7, Cond.code yX7_keepNow cX7_keepNow 1 none, Cond.fieldLink RX7 34 "MastPulpitsModel" "had" "[I", Cond.fieldLink RX7 59 "MastPulpitsModel" "place" "I", Cond.fieldLink RX7 63 "MastPulpitsModel" "hull" "I", Cond.fieldLink RX7 66 "MastPulpitsModel" "who" "I", Cond.fieldLink RX7 146 "MastPulpitsModel" "hours" "I", Cond.fieldLink RX7 104 "MastPulpitsModel" "mist" "I", Cond.fieldLink RX7 143 "MastPulpitsModel" "hour" "I", Cond.methodLink RX7 202 yX7_fault, Cond.instanceMethod yX7_fault, Cond.selects RX7 yX7_fault yX7_fault, Cond.code yX7_fault cX7_fault 3 (some .int), Cond.fieldLink RX7 114 "MastPulpitsModel" "acts" "I", Cond.fieldLink RX7 111 "MastPulpitsModel" "padMany" "I", Cond.fieldLink RX7 25 "MastPulpitsModel" "pad" "[I", Cond.methodLink RX7 134 yX7_readOn, Cond.instanceMethod yX7_readOn, Cond.selects RX7 yX7_readOn yX7_readOn, Cond.code yX7_readOn cX7_readOn 3 (some .int)]
def wsX7_refusal_r2 : List Cond := [Cond.methodLink RX7 128 yX7_begin, Cond.instanceMethod yX7_begin, Cond.selects RX7 yX7_begin yX7_begin, Cond.code yX7_begin cX7_begin 3 (some .int), Cond.constantLong RX7 117 (65), Cond.constantLong RX7 119 (70), Cond.fieldLink RX7 31 "MastPulpitsModel" "much" "[I", Cond.methodLink RX7 71 yX7_in, Cond.static yX7_in, Cond.code yX7_in cX7_in 6 (some .boolean), Cond.methodLink RX7 121 yX7_close, Cond.instanceMethod yX7_close, Cond.selects RX7 yX7_close yX7_close, Cond.code yX7_close cX7_close 2 (some .int), Cond.fieldLink RX7 28 "MastPulpitsModel" "act" "[I", Cond.methodLink RX7 131 yX7_digit, Cond.instanceMethod yX7_digit, Cond.selects RX7 yX7_digit yX7_digit, Cond.code yX7_digit cX7_digit 3 (some .int), Cond.constantLong RX7 124 (48), Cond.constantLong RX7 126 (55), Cond.methodLink RX7 205 yX7_goVoyages, Cond.instanceMethod yX7_goVoyages, Cond.selects RX7 yX7_goVoyages yX7_goVoyages]
def wsX7_refusal_r3 : List Cond := [Cond.code yX7_goVoyages cX7_goVoyages 3 none, Cond.fieldLink RX7 186 "MastPulpitsModel" "badWhy" "I", Cond.fieldLink RX7 189 "MastPulpitsModel" "silentAct" "I", Cond.fieldLink RX7 158 "MastPulpitsModel" "strikes" "I", Cond.fieldLink RX7 161 "MastPulpitsModel" "calls" "I", Cond.fieldLink RX7 164 "MastPulpitsModel" "silences" "I", Cond.methodLink RX7 192 yX7_whyNot, Cond.instanceMethod yX7_whyNot, Cond.selects RX7 yX7_whyNot yX7_whyNot, Cond.code yX7_whyNot cX7_whyNot 3 (some .int), Cond.methodLink RX7 140 yX7_whyNoSail, Cond.instanceMethod yX7_whyNoSail, Cond.selects RX7 yX7_whyNoSail yX7_whyNoSail, Cond.code yX7_whyNoSail cX7_whyNoSail 2 (some .int), Cond.methodLink RX7 137 yX7_ahead, Cond.static yX7_ahead, Cond.code yX7_ahead cX7_ahead 2 (some .int), Cond.methodLink RX7 81 yX7_downwards, Cond.static yX7_downwards, Cond.code yX7_downwards cX7_downwards 1 (some .int), Cond.methodLink RX7 85 yX7_across, Cond.static yX7_across, Cond.code yX7_across cX7_across 1 (some .int), Cond.methodLink RX7 88 yX7_beside]
def wsX7_refusal_r4 : List Cond := [Cond.static yX7_beside, Cond.code yX7_beside cX7_beside 5 (some .int), Cond.constantLong RX7 75 (7), Cond.methodLink RX7 195 yX7_happen, Cond.instanceMethod yX7_happen, Cond.selects RX7 yX7_happen yX7_happen, Cond.code yX7_happen cX7_happen 3 none, Cond.methodLink RX7 170 yX7_climb, Cond.instanceMethod yX7_climb, Cond.selects RX7 yX7_climb yX7_climb, Cond.code yX7_climb cX7_climb 2 none, Cond.methodLink RX7 174 yX7_sail, Cond.instanceMethod yX7_sail, Cond.selects RX7 yX7_sail yX7_sail, Cond.code yX7_sail cX7_sail 3 none, Cond.fieldLink RX7 7 "MastPulpitsModel" "ground" "[I", Cond.methodLink RX7 177 yX7_call, Cond.instanceMethod yX7_call, Cond.selects RX7 yX7_call yX7_call, Cond.code yX7_call cX7_call 1 none, Cond.methodLink RX7 167 yX7_seenMany, Cond.instanceMethod yX7_seenMany, Cond.selects RX7 yX7_seenMany yX7_seenMany, Cond.code yX7_seenMany cX7_seenMany 3 (some .int)]
def wsX7_refusal_r5 : List Cond := [Cond.methodLink RX7 155 yX7_isSeen, Cond.instanceMethod yX7_isSeen, Cond.selects RX7 yX7_isSeen yX7_isSeen, Cond.code yX7_isSeen cX7_isSeen 2 (some .boolean), Cond.methodLink RX7 149 yX7_far, Cond.static yX7_far, Cond.code yX7_far cX7_far 4 (some .int), Cond.methodLink RX7 77 yX7_off, Cond.static yX7_off, Cond.code yX7_off cX7_off 2 (some .int), Cond.methodLink RX7 152 yX7_glass, Cond.instanceMethod yX7_glass, Cond.selects RX7 yX7_glass yX7_glass, Cond.code yX7_glass cX7_glass 2 (some .int), Cond.fieldLink RX7 13 "MastPulpitsModel" "eyes" "[I", Cond.methodLink RX7 180 yX7_passHour, Cond.instanceMethod yX7_passHour, Cond.selects RX7 yX7_passHour yX7_passHour, Cond.code yX7_passHour cX7_passHour 1 none]
def wsX7_refusal : List Cond := .code yX7_refusal cX7_refusal 1 (some .int) :: ((wsX7_refusal_r1 ++ (wsX7_refusal_r2 ++ (wsX7_refusal_r3 ++ (wsX7_refusal_r4 ++ wsX7_refusal_r5)))) ++ wsX70)
def wsX7_judge_r1 : List Cond := [Cond.constantLong RX7 208 (2), Cond.fieldLink RX7 183 "MastPulpitsModel" "badAct" "I", Cond.fieldLink RX7 186 "MastPulpitsModel" "badWhy" "I", Cond.fieldLink RX7 158 "MastPulpitsModel" "strikes" "I", Cond.methodLink RX7 71 yX7_in, Cond.static yX7_in, Cond.initialized RX7, Cond.code yX7_in cX7_in 6 (some .boolean), Cond.methodLink RX7 210 yX7_refusal, Cond.instanceMethod yX7_refusal, Cond.selects RX7 yX7_refusal yX7_refusal, Cond.code yX7_refusal cX7_refusal 1 (some .int), Cond.methodLink RX7 199 yX7_keepNow, Cond.instanceMethod yX7_keepNow, Cond.selects RX7 yX7_keepNow yX7_keepNow, Cond.code yX7_keepNow cX7_keepNow 1 none, Cond.fieldLink RX7 34 "MastPulpitsModel" "had" "[I", Cond.fieldLink RX7 59 "MastPulpitsModel" "place" "I", Cond.fieldLink RX7 63 "MastPulpitsModel" "hull" "I", Cond.fieldLink RX7 66 "MastPulpitsModel" "who" "I", Cond.fieldLink RX7 146 "MastPulpitsModel" "hours" "I", Cond.fieldLink RX7 104 "MastPulpitsModel" "mist" "I", Cond.fieldLink RX7 143 "MastPulpitsModel" "hour" "I", Cond.methodLink RX7 202 yX7_fault]
def wsX7_judge_r2 : List Cond := [Cond.instanceMethod yX7_fault, Cond.selects RX7 yX7_fault yX7_fault, Cond.code yX7_fault cX7_fault 3 (some .int), Cond.fieldLink RX7 114 "MastPulpitsModel" "acts" "I", Cond.fieldLink RX7 111 "MastPulpitsModel" "padMany" "I", Cond.fieldLink RX7 25 "MastPulpitsModel" "pad" "[I", Cond.methodLink RX7 134 yX7_readOn, Cond.instanceMethod yX7_readOn, Cond.selects RX7 yX7_readOn yX7_readOn, Cond.code yX7_readOn cX7_readOn 3 (some .int), Cond.methodLink RX7 128 yX7_begin, Cond.instanceMethod yX7_begin, Cond.selects RX7 yX7_begin yX7_begin, Cond.code yX7_begin cX7_begin 3 (some .int), Cond.constantLong RX7 117 (65), Cond.constantLong RX7 119 (70), Cond.fieldLink RX7 31 "MastPulpitsModel" "much" "[I", Cond.methodLink RX7 121 yX7_close, Cond.instanceMethod yX7_close, Cond.selects RX7 yX7_close yX7_close, Cond.code yX7_close cX7_close 2 (some .int), Cond.fieldLink RX7 28 "MastPulpitsModel" "act" "[I", Cond.methodLink RX7 131 yX7_digit, Cond.instanceMethod yX7_digit]
def wsX7_judge_r3 : List Cond := [Cond.selects RX7 yX7_digit yX7_digit, Cond.code yX7_digit cX7_digit 3 (some .int), Cond.constantLong RX7 124 (48), Cond.constantLong RX7 126 (55), Cond.methodLink RX7 205 yX7_goVoyages, Cond.instanceMethod yX7_goVoyages, Cond.selects RX7 yX7_goVoyages yX7_goVoyages, Cond.code yX7_goVoyages cX7_goVoyages 3 none, Cond.fieldLink RX7 189 "MastPulpitsModel" "silentAct" "I", Cond.fieldLink RX7 161 "MastPulpitsModel" "calls" "I", Cond.fieldLink RX7 164 "MastPulpitsModel" "silences" "I", Cond.methodLink RX7 192 yX7_whyNot, Cond.instanceMethod yX7_whyNot, Cond.selects RX7 yX7_whyNot yX7_whyNot, Cond.code yX7_whyNot cX7_whyNot 3 (some .int), Cond.methodLink RX7 140 yX7_whyNoSail, Cond.instanceMethod yX7_whyNoSail, Cond.selects RX7 yX7_whyNoSail yX7_whyNoSail, Cond.code yX7_whyNoSail cX7_whyNoSail 2 (some .int), Cond.methodLink RX7 137 yX7_ahead, Cond.static yX7_ahead, Cond.code yX7_ahead cX7_ahead 2 (some .int), Cond.methodLink RX7 81 yX7_downwards, Cond.static yX7_downwards]
def wsX7_judge_r4 : List Cond := [Cond.code yX7_downwards cX7_downwards 1 (some .int), Cond.methodLink RX7 85 yX7_across, Cond.static yX7_across, Cond.code yX7_across cX7_across 1 (some .int), Cond.methodLink RX7 88 yX7_beside, Cond.static yX7_beside, Cond.code yX7_beside cX7_beside 5 (some .int), Cond.constantLong RX7 75 (7), Cond.methodLink RX7 195 yX7_happen, Cond.instanceMethod yX7_happen, Cond.selects RX7 yX7_happen yX7_happen, Cond.code yX7_happen cX7_happen 3 none, Cond.methodLink RX7 170 yX7_climb, Cond.instanceMethod yX7_climb, Cond.selects RX7 yX7_climb yX7_climb, Cond.code yX7_climb cX7_climb 2 none, Cond.methodLink RX7 174 yX7_sail, Cond.instanceMethod yX7_sail, Cond.selects RX7 yX7_sail yX7_sail, Cond.code yX7_sail cX7_sail 3 none, Cond.fieldLink RX7 7 "MastPulpitsModel" "ground" "[I", Cond.methodLink RX7 177 yX7_call, Cond.instanceMethod yX7_call, Cond.selects RX7 yX7_call yX7_call]
def wsX7_judge_r5 : List Cond := [Cond.code yX7_call cX7_call 1 none, Cond.methodLink RX7 167 yX7_seenMany, Cond.instanceMethod yX7_seenMany, Cond.selects RX7 yX7_seenMany yX7_seenMany, Cond.code yX7_seenMany cX7_seenMany 3 (some .int), Cond.methodLink RX7 155 yX7_isSeen, Cond.instanceMethod yX7_isSeen, Cond.selects RX7 yX7_isSeen yX7_isSeen, Cond.code yX7_isSeen cX7_isSeen 2 (some .boolean), Cond.methodLink RX7 149 yX7_far, Cond.static yX7_far, Cond.code yX7_far cX7_far 4 (some .int), Cond.methodLink RX7 77 yX7_off, Cond.static yX7_off, Cond.code yX7_off cX7_off 2 (some .int), Cond.methodLink RX7 152 yX7_glass, Cond.instanceMethod yX7_glass, Cond.selects RX7 yX7_glass yX7_glass, Cond.code yX7_glass cX7_glass 2 (some .int), Cond.fieldLink RX7 13 "MastPulpitsModel" "eyes" "[I", Cond.methodLink RX7 180 yX7_passHour, Cond.instanceMethod yX7_passHour, Cond.selects RX7 yX7_passHour yX7_passHour, Cond.code yX7_passHour cX7_passHour 1 none]
def wsX7_judge_r6 : List Cond := [Cond.methodLink RX7 213 yX7_back, Cond.instanceMethod yX7_back, Cond.selects RX7 yX7_back yX7_back, Cond.code yX7_back cX7_back 2 (some .int)]
def wsX7_judge : List Cond := .code yX7_judge cX7_judge 3 (some .int) :: ((wsX7_judge_r1 ++ (wsX7_judge_r2 ++ (wsX7_judge_r3 ++ (wsX7_judge_r4 ++ (wsX7_judge_r5 ++ wsX7_judge_r6))))) ++ wsX70)
def wsX7_ofShip : List Cond := .code yX7_ofShip cX7_ofShip 2 (some .int) :: ([.fieldLink RX7 59 "MastPulpitsModel" "place" "I", .fieldLink RX7 63 "MastPulpitsModel" "hull" "I", .fieldLink RX7 66 "MastPulpitsModel" "who" "I", .fieldLink RX7 146 "MastPulpitsModel" "hours" "I", .fieldLink RX7 104 "MastPulpitsModel" "mist" "I", .fieldLink RX7 143 "MastPulpitsModel" "hour" "I"] ++ wsX70)
def wsX7_behind_r1 : List Cond := [Cond.constantLong RX7 102 (5), Cond.methodLink RX7 71 yX7_in, Cond.static yX7_in, Cond.initialized RX7, Cond.code yX7_in cX7_in 6 (some .boolean), Cond.methodLink RX7 210 yX7_refusal, Cond.instanceMethod yX7_refusal, Cond.selects RX7 yX7_refusal yX7_refusal, Cond.code yX7_refusal cX7_refusal 1 (some .int), Cond.fieldLink RX7 183 "MastPulpitsModel" "badAct" "I", Cond.methodLink RX7 199 yX7_keepNow, Cond.instanceMethod yX7_keepNow, Cond.selects RX7 yX7_keepNow yX7_keepNow, Cond.code yX7_keepNow cX7_keepNow 1 none, Cond.fieldLink RX7 34 "MastPulpitsModel" "had" "[I", Cond.fieldLink RX7 59 "MastPulpitsModel" "place" "I", Cond.fieldLink RX7 63 "MastPulpitsModel" "hull" "I", Cond.fieldLink RX7 66 "MastPulpitsModel" "who" "I", Cond.fieldLink RX7 146 "MastPulpitsModel" "hours" "I", Cond.fieldLink RX7 104 "MastPulpitsModel" "mist" "I", Cond.fieldLink RX7 143 "MastPulpitsModel" "hour" "I", Cond.methodLink RX7 202 yX7_fault, Cond.instanceMethod yX7_fault, Cond.selects RX7 yX7_fault yX7_fault]
def wsX7_behind_r2 : List Cond := [Cond.code yX7_fault cX7_fault 3 (some .int), Cond.fieldLink RX7 114 "MastPulpitsModel" "acts" "I", Cond.fieldLink RX7 111 "MastPulpitsModel" "padMany" "I", Cond.fieldLink RX7 25 "MastPulpitsModel" "pad" "[I", Cond.methodLink RX7 134 yX7_readOn, Cond.instanceMethod yX7_readOn, Cond.selects RX7 yX7_readOn yX7_readOn, Cond.code yX7_readOn cX7_readOn 3 (some .int), Cond.methodLink RX7 128 yX7_begin, Cond.instanceMethod yX7_begin, Cond.selects RX7 yX7_begin yX7_begin, Cond.code yX7_begin cX7_begin 3 (some .int), Cond.constantLong RX7 117 (65), Cond.constantLong RX7 119 (70), Cond.fieldLink RX7 31 "MastPulpitsModel" "much" "[I", Cond.methodLink RX7 121 yX7_close, Cond.instanceMethod yX7_close, Cond.selects RX7 yX7_close yX7_close, Cond.code yX7_close cX7_close 2 (some .int), Cond.fieldLink RX7 28 "MastPulpitsModel" "act" "[I", Cond.methodLink RX7 131 yX7_digit, Cond.instanceMethod yX7_digit, Cond.selects RX7 yX7_digit yX7_digit, Cond.code yX7_digit cX7_digit 3 (some .int)]
def wsX7_behind_r3 : List Cond := [Cond.constantLong RX7 124 (48), Cond.constantLong RX7 126 (55), Cond.methodLink RX7 205 yX7_goVoyages, Cond.instanceMethod yX7_goVoyages, Cond.selects RX7 yX7_goVoyages yX7_goVoyages, Cond.code yX7_goVoyages cX7_goVoyages 3 none, Cond.fieldLink RX7 186 "MastPulpitsModel" "badWhy" "I", Cond.fieldLink RX7 189 "MastPulpitsModel" "silentAct" "I", Cond.fieldLink RX7 158 "MastPulpitsModel" "strikes" "I", Cond.fieldLink RX7 161 "MastPulpitsModel" "calls" "I", Cond.fieldLink RX7 164 "MastPulpitsModel" "silences" "I", Cond.methodLink RX7 192 yX7_whyNot, Cond.instanceMethod yX7_whyNot, Cond.selects RX7 yX7_whyNot yX7_whyNot, Cond.code yX7_whyNot cX7_whyNot 3 (some .int), Cond.methodLink RX7 140 yX7_whyNoSail, Cond.instanceMethod yX7_whyNoSail, Cond.selects RX7 yX7_whyNoSail yX7_whyNoSail, Cond.code yX7_whyNoSail cX7_whyNoSail 2 (some .int), Cond.methodLink RX7 137 yX7_ahead, Cond.static yX7_ahead, Cond.code yX7_ahead cX7_ahead 2 (some .int), Cond.methodLink RX7 81 yX7_downwards, Cond.static yX7_downwards]
def wsX7_behind_r4 : List Cond := [Cond.code yX7_downwards cX7_downwards 1 (some .int), Cond.methodLink RX7 85 yX7_across, Cond.static yX7_across, Cond.code yX7_across cX7_across 1 (some .int), Cond.methodLink RX7 88 yX7_beside, Cond.static yX7_beside, Cond.code yX7_beside cX7_beside 5 (some .int), Cond.constantLong RX7 75 (7), Cond.methodLink RX7 195 yX7_happen, Cond.instanceMethod yX7_happen, Cond.selects RX7 yX7_happen yX7_happen, Cond.code yX7_happen cX7_happen 3 none, Cond.methodLink RX7 170 yX7_climb, Cond.instanceMethod yX7_climb, Cond.selects RX7 yX7_climb yX7_climb, Cond.code yX7_climb cX7_climb 2 none, Cond.methodLink RX7 174 yX7_sail, Cond.instanceMethod yX7_sail, Cond.selects RX7 yX7_sail yX7_sail, Cond.code yX7_sail cX7_sail 3 none, Cond.fieldLink RX7 7 "MastPulpitsModel" "ground" "[I", Cond.methodLink RX7 177 yX7_call, Cond.instanceMethod yX7_call, Cond.selects RX7 yX7_call yX7_call]
def wsX7_behind_r5 : List Cond := [Cond.code yX7_call cX7_call 1 none, Cond.methodLink RX7 167 yX7_seenMany, Cond.instanceMethod yX7_seenMany, Cond.selects RX7 yX7_seenMany yX7_seenMany, Cond.code yX7_seenMany cX7_seenMany 3 (some .int), Cond.methodLink RX7 155 yX7_isSeen, Cond.instanceMethod yX7_isSeen, Cond.selects RX7 yX7_isSeen yX7_isSeen, Cond.code yX7_isSeen cX7_isSeen 2 (some .boolean), Cond.methodLink RX7 149 yX7_far, Cond.static yX7_far, Cond.code yX7_far cX7_far 4 (some .int), Cond.methodLink RX7 77 yX7_off, Cond.static yX7_off, Cond.code yX7_off cX7_off 2 (some .int), Cond.methodLink RX7 152 yX7_glass, Cond.instanceMethod yX7_glass, Cond.selects RX7 yX7_glass yX7_glass, Cond.code yX7_glass cX7_glass 2 (some .int), Cond.fieldLink RX7 13 "MastPulpitsModel" "eyes" "[I", Cond.methodLink RX7 180 yX7_passHour, Cond.instanceMethod yX7_passHour, Cond.selects RX7 yX7_passHour yX7_passHour, Cond.code yX7_passHour cX7_passHour 1 none]
def wsX7_behind_r6 : List Cond := [Cond.methodLink RX7 216 yX7_ofShip, Cond.instanceMethod yX7_ofShip, Cond.selects RX7 yX7_ofShip yX7_ofShip, Cond.code yX7_ofShip cX7_ofShip 2 (some .int), Cond.methodLink RX7 213 yX7_back, Cond.instanceMethod yX7_back, Cond.selects RX7 yX7_back yX7_back, Cond.code yX7_back cX7_back 2 (some .int)]
def wsX7_behind : List Cond := .code yX7_behind cX7_behind 3 (some .int) :: ((wsX7_behind_r1 ++ (wsX7_behind_r2 ++ (wsX7_behind_r3 ++ (wsX7_behind_r4 ++ (wsX7_behind_r5 ++ wsX7_behind_r6))))) ++ wsX70)
def wsX7_ofSeen_r1 : List Cond := [Cond.fieldLink RX7 66 "MastPulpitsModel" "who" "I", Cond.fieldLink RX7 59 "MastPulpitsModel" "place" "I", Cond.methodLink RX7 219 yX7_nearest, Cond.instanceMethod yX7_nearest, Cond.selects RX7 yX7_nearest yX7_nearest, Cond.initialized RX7, Cond.code yX7_nearest cX7_nearest 3 (some .int), Cond.methodLink RX7 155 yX7_isSeen, Cond.instanceMethod yX7_isSeen, Cond.selects RX7 yX7_isSeen yX7_isSeen, Cond.code yX7_isSeen cX7_isSeen 2 (some .boolean), Cond.fieldLink RX7 7 "MastPulpitsModel" "ground" "[I", Cond.methodLink RX7 149 yX7_far, Cond.static yX7_far, Cond.code yX7_far cX7_far 4 (some .int), Cond.methodLink RX7 77 yX7_off, Cond.static yX7_off, Cond.code yX7_off cX7_off 2 (some .int), Cond.methodLink RX7 152 yX7_glass, Cond.instanceMethod yX7_glass, Cond.selects RX7 yX7_glass yX7_glass, Cond.code yX7_glass cX7_glass 2 (some .int), Cond.fieldLink RX7 13 "MastPulpitsModel" "eyes" "[I", Cond.fieldLink RX7 104 "MastPulpitsModel" "mist" "I"]
def wsX7_ofSeen_r2 : List Cond := [Cond.fieldLink RX7 146 "MastPulpitsModel" "hours" "I", Cond.methodLink RX7 167 yX7_seenMany, Cond.instanceMethod yX7_seenMany, Cond.selects RX7 yX7_seenMany yX7_seenMany, Cond.code yX7_seenMany cX7_seenMany 3 (some .int)]
def wsX7_ofSeen : List Cond := .code yX7_ofSeen cX7_ofSeen 3 (some .int) :: ((wsX7_ofSeen_r1 ++ wsX7_ofSeen_r2) ++ wsX70)
def wsX7_seen_r1 : List Cond := [Cond.constantLong RX7 208 (2), Cond.methodLink RX7 71 yX7_in, Cond.static yX7_in, Cond.initialized RX7, Cond.code yX7_in cX7_in 6 (some .boolean), Cond.methodLink RX7 210 yX7_refusal, Cond.instanceMethod yX7_refusal, Cond.selects RX7 yX7_refusal yX7_refusal, Cond.code yX7_refusal cX7_refusal 1 (some .int), Cond.fieldLink RX7 183 "MastPulpitsModel" "badAct" "I", Cond.methodLink RX7 199 yX7_keepNow, Cond.instanceMethod yX7_keepNow, Cond.selects RX7 yX7_keepNow yX7_keepNow, Cond.code yX7_keepNow cX7_keepNow 1 none, Cond.fieldLink RX7 34 "MastPulpitsModel" "had" "[I", Cond.fieldLink RX7 59 "MastPulpitsModel" "place" "I", Cond.fieldLink RX7 63 "MastPulpitsModel" "hull" "I", Cond.fieldLink RX7 66 "MastPulpitsModel" "who" "I", Cond.fieldLink RX7 146 "MastPulpitsModel" "hours" "I", Cond.fieldLink RX7 104 "MastPulpitsModel" "mist" "I", Cond.fieldLink RX7 143 "MastPulpitsModel" "hour" "I", Cond.methodLink RX7 202 yX7_fault, Cond.instanceMethod yX7_fault, Cond.selects RX7 yX7_fault yX7_fault]
def wsX7_seen_r2 : List Cond := [Cond.code yX7_fault cX7_fault 3 (some .int), Cond.fieldLink RX7 114 "MastPulpitsModel" "acts" "I", Cond.fieldLink RX7 111 "MastPulpitsModel" "padMany" "I", Cond.fieldLink RX7 25 "MastPulpitsModel" "pad" "[I", Cond.methodLink RX7 134 yX7_readOn, Cond.instanceMethod yX7_readOn, Cond.selects RX7 yX7_readOn yX7_readOn, Cond.code yX7_readOn cX7_readOn 3 (some .int), Cond.methodLink RX7 128 yX7_begin, Cond.instanceMethod yX7_begin, Cond.selects RX7 yX7_begin yX7_begin, Cond.code yX7_begin cX7_begin 3 (some .int), Cond.constantLong RX7 117 (65), Cond.constantLong RX7 119 (70), Cond.fieldLink RX7 31 "MastPulpitsModel" "much" "[I", Cond.methodLink RX7 121 yX7_close, Cond.instanceMethod yX7_close, Cond.selects RX7 yX7_close yX7_close, Cond.code yX7_close cX7_close 2 (some .int), Cond.fieldLink RX7 28 "MastPulpitsModel" "act" "[I", Cond.methodLink RX7 131 yX7_digit, Cond.instanceMethod yX7_digit, Cond.selects RX7 yX7_digit yX7_digit, Cond.code yX7_digit cX7_digit 3 (some .int)]
def wsX7_seen_r3 : List Cond := [Cond.constantLong RX7 124 (48), Cond.constantLong RX7 126 (55), Cond.methodLink RX7 205 yX7_goVoyages, Cond.instanceMethod yX7_goVoyages, Cond.selects RX7 yX7_goVoyages yX7_goVoyages, Cond.code yX7_goVoyages cX7_goVoyages 3 none, Cond.fieldLink RX7 186 "MastPulpitsModel" "badWhy" "I", Cond.fieldLink RX7 189 "MastPulpitsModel" "silentAct" "I", Cond.fieldLink RX7 158 "MastPulpitsModel" "strikes" "I", Cond.fieldLink RX7 161 "MastPulpitsModel" "calls" "I", Cond.fieldLink RX7 164 "MastPulpitsModel" "silences" "I", Cond.methodLink RX7 192 yX7_whyNot, Cond.instanceMethod yX7_whyNot, Cond.selects RX7 yX7_whyNot yX7_whyNot, Cond.code yX7_whyNot cX7_whyNot 3 (some .int), Cond.methodLink RX7 140 yX7_whyNoSail, Cond.instanceMethod yX7_whyNoSail, Cond.selects RX7 yX7_whyNoSail yX7_whyNoSail, Cond.code yX7_whyNoSail cX7_whyNoSail 2 (some .int), Cond.methodLink RX7 137 yX7_ahead, Cond.static yX7_ahead, Cond.code yX7_ahead cX7_ahead 2 (some .int), Cond.methodLink RX7 81 yX7_downwards, Cond.static yX7_downwards]
def wsX7_seen_r4 : List Cond := [Cond.code yX7_downwards cX7_downwards 1 (some .int), Cond.methodLink RX7 85 yX7_across, Cond.static yX7_across, Cond.code yX7_across cX7_across 1 (some .int), Cond.methodLink RX7 88 yX7_beside, Cond.static yX7_beside, Cond.code yX7_beside cX7_beside 5 (some .int), Cond.constantLong RX7 75 (7), Cond.methodLink RX7 195 yX7_happen, Cond.instanceMethod yX7_happen, Cond.selects RX7 yX7_happen yX7_happen, Cond.code yX7_happen cX7_happen 3 none, Cond.methodLink RX7 170 yX7_climb, Cond.instanceMethod yX7_climb, Cond.selects RX7 yX7_climb yX7_climb, Cond.code yX7_climb cX7_climb 2 none, Cond.methodLink RX7 174 yX7_sail, Cond.instanceMethod yX7_sail, Cond.selects RX7 yX7_sail yX7_sail, Cond.code yX7_sail cX7_sail 3 none, Cond.fieldLink RX7 7 "MastPulpitsModel" "ground" "[I", Cond.methodLink RX7 177 yX7_call, Cond.instanceMethod yX7_call, Cond.selects RX7 yX7_call yX7_call]
def wsX7_seen_r5 : List Cond := [Cond.code yX7_call cX7_call 1 none, Cond.methodLink RX7 167 yX7_seenMany, Cond.instanceMethod yX7_seenMany, Cond.selects RX7 yX7_seenMany yX7_seenMany, Cond.code yX7_seenMany cX7_seenMany 3 (some .int), Cond.methodLink RX7 155 yX7_isSeen, Cond.instanceMethod yX7_isSeen, Cond.selects RX7 yX7_isSeen yX7_isSeen, Cond.code yX7_isSeen cX7_isSeen 2 (some .boolean), Cond.methodLink RX7 149 yX7_far, Cond.static yX7_far, Cond.code yX7_far cX7_far 4 (some .int), Cond.methodLink RX7 77 yX7_off, Cond.static yX7_off, Cond.code yX7_off cX7_off 2 (some .int), Cond.methodLink RX7 152 yX7_glass, Cond.instanceMethod yX7_glass, Cond.selects RX7 yX7_glass yX7_glass, Cond.code yX7_glass cX7_glass 2 (some .int), Cond.fieldLink RX7 13 "MastPulpitsModel" "eyes" "[I", Cond.methodLink RX7 180 yX7_passHour, Cond.instanceMethod yX7_passHour, Cond.selects RX7 yX7_passHour yX7_passHour, Cond.code yX7_passHour cX7_passHour 1 none]
def wsX7_seen_r6 : List Cond := [Cond.methodLink RX7 222 yX7_ofSeen, Cond.instanceMethod yX7_ofSeen, Cond.selects RX7 yX7_ofSeen yX7_ofSeen, Cond.code yX7_ofSeen cX7_ofSeen 3 (some .int), Cond.methodLink RX7 219 yX7_nearest, Cond.instanceMethod yX7_nearest, Cond.selects RX7 yX7_nearest yX7_nearest, Cond.code yX7_nearest cX7_nearest 3 (some .int), Cond.methodLink RX7 213 yX7_back, Cond.instanceMethod yX7_back, Cond.selects RX7 yX7_back yX7_back, Cond.code yX7_back cX7_back 2 (some .int)]
def wsX7_seen : List Cond := .code yX7_seen cX7_seen 3 (some .int) :: ((wsX7_seen_r1 ++ (wsX7_seen_r2 ++ (wsX7_seen_r3 ++ (wsX7_seen_r4 ++ (wsX7_seen_r5 ++ wsX7_seen_r6))))) ++ wsX70)
def wsX7_silence_r1 : List Cond := [Cond.fieldLink RX7 189 "MastPulpitsModel" "silentAct" "I", Cond.fieldLink RX7 161 "MastPulpitsModel" "calls" "I", Cond.methodLink RX7 71 yX7_in, Cond.static yX7_in, Cond.initialized RX7, Cond.code yX7_in cX7_in 6 (some .boolean), Cond.methodLink RX7 210 yX7_refusal, Cond.instanceMethod yX7_refusal, Cond.selects RX7 yX7_refusal yX7_refusal, Cond.code yX7_refusal cX7_refusal 1 (some .int), Cond.fieldLink RX7 183 "MastPulpitsModel" "badAct" "I", Cond.methodLink RX7 199 yX7_keepNow, Cond.instanceMethod yX7_keepNow, Cond.selects RX7 yX7_keepNow yX7_keepNow, Cond.code yX7_keepNow cX7_keepNow 1 none, Cond.fieldLink RX7 34 "MastPulpitsModel" "had" "[I", Cond.fieldLink RX7 59 "MastPulpitsModel" "place" "I", Cond.fieldLink RX7 63 "MastPulpitsModel" "hull" "I", Cond.fieldLink RX7 66 "MastPulpitsModel" "who" "I", Cond.fieldLink RX7 146 "MastPulpitsModel" "hours" "I", Cond.fieldLink RX7 104 "MastPulpitsModel" "mist" "I", Cond.fieldLink RX7 143 "MastPulpitsModel" "hour" "I", Cond.methodLink RX7 202 yX7_fault, Cond.instanceMethod yX7_fault]
def wsX7_silence_r2 : List Cond := [Cond.selects RX7 yX7_fault yX7_fault, Cond.code yX7_fault cX7_fault 3 (some .int), Cond.fieldLink RX7 114 "MastPulpitsModel" "acts" "I", Cond.fieldLink RX7 111 "MastPulpitsModel" "padMany" "I", Cond.fieldLink RX7 25 "MastPulpitsModel" "pad" "[I", Cond.methodLink RX7 134 yX7_readOn, Cond.instanceMethod yX7_readOn, Cond.selects RX7 yX7_readOn yX7_readOn, Cond.code yX7_readOn cX7_readOn 3 (some .int), Cond.methodLink RX7 128 yX7_begin, Cond.instanceMethod yX7_begin, Cond.selects RX7 yX7_begin yX7_begin, Cond.code yX7_begin cX7_begin 3 (some .int), Cond.constantLong RX7 117 (65), Cond.constantLong RX7 119 (70), Cond.fieldLink RX7 31 "MastPulpitsModel" "much" "[I", Cond.methodLink RX7 121 yX7_close, Cond.instanceMethod yX7_close, Cond.selects RX7 yX7_close yX7_close, Cond.code yX7_close cX7_close 2 (some .int), Cond.fieldLink RX7 28 "MastPulpitsModel" "act" "[I", Cond.methodLink RX7 131 yX7_digit, Cond.instanceMethod yX7_digit, Cond.selects RX7 yX7_digit yX7_digit]
def wsX7_silence_r3 : List Cond := [Cond.code yX7_digit cX7_digit 3 (some .int), Cond.constantLong RX7 124 (48), Cond.constantLong RX7 126 (55), Cond.methodLink RX7 205 yX7_goVoyages, Cond.instanceMethod yX7_goVoyages, Cond.selects RX7 yX7_goVoyages yX7_goVoyages, Cond.code yX7_goVoyages cX7_goVoyages 3 none, Cond.fieldLink RX7 186 "MastPulpitsModel" "badWhy" "I", Cond.fieldLink RX7 158 "MastPulpitsModel" "strikes" "I", Cond.fieldLink RX7 164 "MastPulpitsModel" "silences" "I", Cond.methodLink RX7 192 yX7_whyNot, Cond.instanceMethod yX7_whyNot, Cond.selects RX7 yX7_whyNot yX7_whyNot, Cond.code yX7_whyNot cX7_whyNot 3 (some .int), Cond.methodLink RX7 140 yX7_whyNoSail, Cond.instanceMethod yX7_whyNoSail, Cond.selects RX7 yX7_whyNoSail yX7_whyNoSail, Cond.code yX7_whyNoSail cX7_whyNoSail 2 (some .int), Cond.methodLink RX7 137 yX7_ahead, Cond.static yX7_ahead, Cond.code yX7_ahead cX7_ahead 2 (some .int), Cond.methodLink RX7 81 yX7_downwards, Cond.static yX7_downwards, Cond.code yX7_downwards cX7_downwards 1 (some .int)]
def wsX7_silence_r4 : List Cond := [Cond.methodLink RX7 85 yX7_across, Cond.static yX7_across, Cond.code yX7_across cX7_across 1 (some .int), Cond.methodLink RX7 88 yX7_beside, Cond.static yX7_beside, Cond.code yX7_beside cX7_beside 5 (some .int), Cond.constantLong RX7 75 (7), Cond.methodLink RX7 195 yX7_happen, Cond.instanceMethod yX7_happen, Cond.selects RX7 yX7_happen yX7_happen, Cond.code yX7_happen cX7_happen 3 none, Cond.methodLink RX7 170 yX7_climb, Cond.instanceMethod yX7_climb, Cond.selects RX7 yX7_climb yX7_climb, Cond.code yX7_climb cX7_climb 2 none, Cond.methodLink RX7 174 yX7_sail, Cond.instanceMethod yX7_sail, Cond.selects RX7 yX7_sail yX7_sail, Cond.code yX7_sail cX7_sail 3 none, Cond.fieldLink RX7 7 "MastPulpitsModel" "ground" "[I", Cond.methodLink RX7 177 yX7_call, Cond.instanceMethod yX7_call, Cond.selects RX7 yX7_call yX7_call, Cond.code yX7_call cX7_call 1 none]
def wsX7_silence_r5 : List Cond := [Cond.methodLink RX7 167 yX7_seenMany, Cond.instanceMethod yX7_seenMany, Cond.selects RX7 yX7_seenMany yX7_seenMany, Cond.code yX7_seenMany cX7_seenMany 3 (some .int), Cond.methodLink RX7 155 yX7_isSeen, Cond.instanceMethod yX7_isSeen, Cond.selects RX7 yX7_isSeen yX7_isSeen, Cond.code yX7_isSeen cX7_isSeen 2 (some .boolean), Cond.methodLink RX7 149 yX7_far, Cond.static yX7_far, Cond.code yX7_far cX7_far 4 (some .int), Cond.methodLink RX7 77 yX7_off, Cond.static yX7_off, Cond.code yX7_off cX7_off 2 (some .int), Cond.methodLink RX7 152 yX7_glass, Cond.instanceMethod yX7_glass, Cond.selects RX7 yX7_glass yX7_glass, Cond.code yX7_glass cX7_glass 2 (some .int), Cond.fieldLink RX7 13 "MastPulpitsModel" "eyes" "[I", Cond.methodLink RX7 180 yX7_passHour, Cond.instanceMethod yX7_passHour, Cond.selects RX7 yX7_passHour yX7_passHour, Cond.code yX7_passHour cX7_passHour 1 none, Cond.methodLink RX7 213 yX7_back]
def wsX7_silence_r6 : List Cond := [Cond.instanceMethod yX7_back, Cond.selects RX7 yX7_back yX7_back, Cond.code yX7_back cX7_back 2 (some .int)]
def wsX7_silence : List Cond := .code yX7_silence cX7_silence 3 (some .int) :: ((wsX7_silence_r1 ++ (wsX7_silence_r2 ++ (wsX7_silence_r3 ++ (wsX7_silence_r4 ++ (wsX7_silence_r5 ++ wsX7_silence_r6))))) ++ wsX70)
def wsX7_done_r1 : List Cond := [Cond.fieldLink RX7 111 "MastPulpitsModel" "padMany" "I", Cond.fieldLink RX7 114 "MastPulpitsModel" "acts" "I", Cond.methodLink RX7 210 yX7_refusal, Cond.instanceMethod yX7_refusal, Cond.selects RX7 yX7_refusal yX7_refusal, Cond.initialized RX7, Cond.code yX7_refusal cX7_refusal 1 (some .int), Cond.fieldLink RX7 183 "MastPulpitsModel" "badAct" "I", Cond.methodLink RX7 199 yX7_keepNow, Cond.instanceMethod yX7_keepNow, Cond.selects RX7 yX7_keepNow yX7_keepNow, Cond.code yX7_keepNow cX7_keepNow 1 none, Cond.fieldLink RX7 34 "MastPulpitsModel" "had" "[I", Cond.fieldLink RX7 59 "MastPulpitsModel" "place" "I", Cond.fieldLink RX7 63 "MastPulpitsModel" "hull" "I", Cond.fieldLink RX7 66 "MastPulpitsModel" "who" "I", Cond.fieldLink RX7 146 "MastPulpitsModel" "hours" "I", Cond.fieldLink RX7 104 "MastPulpitsModel" "mist" "I", Cond.fieldLink RX7 143 "MastPulpitsModel" "hour" "I", Cond.methodLink RX7 202 yX7_fault, Cond.instanceMethod yX7_fault, Cond.selects RX7 yX7_fault yX7_fault, Cond.code yX7_fault cX7_fault 3 (some .int), Cond.fieldLink RX7 25 "MastPulpitsModel" "pad" "[I"]
def wsX7_done_r2 : List Cond := [Cond.methodLink RX7 134 yX7_readOn, Cond.instanceMethod yX7_readOn, Cond.selects RX7 yX7_readOn yX7_readOn, Cond.code yX7_readOn cX7_readOn 3 (some .int), Cond.methodLink RX7 128 yX7_begin, Cond.instanceMethod yX7_begin, Cond.selects RX7 yX7_begin yX7_begin, Cond.code yX7_begin cX7_begin 3 (some .int), Cond.constantLong RX7 117 (65), Cond.constantLong RX7 119 (70), Cond.fieldLink RX7 31 "MastPulpitsModel" "much" "[I", Cond.methodLink RX7 71 yX7_in, Cond.static yX7_in, Cond.code yX7_in cX7_in 6 (some .boolean), Cond.methodLink RX7 121 yX7_close, Cond.instanceMethod yX7_close, Cond.selects RX7 yX7_close yX7_close, Cond.code yX7_close cX7_close 2 (some .int), Cond.fieldLink RX7 28 "MastPulpitsModel" "act" "[I", Cond.methodLink RX7 131 yX7_digit, Cond.instanceMethod yX7_digit, Cond.selects RX7 yX7_digit yX7_digit, Cond.code yX7_digit cX7_digit 3 (some .int), Cond.constantLong RX7 124 (48)]
def wsX7_done_r3 : List Cond := [Cond.constantLong RX7 126 (55), Cond.methodLink RX7 205 yX7_goVoyages, Cond.instanceMethod yX7_goVoyages, Cond.selects RX7 yX7_goVoyages yX7_goVoyages, Cond.code yX7_goVoyages cX7_goVoyages 3 none, Cond.fieldLink RX7 186 "MastPulpitsModel" "badWhy" "I", Cond.fieldLink RX7 189 "MastPulpitsModel" "silentAct" "I", Cond.fieldLink RX7 158 "MastPulpitsModel" "strikes" "I", Cond.fieldLink RX7 161 "MastPulpitsModel" "calls" "I", Cond.fieldLink RX7 164 "MastPulpitsModel" "silences" "I", Cond.methodLink RX7 192 yX7_whyNot, Cond.instanceMethod yX7_whyNot, Cond.selects RX7 yX7_whyNot yX7_whyNot, Cond.code yX7_whyNot cX7_whyNot 3 (some .int), Cond.methodLink RX7 140 yX7_whyNoSail, Cond.instanceMethod yX7_whyNoSail, Cond.selects RX7 yX7_whyNoSail yX7_whyNoSail, Cond.code yX7_whyNoSail cX7_whyNoSail 2 (some .int), Cond.methodLink RX7 137 yX7_ahead, Cond.static yX7_ahead, Cond.code yX7_ahead cX7_ahead 2 (some .int), Cond.methodLink RX7 81 yX7_downwards, Cond.static yX7_downwards, Cond.code yX7_downwards cX7_downwards 1 (some .int)]
def wsX7_done_r4 : List Cond := [Cond.methodLink RX7 85 yX7_across, Cond.static yX7_across, Cond.code yX7_across cX7_across 1 (some .int), Cond.methodLink RX7 88 yX7_beside, Cond.static yX7_beside, Cond.code yX7_beside cX7_beside 5 (some .int), Cond.constantLong RX7 75 (7), Cond.methodLink RX7 195 yX7_happen, Cond.instanceMethod yX7_happen, Cond.selects RX7 yX7_happen yX7_happen, Cond.code yX7_happen cX7_happen 3 none, Cond.methodLink RX7 170 yX7_climb, Cond.instanceMethod yX7_climb, Cond.selects RX7 yX7_climb yX7_climb, Cond.code yX7_climb cX7_climb 2 none, Cond.methodLink RX7 174 yX7_sail, Cond.instanceMethod yX7_sail, Cond.selects RX7 yX7_sail yX7_sail, Cond.code yX7_sail cX7_sail 3 none, Cond.fieldLink RX7 7 "MastPulpitsModel" "ground" "[I", Cond.methodLink RX7 177 yX7_call, Cond.instanceMethod yX7_call, Cond.selects RX7 yX7_call yX7_call, Cond.code yX7_call cX7_call 1 none]
def wsX7_done_r5 : List Cond := [Cond.methodLink RX7 167 yX7_seenMany, Cond.instanceMethod yX7_seenMany, Cond.selects RX7 yX7_seenMany yX7_seenMany, Cond.code yX7_seenMany cX7_seenMany 3 (some .int), Cond.methodLink RX7 155 yX7_isSeen, Cond.instanceMethod yX7_isSeen, Cond.selects RX7 yX7_isSeen yX7_isSeen, Cond.code yX7_isSeen cX7_isSeen 2 (some .boolean), Cond.methodLink RX7 149 yX7_far, Cond.static yX7_far, Cond.code yX7_far cX7_far 4 (some .int), Cond.methodLink RX7 77 yX7_off, Cond.static yX7_off, Cond.code yX7_off cX7_off 2 (some .int), Cond.methodLink RX7 152 yX7_glass, Cond.instanceMethod yX7_glass, Cond.selects RX7 yX7_glass yX7_glass, Cond.code yX7_glass cX7_glass 2 (some .int), Cond.fieldLink RX7 13 "MastPulpitsModel" "eyes" "[I", Cond.methodLink RX7 180 yX7_passHour, Cond.instanceMethod yX7_passHour, Cond.selects RX7 yX7_passHour yX7_passHour, Cond.code yX7_passHour cX7_passHour 1 none, Cond.methodLink RX7 213 yX7_back]
def wsX7_done_r6 : List Cond := [Cond.instanceMethod yX7_back, Cond.selects RX7 yX7_back yX7_back, Cond.code yX7_back cX7_back 2 (some .int)]
def wsX7_done : List Cond := .code yX7_done cX7_done 2 (some .int) :: ((wsX7_done_r1 ++ (wsX7_done_r2 ++ (wsX7_done_r3 ++ (wsX7_done_r4 ++ (wsX7_done_r5 ++ wsX7_done_r6))))) ++ wsX70)
def wsX7_wayTo : List Cond := .code yX7_wayTo cX7_wayTo 6 (some .int) :: ([.fieldLink RX7 37 "MastPulpitsModel" "steps" "[I", .methodLink RX7 137 yX7_ahead, .static yX7_ahead, .initialized RX7, .code yX7_ahead cX7_ahead 2 (some .int), .methodLink RX7 81 yX7_downwards, .static yX7_downwards, .code yX7_downwards cX7_downwards 1 (some .int), .methodLink RX7 85 yX7_across, .static yX7_across, .code yX7_across cX7_across 1 (some .int), .methodLink RX7 88 yX7_beside, .static yX7_beside, .code yX7_beside cX7_beside 5 (some .int), .constantLong RX7 75 (7), .methodLink RX7 71 yX7_in, .static yX7_in, .code yX7_in cX7_in 6 (some .boolean)] ++ wsX70)
def wsX7_oneStepMore : List Cond := .code yX7_oneStepMore cX7_oneStepMore 5 (some .boolean) :: ([.fieldLink RX7 37 "MastPulpitsModel" "steps" "[I", .fieldLink RX7 7 "MastPulpitsModel" "ground" "[I", .methodLink RX7 225 yX7_wayTo, .instanceMethod yX7_wayTo, .selects RX7 yX7_wayTo yX7_wayTo, .initialized RX7, .code yX7_wayTo cX7_wayTo 6 (some .int), .methodLink RX7 137 yX7_ahead, .static yX7_ahead, .code yX7_ahead cX7_ahead 2 (some .int), .methodLink RX7 81 yX7_downwards, .static yX7_downwards, .code yX7_downwards cX7_downwards 1 (some .int), .methodLink RX7 85 yX7_across, .static yX7_across, .code yX7_across cX7_across 1 (some .int), .methodLink RX7 88 yX7_beside, .static yX7_beside, .code yX7_beside cX7_beside 5 (some .int), .constantLong RX7 75 (7), .methodLink RX7 71 yX7_in, .static yX7_in, .code yX7_in cX7_in 6 (some .boolean)] ++ wsX70)
def wsX7_course_r1 : List Cond := [Cond.fieldLink RX7 37 "MastPulpitsModel" "steps" "[I", Cond.fieldLink RX7 7 "MastPulpitsModel" "ground" "[I", Cond.methodLink RX7 92 yX7_isCell, Cond.static yX7_isCell, Cond.initialized RX7, Cond.code yX7_isCell cX7_isCell 1 (some .boolean), Cond.constantLong RX7 69 (63), Cond.methodLink RX7 71 yX7_in, Cond.static yX7_in, Cond.code yX7_in cX7_in 6 (some .boolean), Cond.methodLink RX7 228 yX7_oneStepMore, Cond.instanceMethod yX7_oneStepMore, Cond.selects RX7 yX7_oneStepMore yX7_oneStepMore, Cond.code yX7_oneStepMore cX7_oneStepMore 5 (some .boolean), Cond.methodLink RX7 225 yX7_wayTo, Cond.instanceMethod yX7_wayTo, Cond.selects RX7 yX7_wayTo yX7_wayTo, Cond.code yX7_wayTo cX7_wayTo 6 (some .int), Cond.methodLink RX7 137 yX7_ahead, Cond.static yX7_ahead, Cond.code yX7_ahead cX7_ahead 2 (some .int), Cond.methodLink RX7 81 yX7_downwards, Cond.static yX7_downwards, Cond.code yX7_downwards cX7_downwards 1 (some .int)]
def wsX7_course_r2 : List Cond := [Cond.methodLink RX7 85 yX7_across, Cond.static yX7_across, Cond.code yX7_across cX7_across 1 (some .int), Cond.methodLink RX7 88 yX7_beside, Cond.static yX7_beside, Cond.code yX7_beside cX7_beside 5 (some .int), Cond.constantLong RX7 75 (7)]
def wsX7_course : List Cond := .code yX7_course cX7_course 6 (some .int) :: ((wsX7_course_r1 ++ wsX7_course_r2) ++ wsX70)
def wsX7_bears : List Cond := .code yX7_bears cX7_bears 5 (some .boolean) :: ([.methodLink RX7 137 yX7_ahead, .static yX7_ahead, .initialized RX7, .code yX7_ahead cX7_ahead 2 (some .int), .methodLink RX7 81 yX7_downwards, .static yX7_downwards, .code yX7_downwards cX7_downwards 1 (some .int), .methodLink RX7 85 yX7_across, .static yX7_across, .code yX7_across cX7_across 1 (some .int), .methodLink RX7 88 yX7_beside, .static yX7_beside, .code yX7_beside cX7_beside 5 (some .int), .constantLong RX7 75 (7), .methodLink RX7 71 yX7_in, .static yX7_in, .code yX7_in cX7_in 6 (some .boolean)])
def wsX7_cross_r1 : List Cond := [Cond.methodLink RX7 92 yX7_isCell, Cond.static yX7_isCell, Cond.initialized RX7, Cond.code yX7_isCell cX7_isCell 1 (some .boolean), Cond.constantLong RX7 69 (63), Cond.methodLink RX7 71 yX7_in, Cond.static yX7_in, Cond.code yX7_in cX7_in 6 (some .boolean), Cond.methodLink RX7 231 yX7_isWay, Cond.static yX7_isWay, Cond.code yX7_isWay cX7_isWay 1 (some .boolean), Cond.constantLong RX7 75 (7), Cond.methodLink RX7 234 yX7_bears, Cond.static yX7_bears, Cond.code yX7_bears cX7_bears 5 (some .boolean), Cond.methodLink RX7 137 yX7_ahead, Cond.static yX7_ahead, Cond.code yX7_ahead cX7_ahead 2 (some .int), Cond.methodLink RX7 81 yX7_downwards, Cond.static yX7_downwards, Cond.code yX7_downwards cX7_downwards 1 (some .int), Cond.methodLink RX7 85 yX7_across, Cond.static yX7_across, Cond.code yX7_across cX7_across 1 (some .int)]
def wsX7_cross_r2 : List Cond := [Cond.methodLink RX7 88 yX7_beside, Cond.static yX7_beside, Cond.code yX7_beside cX7_beside 5 (some .int)]
def wsX7_cross : List Cond := .code yX7_cross cX7_cross 10 (some .int) :: ((wsX7_cross_r1 ++ wsX7_cross_r2))
def wsX7_readPieces : List Cond := .code yX7_readPieces cX7_readPieces 6 (some .boolean) :: ([.fieldLink RX7 40 "MastPulpitsModel" "pieces" "[I"] ++ wsX70)
def wsX7_cutMore : List Cond := .code yX7_cutMore cX7_cutMore 4 (some .int) :: ([])
def wsX7_ropesOf : List Cond := .code yX7_ropesOf cX7_ropesOf 8 (some .int) :: ([.fieldLink RX7 43 "MastPulpitsModel" "used" "[I", .fieldLink RX7 40 "MastPulpitsModel" "pieces" "[I", .methodLink RX7 238 yX7_cutMore, .static yX7_cutMore, .initialized RX7, .code yX7_cutMore cX7_cutMore 4 (some .int)] ++ wsX70)
def wsX7_mostPieces : List Cond := .code yX7_mostPieces cX7_mostPieces 7 (some .int) :: ([.fieldLink RX7 40 "MastPulpitsModel" "pieces" "[I"] ++ wsX70)
def wsX7_ropes : List Cond := .code yX7_ropes cX7_ropes 5 (some .int) :: ([.constantLong RX7 100 (9), .constantLong RX7 245 (30), .methodLink RX7 71 yX7_in, .static yX7_in, .initialized RX7, .code yX7_in cX7_in 6 (some .boolean), .methodLink RX7 241 yX7_readPieces, .instanceMethod yX7_readPieces, .selects RX7 yX7_readPieces yX7_readPieces, .code yX7_readPieces cX7_readPieces 6 (some .boolean), .fieldLink RX7 40 "MastPulpitsModel" "pieces" "[I", .methodLink RX7 247 yX7_ropesOf, .instanceMethod yX7_ropesOf, .selects RX7 yX7_ropesOf yX7_ropesOf, .code yX7_ropesOf cX7_ropesOf 8 (some .int), .fieldLink RX7 43 "MastPulpitsModel" "used" "[I", .methodLink RX7 238 yX7_cutMore, .static yX7_cutMore, .code yX7_cutMore cX7_cutMore 4 (some .int), .methodLink RX7 250 yX7_mostPieces, .instanceMethod yX7_mostPieces, .selects RX7 yX7_mostPieces yX7_mostPieces, .code yX7_mostPieces cX7_mostPieces 7 (some .int)] ++ wsX70)
def wsX7_look : List Cond := .code yX7_look cX7_look 4 (some .int) :: ([.constantLong RX7 75 (7), .fieldLink RX7 253 "MastPulpitsModel" "sights" "I", .fieldLink RX7 16 "MastPulpitsModel" "sightCell" "[I", .fieldLink RX7 19 "MastPulpitsModel" "sightGlass" "[I", .fieldLink RX7 22 "MastPulpitsModel" "sightSees" "[I", .methodLink RX7 92 yX7_isCell, .static yX7_isCell, .initialized RX7, .code yX7_isCell cX7_isCell 1 (some .boolean), .constantLong RX7 69 (63), .methodLink RX7 71 yX7_in, .static yX7_in, .code yX7_in cX7_in 6 (some .boolean)] ++ wsX70)
def wsX7_forget : List Cond := .code yX7_forget cX7_forget 2 (some .int) :: ([.fieldLink RX7 253 "MastPulpitsModel" "sights" "I"] ++ wsX70)
def wsX7_isFit : List Cond := .code yX7_isFit cX7_isFit 5 (some .boolean) :: ([.fieldLink RX7 253 "MastPulpitsModel" "sights" "I", .fieldLink RX7 16 "MastPulpitsModel" "sightCell" "[I", .fieldLink RX7 19 "MastPulpitsModel" "sightGlass" "[I", .fieldLink RX7 22 "MastPulpitsModel" "sightSees" "[I", .methodLink RX7 149 yX7_far, .static yX7_far, .initialized RX7, .code yX7_far cX7_far 4 (some .int), .methodLink RX7 77 yX7_off, .static yX7_off, .code yX7_off cX7_off 2 (some .int)] ++ wsX70)
def wsX7_findFits : List Cond := .code yX7_findFits cX7_findFits 2 none :: ([.fieldLink RX7 256 "MastPulpitsModel" "fitMany" "I", .fieldLink RX7 46 "MastPulpitsModel" "fit" "[I", .methodLink RX7 259 yX7_isFit, .instanceMethod yX7_isFit, .selects RX7 yX7_isFit yX7_isFit, .initialized RX7, .code yX7_isFit cX7_isFit 5 (some .boolean), .fieldLink RX7 253 "MastPulpitsModel" "sights" "I", .fieldLink RX7 16 "MastPulpitsModel" "sightCell" "[I", .fieldLink RX7 19 "MastPulpitsModel" "sightGlass" "[I", .fieldLink RX7 22 "MastPulpitsModel" "sightSees" "[I", .methodLink RX7 149 yX7_far, .static yX7_far, .code yX7_far cX7_far 4 (some .int), .methodLink RX7 77 yX7_off, .static yX7_off, .code yX7_off cX7_off 2 (some .int)] ++ wsX70)
def wsX7_light : List Cond := .code yX7_light cX7_light 2 (some .int) :: ([.fieldLink RX7 256 "MastPulpitsModel" "fitMany" "I", .fieldLink RX7 46 "MastPulpitsModel" "fit" "[I", .methodLink RX7 262 yX7_findFits, .instanceMethod yX7_findFits, .selects RX7 yX7_findFits yX7_findFits, .initialized RX7, .code yX7_findFits cX7_findFits 2 none, .methodLink RX7 259 yX7_isFit, .instanceMethod yX7_isFit, .selects RX7 yX7_isFit yX7_isFit, .code yX7_isFit cX7_isFit 5 (some .boolean), .fieldLink RX7 253 "MastPulpitsModel" "sights" "I", .fieldLink RX7 16 "MastPulpitsModel" "sightCell" "[I", .fieldLink RX7 19 "MastPulpitsModel" "sightGlass" "[I", .fieldLink RX7 22 "MastPulpitsModel" "sightSees" "[I", .methodLink RX7 149 yX7_far, .static yX7_far, .code yX7_far cX7_far 4 (some .int), .methodLink RX7 77 yX7_off, .static yX7_off, .code yX7_off cX7_off 2 (some .int), .methodLink RX7 71 yX7_in, .static yX7_in, .code yX7_in cX7_in 6 (some .boolean)] ++ wsX70)
def wsX7_mostLeft : List Cond := .code yX7_mostLeft cX7_mostLeft 5 (some .int) :: ([.fieldLink RX7 256 "MastPulpitsModel" "fitMany" "I", .fieldLink RX7 46 "MastPulpitsModel" "fit" "[I", .methodLink RX7 149 yX7_far, .static yX7_far, .initialized RX7, .code yX7_far cX7_far 4 (some .int), .methodLink RX7 77 yX7_off, .static yX7_off, .code yX7_off cX7_off 2 (some .int)] ++ wsX70)
def wsX7_ask_r1 : List Cond := [Cond.fieldLink RX7 256 "MastPulpitsModel" "fitMany" "I", Cond.methodLink RX7 71 yX7_in, Cond.static yX7_in, Cond.initialized RX7, Cond.code yX7_in cX7_in 6 (some .boolean), Cond.methodLink RX7 262 yX7_findFits, Cond.instanceMethod yX7_findFits, Cond.selects RX7 yX7_findFits yX7_findFits, Cond.code yX7_findFits cX7_findFits 2 none, Cond.fieldLink RX7 46 "MastPulpitsModel" "fit" "[I", Cond.methodLink RX7 259 yX7_isFit, Cond.instanceMethod yX7_isFit, Cond.selects RX7 yX7_isFit yX7_isFit, Cond.code yX7_isFit cX7_isFit 5 (some .boolean), Cond.fieldLink RX7 253 "MastPulpitsModel" "sights" "I", Cond.fieldLink RX7 16 "MastPulpitsModel" "sightCell" "[I", Cond.fieldLink RX7 19 "MastPulpitsModel" "sightGlass" "[I", Cond.fieldLink RX7 22 "MastPulpitsModel" "sightSees" "[I", Cond.methodLink RX7 149 yX7_far, Cond.static yX7_far, Cond.code yX7_far cX7_far 4 (some .int), Cond.methodLink RX7 77 yX7_off, Cond.static yX7_off, Cond.code yX7_off cX7_off 2 (some .int)]
def wsX7_ask_r2 : List Cond := [Cond.methodLink RX7 265 yX7_mostLeft, Cond.instanceMethod yX7_mostLeft, Cond.selects RX7 yX7_mostLeft yX7_mostLeft, Cond.code yX7_mostLeft cX7_mostLeft 5 (some .int), Cond.methodLink RX7 268 yX7_less, Cond.static yX7_less, Cond.code yX7_less cX7_less 2 (some .int)]
def wsX7_ask : List Cond := .code yX7_ask cX7_ask 6 (some .int) :: ((wsX7_ask_r1 ++ wsX7_ask_r2) ++ wsX70)
def wsX7_tackTo : List Cond := .code yX7_tackTo cX7_tackTo 2 (some .int) :: ([.methodLink RX7 88 yX7_beside, .static yX7_beside, .initialized RX7, .code yX7_beside cX7_beside 5 (some .int), .constantLong RX7 75 (7), .methodLink RX7 71 yX7_in, .static yX7_in, .code yX7_in cX7_in 6 (some .boolean)])
def wsX7_leastTack : List Cond := .code yX7_leastTack cX7_leastTack 6 (some .int) :: ([.fieldLink RX7 49 "MastPulpitsModel" "wins" "[Z", .methodLink RX7 271 yX7_tackTo, .static yX7_tackTo, .initialized RX7, .code yX7_tackTo cX7_tackTo 2 (some .int), .methodLink RX7 88 yX7_beside, .static yX7_beside, .code yX7_beside cX7_beside 5 (some .int), .constantLong RX7 75 (7), .methodLink RX7 71 yX7_in, .static yX7_in, .code yX7_in cX7_in 6 (some .boolean)] ++ wsX70)
def wsX7_tack : List Cond := .code yX7_tack cX7_tack 5 (some .int) :: ([.fieldLink RX7 49 "MastPulpitsModel" "wins" "[Z", .methodLink RX7 92 yX7_isCell, .static yX7_isCell, .initialized RX7, .code yX7_isCell cX7_isCell 1 (some .boolean), .constantLong RX7 69 (63), .methodLink RX7 71 yX7_in, .static yX7_in, .code yX7_in cX7_in 6 (some .boolean), .methodLink RX7 274 yX7_leastTack, .instanceMethod yX7_leastTack, .selects RX7 yX7_leastTack yX7_leastTack, .code yX7_leastTack cX7_leastTack 6 (some .int), .methodLink RX7 271 yX7_tackTo, .static yX7_tackTo, .code yX7_tackTo cX7_tackTo 2 (some .int), .methodLink RX7 88 yX7_beside, .static yX7_beside, .code yX7_beside cX7_beside 5 (some .int), .constantLong RX7 75 (7)] ++ wsX70)
def wsX7_lowest : List Cond := .code yX7_lowest cX7_lowest 11 (some .long) :: ([])
def wsX7_first : List Cond := .code yX7_first cX7_first 14 (some .long) :: ([.constantLong RX7 277 (10), .constantLong RX7 279 (16), .constantLong RX7 208 (2), .constantLong RX7 281 (-1000000000000000002), .methodLink RX7 71 yX7_in, .static yX7_in, .initialized RX7, .code yX7_in cX7_in 6 (some .boolean), .methodLink RX7 283 yX7_lowest, .static yX7_lowest, .code yX7_lowest cX7_lowest 11 (some .long)])
def wsX7_actBy : List Cond := .code yX7_actBy cX7_actBy 1 (some .int) :: ([])
def wsX7_year_r1 : List Cond := [Cond.constantLong RX7 287 (9999), Cond.constantLong RX7 289 (99), Cond.constantLong RX7 208 (2), Cond.fieldLink RX7 164 "MastPulpitsModel" "silences" "I", Cond.constantLong RX7 291 (75), Cond.constantLong RX7 293 (74), Cond.constantLong RX7 295 (65537), Cond.fieldLink RX7 59 "MastPulpitsModel" "place" "I", Cond.fieldLink RX7 63 "MastPulpitsModel" "hull" "I", Cond.methodLink RX7 71 yX7_in, Cond.static yX7_in, Cond.initialized RX7, Cond.code yX7_in cX7_in 6 (some .boolean), Cond.methodLink RX7 199 yX7_keepNow, Cond.instanceMethod yX7_keepNow, Cond.selects RX7 yX7_keepNow yX7_keepNow, Cond.code yX7_keepNow cX7_keepNow 1 none, Cond.fieldLink RX7 34 "MastPulpitsModel" "had" "[I", Cond.fieldLink RX7 66 "MastPulpitsModel" "who" "I", Cond.fieldLink RX7 146 "MastPulpitsModel" "hours" "I", Cond.fieldLink RX7 104 "MastPulpitsModel" "mist" "I", Cond.fieldLink RX7 143 "MastPulpitsModel" "hour" "I", Cond.methodLink RX7 297 yX7_actBy, Cond.static yX7_actBy]
def wsX7_year_r2 : List Cond := [Cond.code yX7_actBy cX7_actBy 1 (some .int), Cond.methodLink RX7 192 yX7_whyNot, Cond.instanceMethod yX7_whyNot, Cond.selects RX7 yX7_whyNot yX7_whyNot, Cond.code yX7_whyNot cX7_whyNot 3 (some .int), Cond.methodLink RX7 140 yX7_whyNoSail, Cond.instanceMethod yX7_whyNoSail, Cond.selects RX7 yX7_whyNoSail yX7_whyNoSail, Cond.code yX7_whyNoSail cX7_whyNoSail 2 (some .int), Cond.methodLink RX7 137 yX7_ahead, Cond.static yX7_ahead, Cond.code yX7_ahead cX7_ahead 2 (some .int), Cond.methodLink RX7 81 yX7_downwards, Cond.static yX7_downwards, Cond.code yX7_downwards cX7_downwards 1 (some .int), Cond.methodLink RX7 85 yX7_across, Cond.static yX7_across, Cond.code yX7_across cX7_across 1 (some .int), Cond.methodLink RX7 88 yX7_beside, Cond.static yX7_beside, Cond.code yX7_beside cX7_beside 5 (some .int), Cond.constantLong RX7 75 (7), Cond.methodLink RX7 195 yX7_happen, Cond.instanceMethod yX7_happen]
def wsX7_year_r3 : List Cond := [Cond.selects RX7 yX7_happen yX7_happen, Cond.code yX7_happen cX7_happen 3 none, Cond.methodLink RX7 170 yX7_climb, Cond.instanceMethod yX7_climb, Cond.selects RX7 yX7_climb yX7_climb, Cond.code yX7_climb cX7_climb 2 none, Cond.methodLink RX7 174 yX7_sail, Cond.instanceMethod yX7_sail, Cond.selects RX7 yX7_sail yX7_sail, Cond.code yX7_sail cX7_sail 3 none, Cond.fieldLink RX7 7 "MastPulpitsModel" "ground" "[I", Cond.fieldLink RX7 158 "MastPulpitsModel" "strikes" "I", Cond.methodLink RX7 177 yX7_call, Cond.instanceMethod yX7_call, Cond.selects RX7 yX7_call yX7_call, Cond.code yX7_call cX7_call 1 none, Cond.fieldLink RX7 161 "MastPulpitsModel" "calls" "I", Cond.methodLink RX7 167 yX7_seenMany, Cond.instanceMethod yX7_seenMany, Cond.selects RX7 yX7_seenMany yX7_seenMany, Cond.code yX7_seenMany cX7_seenMany 3 (some .int), Cond.methodLink RX7 155 yX7_isSeen, Cond.instanceMethod yX7_isSeen, Cond.selects RX7 yX7_isSeen yX7_isSeen]
def wsX7_year_r4 : List Cond := [Cond.code yX7_isSeen cX7_isSeen 2 (some .boolean), Cond.methodLink RX7 149 yX7_far, Cond.static yX7_far, Cond.code yX7_far cX7_far 4 (some .int), Cond.methodLink RX7 77 yX7_off, Cond.static yX7_off, Cond.code yX7_off cX7_off 2 (some .int), Cond.methodLink RX7 152 yX7_glass, Cond.instanceMethod yX7_glass, Cond.selects RX7 yX7_glass yX7_glass, Cond.code yX7_glass cX7_glass 2 (some .int), Cond.fieldLink RX7 13 "MastPulpitsModel" "eyes" "[I", Cond.methodLink RX7 180 yX7_passHour, Cond.instanceMethod yX7_passHour, Cond.selects RX7 yX7_passHour yX7_passHour, Cond.code yX7_passHour cX7_passHour 1 none, Cond.methodLink RX7 213 yX7_back, Cond.instanceMethod yX7_back, Cond.selects RX7 yX7_back yX7_back, Cond.code yX7_back cX7_back 2 (some .int)]
def wsX7_year : List Cond := .code yX7_year cX7_year 8 (some .int) :: ((wsX7_year_r1 ++ (wsX7_year_r2 ++ (wsX7_year_r3 ++ wsX7_year_r4))) ++ wsX70)
def wsX7_pass : List Cond := .code yX7_pass cX7_pass 3 (some .int) :: ([.fieldLink RX7 300 "MastPulpitsModel" "isWriting" "Z", .fieldLink RX7 53 "MastPulpitsModel" "kept" "[I", .fieldLink RX7 304 "MastPulpitsModel" "keptAt" "I"] ++ wsX70)
def wsX7_passRow : List Cond := .code yX7_passRow cX7_passRow 4 none :: ([.methodLink RX7 307 yX7_pass, .instanceMethod yX7_pass, .selects RX7 yX7_pass yX7_pass, .initialized RX7, .code yX7_pass cX7_pass 3 (some .int), .fieldLink RX7 300 "MastPulpitsModel" "isWriting" "Z", .fieldLink RX7 53 "MastPulpitsModel" "kept" "[I", .fieldLink RX7 304 "MastPulpitsModel" "keptAt" "I"] ++ wsX70)
def wsX7_passAll : List Cond := .code yX7_passAll cX7_passAll 1 none :: ([.fieldLink RX7 59 "MastPulpitsModel" "place" "I", .fieldLink RX7 63 "MastPulpitsModel" "hull" "I", .fieldLink RX7 66 "MastPulpitsModel" "who" "I", .fieldLink RX7 146 "MastPulpitsModel" "hours" "I", .fieldLink RX7 104 "MastPulpitsModel" "mist" "I", .fieldLink RX7 143 "MastPulpitsModel" "hour" "I", .fieldLink RX7 253 "MastPulpitsModel" "sights" "I", .fieldLink RX7 7 "MastPulpitsModel" "ground" "[I", .fieldLink RX7 13 "MastPulpitsModel" "eyes" "[I", .fieldLink RX7 16 "MastPulpitsModel" "sightCell" "[I", .fieldLink RX7 19 "MastPulpitsModel" "sightGlass" "[I", .fieldLink RX7 22 "MastPulpitsModel" "sightSees" "[I", .methodLink RX7 307 yX7_pass, .instanceMethod yX7_pass, .selects RX7 yX7_pass yX7_pass, .initialized RX7, .code yX7_pass cX7_pass 3 (some .int), .fieldLink RX7 300 "MastPulpitsModel" "isWriting" "Z", .fieldLink RX7 53 "MastPulpitsModel" "kept" "[I", .fieldLink RX7 304 "MastPulpitsModel" "keptAt" "I", .methodLink RX7 310 yX7_passRow, .instanceMethod yX7_passRow, .selects RX7 yX7_passRow yX7_passRow, .code yX7_passRow cX7_passRow 4 none] ++ wsX70)
def wsX7_image_r1 : List Cond := [Cond.fieldLink RX7 304 "MastPulpitsModel" "keptAt" "I", Cond.fieldLink RX7 300 "MastPulpitsModel" "isWriting" "Z", Cond.fieldLink RX7 56 "MastPulpitsModel" "isKept" "[Z", Cond.methodLink RX7 71 yX7_in, Cond.static yX7_in, Cond.initialized RX7, Cond.code yX7_in cX7_in 6 (some .boolean), Cond.methodLink RX7 314 yX7_passAll, Cond.instanceMethod yX7_passAll, Cond.selects RX7 yX7_passAll yX7_passAll, Cond.code yX7_passAll cX7_passAll 1 none, Cond.fieldLink RX7 59 "MastPulpitsModel" "place" "I", Cond.fieldLink RX7 63 "MastPulpitsModel" "hull" "I", Cond.fieldLink RX7 66 "MastPulpitsModel" "who" "I", Cond.fieldLink RX7 146 "MastPulpitsModel" "hours" "I", Cond.fieldLink RX7 104 "MastPulpitsModel" "mist" "I", Cond.fieldLink RX7 143 "MastPulpitsModel" "hour" "I", Cond.fieldLink RX7 253 "MastPulpitsModel" "sights" "I", Cond.fieldLink RX7 7 "MastPulpitsModel" "ground" "[I", Cond.fieldLink RX7 13 "MastPulpitsModel" "eyes" "[I", Cond.fieldLink RX7 16 "MastPulpitsModel" "sightCell" "[I", Cond.fieldLink RX7 19 "MastPulpitsModel" "sightGlass" "[I", Cond.fieldLink RX7 22 "MastPulpitsModel" "sightSees" "[I", Cond.methodLink RX7 307 yX7_pass]
def wsX7_image_r2 : List Cond := [Cond.instanceMethod yX7_pass, Cond.selects RX7 yX7_pass yX7_pass, Cond.code yX7_pass cX7_pass 3 (some .int), Cond.fieldLink RX7 53 "MastPulpitsModel" "kept" "[I", Cond.methodLink RX7 310 yX7_passRow, Cond.instanceMethod yX7_passRow, Cond.selects RX7 yX7_passRow yX7_passRow, Cond.code yX7_passRow cX7_passRow 4 none]
def wsX7_image : List Cond := .code yX7_image cX7_image 2 (some .int) :: ((wsX7_image_r1 ++ wsX7_image_r2) ++ wsX70)
def wsX7_restore_r1 : List Cond := [Cond.fieldLink RX7 56 "MastPulpitsModel" "isKept" "[Z", Cond.fieldLink RX7 304 "MastPulpitsModel" "keptAt" "I", Cond.fieldLink RX7 300 "MastPulpitsModel" "isWriting" "Z", Cond.methodLink RX7 71 yX7_in, Cond.static yX7_in, Cond.initialized RX7, Cond.code yX7_in cX7_in 6 (some .boolean), Cond.methodLink RX7 314 yX7_passAll, Cond.instanceMethod yX7_passAll, Cond.selects RX7 yX7_passAll yX7_passAll, Cond.code yX7_passAll cX7_passAll 1 none, Cond.fieldLink RX7 59 "MastPulpitsModel" "place" "I", Cond.fieldLink RX7 63 "MastPulpitsModel" "hull" "I", Cond.fieldLink RX7 66 "MastPulpitsModel" "who" "I", Cond.fieldLink RX7 146 "MastPulpitsModel" "hours" "I", Cond.fieldLink RX7 104 "MastPulpitsModel" "mist" "I", Cond.fieldLink RX7 143 "MastPulpitsModel" "hour" "I", Cond.fieldLink RX7 253 "MastPulpitsModel" "sights" "I", Cond.fieldLink RX7 7 "MastPulpitsModel" "ground" "[I", Cond.fieldLink RX7 13 "MastPulpitsModel" "eyes" "[I", Cond.fieldLink RX7 16 "MastPulpitsModel" "sightCell" "[I", Cond.fieldLink RX7 19 "MastPulpitsModel" "sightGlass" "[I", Cond.fieldLink RX7 22 "MastPulpitsModel" "sightSees" "[I", Cond.methodLink RX7 307 yX7_pass]
def wsX7_restore_r2 : List Cond := [Cond.instanceMethod yX7_pass, Cond.selects RX7 yX7_pass yX7_pass, Cond.code yX7_pass cX7_pass 3 (some .int), Cond.fieldLink RX7 53 "MastPulpitsModel" "kept" "[I", Cond.methodLink RX7 310 yX7_passRow, Cond.instanceMethod yX7_passRow, Cond.selects RX7 yX7_passRow yX7_passRow, Cond.code yX7_passRow cX7_passRow 4 none]
def wsX7_restore : List Cond := .code yX7_restore cX7_restore 2 (some .int) :: ((wsX7_restore_r1 ++ wsX7_restore_r2) ++ wsX70)
def wsX7_told_r1 : List Cond := [Cond.constantLong RX7 317 (100), Cond.constantLong RX7 319 (163), Cond.fieldLink RX7 7 "MastPulpitsModel" "ground" "[I", Cond.constantLong RX7 277 (10), Cond.constantLong RX7 321 (15), Cond.fieldLink RX7 13 "MastPulpitsModel" "eyes" "[I", Cond.fieldLink RX7 111 "MastPulpitsModel" "padMany" "I", Cond.fieldLink RX7 143 "MastPulpitsModel" "hour" "I", Cond.fieldLink RX7 253 "MastPulpitsModel" "sights" "I", Cond.constantLong RX7 208 (2), Cond.constantLong RX7 323 (6), Cond.methodLink RX7 71 yX7_in, Cond.static yX7_in, Cond.initialized RX7, Cond.code yX7_in cX7_in 6 (some .boolean), Cond.methodLink RX7 96 yX7_landMany, Cond.instanceMethod yX7_landMany, Cond.selects RX7 yX7_landMany yX7_landMany, Cond.code yX7_landMany cX7_landMany 3 (some .int), Cond.methodLink RX7 216 yX7_ofShip, Cond.instanceMethod yX7_ofShip, Cond.selects RX7 yX7_ofShip yX7_ofShip, Cond.code yX7_ofShip cX7_ofShip 2 (some .int), Cond.fieldLink RX7 59 "MastPulpitsModel" "place" "I"]
def wsX7_told_r2 : List Cond := [Cond.fieldLink RX7 63 "MastPulpitsModel" "hull" "I", Cond.fieldLink RX7 66 "MastPulpitsModel" "who" "I", Cond.fieldLink RX7 146 "MastPulpitsModel" "hours" "I", Cond.fieldLink RX7 104 "MastPulpitsModel" "mist" "I"]
def wsX7_told : List Cond := .code yX7_told cX7_told 2 (some .int) :: ((wsX7_told_r1 ++ wsX7_told_r2) ++ wsX70)
def wsJ9_max_7cf53 : List Cond := .code yJ9_max_7cf53 cJ9_max_7cf53 2 (some .int) :: ([])
def wsJ9_min_7cf53 : List Cond := .code yJ9_min_7cf53 cJ9_min_7cf53 2 (some .int) :: ([])
def wsL_law_r1 : List Cond := [Cond.classLink RL 7 RX6, Cond.instantiable RX6 7, Cond.initialized RX6, Cond.classLink RL 10 RX7, Cond.instantiable RX7 34, Cond.initialized RX7, Cond.methodLink RL 9 yX6_init, Cond.instanceMethod yX6_init, Cond.code yX6_init cX6_init 1 none, Cond.methodLink RX6 1 objectInit, Cond.instanceMethod objectInit, Cond.code objectInit ⟨#[0xb1]⟩ 1 none, Cond.classLink RX6 7 RX4, Cond.instantiable RX4 10, Cond.initialized RX4, Cond.fieldLink RX6 10 "MastPulpits" "sea" "LMastPulpits$Sea;", Cond.classLink RX6 16 RX2, Cond.instantiable RX2 2, Cond.initialized RX2, Cond.fieldLink RX6 19 "MastPulpits" "pad" "LMastPulpits$Pad;", Cond.classLink RX6 23 RX5, Cond.instantiable RX5 8, Cond.initialized RX5, Cond.fieldLink RX6 26 "MastPulpits" "voyage" "LMastPulpits$Voyage;"]
def wsL_law_r2 : List Cond := [Cond.classLink RX6 30 RX3, Cond.instantiable RX3 3, Cond.initialized RX3, Cond.fieldLink RX6 33 "MastPulpits" "cutter" "LMastPulpits$RopeCutter;", Cond.classLink RX6 37 RX1, Cond.instantiable RX1 4, Cond.initialized RX1, Cond.fieldLink RX6 40 "MastPulpits" "lookouts" "LMastPulpits$Lookouts;", Cond.fieldLink RX6 44 "MastPulpits" "images" "[LMastPulpits$Sea;", Cond.arrayClass .boolean, Cond.fieldLink RX6 48 "MastPulpits" "kept" "[Z", Cond.instanceMethod yX4_init, Cond.code yX4_init cX4_init 1 none, Cond.methodLink RX4 3 objectInit, Cond.fieldLink RX4 9 "MastPulpits$Sea" "lands" "J", Cond.fieldLink RX4 15 "MastPulpits$Sea" "shipCell" "I", Cond.fieldLink RX4 19 "MastPulpits$Sea" "shipHull" "I", Cond.fieldLink RX4 22 "MastPulpits$Sea" "up" "I", Cond.fieldLink RX4 25 "MastPulpits$Sea" "hoursUp" "I", Cond.fieldLink RX4 28 "MastPulpits$Sea" "fogNow" "I", Cond.fieldLink RX4 31 "MastPulpits$Sea" "hourNow" "I", Cond.fieldLink RX4 34 "MastPulpits$Sea" "sights" "I", Cond.constantLong RX4 39 (-1), Cond.fieldLink RX4 41 "MastPulpits$Sea" "fitting" "J"]
def wsL_law_r3 : List Cond := [Cond.arrayClass .int, Cond.fieldLink RX4 44 "MastPulpits$Sea" "eyes" "[I", Cond.instanceMethod yX2_init, Cond.code yX2_init cX2_init 1 none, Cond.methodLink RX2 3 objectInit, Cond.fieldLink RX2 9 "MastPulpits$Pad" "signs" "[I", Cond.fieldLink RX2 15 "MastPulpits$Pad" "length" "I", Cond.instanceMethod yX5_init, Cond.code yX5_init cX5_init 1 none, Cond.methodLink RX5 3 objectInit, Cond.classLink RX5 9 RX4, Cond.fieldLink RX5 12 "MastPulpits$Voyage" "seaThen" "LMastPulpits$Sea;", Cond.instanceMethod yX3_init, Cond.code yX3_init cX3_init 1 none, Cond.methodLink RX3 3 objectInit, Cond.fieldLink RX3 11 "MastPulpits$RopeCutter" "pieces" "[I", Cond.fieldLink RX3 15 "MastPulpits$RopeCutter" "cutOfSet" "[I", Cond.fieldLink RX3 18 "MastPulpits$RopeCutter" "many" "I", Cond.instanceMethod yX1_init, Cond.code yX1_init cX1_init 1 none, Cond.methodLink RX1 1 objectInit, Cond.methodLink RL 12 yX7_init, Cond.instanceMethod yX7_init, Cond.code yX7_init cX7_init 2 none]
def wsL_law_r4 : List Cond := [Cond.methodLink RX7 1 objectInit, Cond.fieldLink RX7 7 "MastPulpitsModel" "ground" "[I", Cond.fieldLink RX7 13 "MastPulpitsModel" "eyes" "[I", Cond.fieldLink RX7 16 "MastPulpitsModel" "sightCell" "[I", Cond.fieldLink RX7 19 "MastPulpitsModel" "sightGlass" "[I", Cond.fieldLink RX7 22 "MastPulpitsModel" "sightSees" "[I", Cond.fieldLink RX7 25 "MastPulpitsModel" "pad" "[I", Cond.fieldLink RX7 28 "MastPulpitsModel" "act" "[I", Cond.fieldLink RX7 31 "MastPulpitsModel" "much" "[I", Cond.fieldLink RX7 34 "MastPulpitsModel" "had" "[I", Cond.fieldLink RX7 37 "MastPulpitsModel" "steps" "[I", Cond.fieldLink RX7 40 "MastPulpitsModel" "pieces" "[I", Cond.fieldLink RX7 43 "MastPulpitsModel" "used" "[I", Cond.fieldLink RX7 46 "MastPulpitsModel" "fit" "[I", Cond.fieldLink RX7 49 "MastPulpitsModel" "wins" "[Z", Cond.fieldLink RX7 53 "MastPulpitsModel" "kept" "[I", Cond.fieldLink RX7 56 "MastPulpitsModel" "isKept" "[Z", Cond.fieldLink RX7 59 "MastPulpitsModel" "place" "I", Cond.fieldLink RX7 63 "MastPulpitsModel" "hull" "I", Cond.fieldLink RX7 66 "MastPulpitsModel" "who" "I", Cond.methodLink RL 13 yX6_land, Cond.instanceMethod yX6_land, Cond.selects RX6 yX6_land yX6_land, Cond.code yX6_land cX6_land 5 (some .int)]
def wsL_law_r5 : List Cond := [Cond.fieldLink RX6 62 "MastPulpits$Sea" "shipCell" "I", Cond.fieldLink RX6 70 "MastPulpits$Sea" "lands" "J", Cond.constantLong RX6 74 (-1), Cond.methodLink RX6 52 yX0_isCell, Cond.static yX0_isCell, Cond.initialized RX0, Cond.code yX0_isCell cX0_isCell 1 (some .boolean), Cond.methodLink RX6 58 yX6_within, Cond.static yX6_within, Cond.code yX6_within cX6_within 3 (some .boolean), Cond.methodLink RX6 66 yX0_only, Cond.static yX0_only, Cond.code yX0_only cX0_only 1 (some .long), Cond.methodLink RX6 76 yJ13_bitCount_95d88, Cond.static yJ13_bitCount_95d88, Cond.initialized RJ13, Cond.code yJ13_bitCount_95d88 cJ13_bitCount_95d88 2 (some .int), Cond.constantLong RJ13 314 (6148914691236517205), Cond.constantLong RJ13 316 (3689348814741910323), Cond.constantLong RJ13 318 (1085102592571150095), Cond.methodLink RL 17 yX7_land, Cond.instanceMethod yX7_land, Cond.selects RX7 yX7_land yX7_land, Cond.code yX7_land cX7_land 3 (some .int)]
def wsL_law_r6 : List Cond := [Cond.methodLink RX7 92 yX7_isCell, Cond.static yX7_isCell, Cond.code yX7_isCell cX7_isCell 1 (some .boolean), Cond.constantLong RX7 69 (63), Cond.methodLink RX7 71 yX7_in, Cond.static yX7_in, Cond.code yX7_in cX7_in 6 (some .boolean), Cond.methodLink RX7 96 yX7_landMany, Cond.instanceMethod yX7_landMany, Cond.selects RX7 yX7_landMany yX7_landMany, Cond.code yX7_landMany cX7_landMany 3 (some .int), Cond.methodLink RL 18 yX6_ship, Cond.instanceMethod yX6_ship, Cond.selects RX6 yX6_ship yX6_ship, Cond.code yX6_ship cX6_ship 4 (some .int), Cond.fieldLink RX6 85 "MastPulpits$Sea" "shipHull" "I", Cond.methodLink RX6 82 yX4_isLand, Cond.instanceMethod yX4_isLand, Cond.selects RX4 yX4_isLand yX4_isLand, Cond.code yX4_isLand cX4_isLand 2 (some .boolean), Cond.methodLink RX4 48 yX0_holds, Cond.static yX0_holds, Cond.code yX0_holds cX0_holds 3 (some .boolean), Cond.methodLink RL 21 yX7_ship]
def wsL_law_r7 : List Cond := [Cond.instanceMethod yX7_ship, Cond.selects RX7 yX7_ship yX7_ship, Cond.code yX7_ship cX7_ship 4 (some .int), Cond.constantLong RX7 100 (9), Cond.methodLink RL 22 yX6_watcher, Cond.instanceMethod yX6_watcher, Cond.selects RX6 yX6_watcher yX6_watcher, Cond.code yX6_watcher cX6_watcher 4 (some .int), Cond.methodLink RX6 88 yX4_isWatcher, Cond.instanceMethod yX4_isWatcher, Cond.selects RX4 yX4_isWatcher yX4_isWatcher, Cond.code yX4_isWatcher cX4_isWatcher 2 (some .boolean), Cond.methodLink RX6 91 yX4_eyesOf, Cond.instanceMethod yX4_eyesOf, Cond.selects RX4 yX4_eyesOf yX4_eyesOf, Cond.code yX4_eyesOf cX4_eyesOf 2 (some .int), Cond.methodLink RX6 95 yX4_giveEyes, Cond.instanceMethod yX4_giveEyes, Cond.selects RX4 yX4_giveEyes yX4_giveEyes, Cond.code yX4_giveEyes cX4_giveEyes 3 none, Cond.methodLink RL 25 yX7_watcher, Cond.instanceMethod yX7_watcher, Cond.selects RX7 yX7_watcher yX7_watcher, Cond.code yX7_watcher cX7_watcher 4 (some .int)]
def wsL_law_r8 : List Cond := [Cond.constantLong RX7 102 (5), Cond.constantLong RX7 75 (7), Cond.methodLink RL 26 yX6_fog, Cond.instanceMethod yX6_fog, Cond.selects RX6 yX6_fog yX6_fog, Cond.code yX6_fog cX6_fog 3 (some .int), Cond.fieldLink RX6 99 "MastPulpits$Sea" "fogNow" "I", Cond.methodLink RL 30 yX7_fog, Cond.instanceMethod yX7_fog, Cond.selects RX7 yX7_fog yX7_fog, Cond.code yX7_fog cX7_fog 3 (some .int), Cond.fieldLink RX7 104 "MastPulpitsModel" "mist" "I", Cond.methodLink RL 31 yX6_say, Cond.instanceMethod yX6_say, Cond.selects RX6 yX6_say yX6_say, Cond.code yX6_say cX6_say 2 (some .int), Cond.fieldLink RX6 105 "MastPulpits$Pad" "length" "I", Cond.methodLink RX6 102 yX2_write, Cond.instanceMethod yX2_write, Cond.selects RX2 yX2_write yX2_write, Cond.code yX2_write cX2_write 2 (some .boolean), Cond.methodLink RL 34 yX7_say, Cond.instanceMethod yX7_say, Cond.selects RX7 yX7_say yX7_say]
def wsL_law_r9 : List Cond := [Cond.code yX7_say cX7_say 2 (some .int), Cond.constantLong RX7 107 (33), Cond.constantLong RX7 109 (126), Cond.fieldLink RX7 111 "MastPulpitsModel" "padMany" "I", Cond.methodLink RL 35 yX6_wipe, Cond.instanceMethod yX6_wipe, Cond.selects RX6 yX6_wipe yX6_wipe, Cond.code yX6_wipe cX6_wipe 2 (some .int), Cond.methodLink RL 39 yX7_wipe, Cond.instanceMethod yX7_wipe, Cond.selects RX7 yX7_wipe yX7_wipe, Cond.code yX7_wipe cX7_wipe 2 (some .int), Cond.methodLink RL 40 yX6_fault, Cond.instanceMethod yX6_fault, Cond.selects RX6 yX6_fault yX6_fault, Cond.code yX6_fault cX6_fault 1 (some .int), Cond.methodLink RX6 108 yX2_firstFault, Cond.instanceMethod yX2_firstFault, Cond.selects RX2 yX2_firstFault yX2_firstFault, Cond.code yX2_firstFault cX2_firstFault 4 (some .int), Cond.methodLink RX2 30 yX2_actAt, Cond.instanceMethod yX2_actAt, Cond.selects RX2 yX2_actAt yX2_actAt, Cond.code yX2_actAt cX2_actAt 4 (some .int)]
def wsL_law_r10 : List Cond := [Cond.methodLink RX2 19 yX2_signAt, Cond.instanceMethod yX2_signAt, Cond.selects RX2 yX2_signAt yX2_signAt, Cond.code yX2_signAt cX2_signAt 2 (some .int), Cond.methodLink RX2 23 yX2_isLetter, Cond.static yX2_isLetter, Cond.code yX2_isLetter cX2_isLetter 1 (some .boolean), Cond.methodLink RX2 27 yX2_isDigit, Cond.static yX2_isDigit, Cond.code yX2_isDigit cX2_isDigit 1 (some .boolean), Cond.methodLink RX2 33 yX2_needsASecond, Cond.static yX2_needsASecond, Cond.code yX2_needsASecond cX2_needsASecond 1 (some .boolean), Cond.methodLink RX2 36 yX2_signsOf, Cond.static yX2_signsOf, Cond.code yX2_signsOf cX2_signsOf 1 (some .int), Cond.methodLink RL 43 yX7_fault, Cond.instanceMethod yX7_fault, Cond.selects RX7 yX7_fault yX7_fault, Cond.code yX7_fault cX7_fault 3 (some .int), Cond.fieldLink RX7 114 "MastPulpitsModel" "acts" "I", Cond.methodLink RX7 134 yX7_readOn, Cond.instanceMethod yX7_readOn, Cond.selects RX7 yX7_readOn yX7_readOn]
def wsL_law_r11 : List Cond := [Cond.code yX7_readOn cX7_readOn 3 (some .int), Cond.methodLink RX7 128 yX7_begin, Cond.instanceMethod yX7_begin, Cond.selects RX7 yX7_begin yX7_begin, Cond.code yX7_begin cX7_begin 3 (some .int), Cond.constantLong RX7 117 (65), Cond.constantLong RX7 119 (70), Cond.methodLink RX7 121 yX7_close, Cond.instanceMethod yX7_close, Cond.selects RX7 yX7_close yX7_close, Cond.code yX7_close cX7_close 2 (some .int), Cond.methodLink RX7 131 yX7_digit, Cond.instanceMethod yX7_digit, Cond.selects RX7 yX7_digit yX7_digit, Cond.code yX7_digit cX7_digit 3 (some .int), Cond.constantLong RX7 124 (48), Cond.constantLong RX7 126 (55), Cond.methodLink RL 44 yX6_judge, Cond.instanceMethod yX6_judge, Cond.selects RX6 yX6_judge yX6_judge, Cond.code yX6_judge cX6_judge 3 (some .int), Cond.fieldLink RX6 116 "MastPulpits$Voyage" "stoppedAt" "I", Cond.fieldLink RX6 119 "MastPulpits$Voyage" "reason" "I", Cond.fieldLink RX6 122 "MastPulpits$Voyage" "strikes" "I"]
def wsL_law_r12 : List Cond := [Cond.methodLink RX6 112 yX6_sailTheText, Cond.instanceMethod yX6_sailTheText, Cond.selects RX6 yX6_sailTheText yX6_sailTheText, Cond.code yX6_sailTheText cX6_sailTheText 4 (some .int), Cond.methodLink RX6 220 yX5_sailByText, Cond.instanceMethod yX5_sailByText, Cond.selects RX5 yX5_sailByText yX5_sailByText, Cond.code yX5_sailByText cX5_sailByText 6 none, Cond.fieldLink RX5 47 "MastPulpits$Pad" "length" "I", Cond.fieldLink RX5 29 "MastPulpits$Voyage" "reason" "I", Cond.fieldLink RX5 22 "MastPulpits$Voyage" "acts" "I", Cond.fieldLink RX5 26 "MastPulpits$Voyage" "stoppedAt" "I", Cond.methodLink RX5 44 yX5_setOut, Cond.instanceMethod yX5_setOut, Cond.selects RX5 yX5_setOut yX5_setOut, Cond.code yX5_setOut cX5_setOut 2 none, Cond.fieldLink RX5 32 "MastPulpits$Voyage" "strikes" "I", Cond.fieldLink RX5 35 "MastPulpits$Voyage" "calls" "I", Cond.fieldLink RX5 38 "MastPulpits$Voyage" "silences" "I", Cond.fieldLink RX5 41 "MastPulpits$Voyage" "firstSilence" "I", Cond.methodLink RX5 18 yX4_takeOver, Cond.instanceMethod yX4_takeOver, Cond.selects RX4 yX4_takeOver yX4_takeOver, Cond.code yX4_takeOver cX4_takeOver 3 none]
def wsL_law_r13 : List Cond := [Cond.methodLink RX5 52 yX2_actAt, Cond.methodLink RX5 56 yX2_withAt, Cond.instanceMethod yX2_withAt, Cond.selects RX2 yX2_withAt yX2_withAt, Cond.code yX2_withAt cX2_withAt 3 (some .int), Cond.methodLink RX5 59 yX5_tryAct, Cond.instanceMethod yX5_tryAct, Cond.selects RX5 yX5_tryAct yX5_tryAct, Cond.code yX5_tryAct cX5_tryAct 5 (some .int), Cond.fieldLink RX5 70 "MastPulpits$Sea" "shipCell" "I", Cond.methodLink RX5 73 yX0_next, Cond.static yX0_next, Cond.code yX0_next cX0_next 2 (some .int), Cond.fieldLink RX0 21 "MastPulpits$Chart" "ROWS_OF_WAY" "[I", Cond.fieldLink RX0 25 "MastPulpits$Chart" "COLUMNS_OF_WAY" "[I", Cond.methodLink RX0 17 yX0_isCell, Cond.methodLink RX0 28 yX0_moved, Cond.static yX0_moved, Cond.code yX0_moved cX0_moved 6 (some .int), Cond.methodLink RX5 78 yX4_reasonAgainst, Cond.instanceMethod yX4_reasonAgainst, Cond.selects RX4 yX4_reasonAgainst yX4_reasonAgainst, Cond.code yX4_reasonAgainst cX4_reasonAgainst 4 (some .int), Cond.methodLink RX4 77 yX4_reasonAgainstSailing]
def wsL_law_r14 : List Cond := [Cond.instanceMethod yX4_reasonAgainstSailing, Cond.selects RX4 yX4_reasonAgainstSailing yX4_reasonAgainstSailing, Cond.code yX4_reasonAgainstSailing cX4_reasonAgainstSailing 2 (some .int), Cond.methodLink RX5 82 yX4_sighted, Cond.instanceMethod yX4_sighted, Cond.selects RX4 yX4_sighted yX4_sighted, Cond.code yX4_sighted cX4_sighted 1 (some .long), Cond.methodLink RX4 58 yX4_glass, Cond.instanceMethod yX4_glass, Cond.selects RX4 yX4_glass yX4_glass, Cond.code yX4_glass cX4_glass 3 (some .int), Cond.methodLink RX4 52 Lib.Math.max.name, Cond.static Lib.Math.max.name, Cond.initialized "java/lang/Math", Cond.code Lib.Math.max.name Lib.Math.max.code 2 (some .int), Cond.methodLink RX4 62 yX0_around, Cond.static yX0_around, Cond.code yX0_around cX0_around 12 (some .long), Cond.methodLink RX0 40 Lib.Math.max.name, Cond.methodLink RX0 45 Lib.Math.min.name, Cond.static Lib.Math.min.name, Cond.code Lib.Math.min.name Lib.Math.min.code 2 (some .int), Cond.constantLong RX0 48 (-1), Cond.constantLong RX0 50 (255)]
def wsL_law_r15 : List Cond := [Cond.constantLong RX0 52 (72340172838076673), Cond.methodLink RX5 86 yX5_countCall, Cond.instanceMethod yX5_countCall, Cond.selects RX5 yX5_countCall yX5_countCall, Cond.code yX5_countCall cX5_countCall 3 none, Cond.methodLink RX5 90 yX4_isLand, Cond.methodLink RX5 94 yX4_perform, Cond.instanceMethod yX4_perform, Cond.selects RX4 yX4_perform yX4_perform, Cond.code yX4_perform cX4_perform 4 none, Cond.methodLink RX4 81 yX4_goOrStrike, Cond.instanceMethod yX4_goOrStrike, Cond.selects RX4 yX4_goOrStrike yX4_goOrStrike, Cond.code yX4_goOrStrike cX4_goOrStrike 2 none, Cond.methodLink RX4 85 yX4_passAnHour, Cond.instanceMethod yX4_passAnHour, Cond.selects RX4 yX4_passAnHour yX4_passAnHour, Cond.code yX4_passAnHour cX4_passAnHour 1 none, Cond.methodLink RX5 63 yX2_signsOf, Cond.methodLink RL 47 yX7_judge, Cond.instanceMethod yX7_judge, Cond.selects RX7 yX7_judge yX7_judge, Cond.code yX7_judge cX7_judge 3 (some .int), Cond.constantLong RX7 208 (2)]
def wsL_law_r16 : List Cond := [Cond.fieldLink RX7 183 "MastPulpitsModel" "badAct" "I", Cond.fieldLink RX7 186 "MastPulpitsModel" "badWhy" "I", Cond.fieldLink RX7 158 "MastPulpitsModel" "strikes" "I", Cond.methodLink RX7 210 yX7_refusal, Cond.instanceMethod yX7_refusal, Cond.selects RX7 yX7_refusal yX7_refusal, Cond.code yX7_refusal cX7_refusal 1 (some .int), Cond.methodLink RX7 199 yX7_keepNow, Cond.instanceMethod yX7_keepNow, Cond.selects RX7 yX7_keepNow yX7_keepNow, Cond.code yX7_keepNow cX7_keepNow 1 none, Cond.fieldLink RX7 146 "MastPulpitsModel" "hours" "I", Cond.fieldLink RX7 143 "MastPulpitsModel" "hour" "I", Cond.methodLink RX7 202 yX7_fault, Cond.methodLink RX7 205 yX7_goVoyages, Cond.instanceMethod yX7_goVoyages, Cond.selects RX7 yX7_goVoyages yX7_goVoyages, Cond.code yX7_goVoyages cX7_goVoyages 3 none, Cond.fieldLink RX7 189 "MastPulpitsModel" "silentAct" "I", Cond.fieldLink RX7 161 "MastPulpitsModel" "calls" "I", Cond.fieldLink RX7 164 "MastPulpitsModel" "silences" "I", Cond.methodLink RX7 192 yX7_whyNot, Cond.instanceMethod yX7_whyNot, Cond.selects RX7 yX7_whyNot yX7_whyNot]
def wsL_law_r17 : List Cond := [Cond.code yX7_whyNot cX7_whyNot 3 (some .int), Cond.methodLink RX7 140 yX7_whyNoSail, Cond.instanceMethod yX7_whyNoSail, Cond.selects RX7 yX7_whyNoSail yX7_whyNoSail, Cond.code yX7_whyNoSail cX7_whyNoSail 2 (some .int), Cond.methodLink RX7 137 yX7_ahead, Cond.static yX7_ahead, Cond.code yX7_ahead cX7_ahead 2 (some .int), Cond.methodLink RX7 81 yX7_downwards, Cond.static yX7_downwards, Cond.code yX7_downwards cX7_downwards 1 (some .int), Cond.methodLink RX7 85 yX7_across, Cond.static yX7_across, Cond.code yX7_across cX7_across 1 (some .int), Cond.methodLink RX7 88 yX7_beside, Cond.static yX7_beside, Cond.code yX7_beside cX7_beside 5 (some .int), Cond.methodLink RX7 195 yX7_happen, Cond.instanceMethod yX7_happen, Cond.selects RX7 yX7_happen yX7_happen, Cond.code yX7_happen cX7_happen 3 none, Cond.methodLink RX7 170 yX7_climb, Cond.instanceMethod yX7_climb, Cond.selects RX7 yX7_climb yX7_climb]
def wsL_law_r18 : List Cond := [Cond.code yX7_climb cX7_climb 2 none, Cond.methodLink RX7 174 yX7_sail, Cond.instanceMethod yX7_sail, Cond.selects RX7 yX7_sail yX7_sail, Cond.code yX7_sail cX7_sail 3 none, Cond.methodLink RX7 177 yX7_call, Cond.instanceMethod yX7_call, Cond.selects RX7 yX7_call yX7_call, Cond.code yX7_call cX7_call 1 none, Cond.methodLink RX7 167 yX7_seenMany, Cond.instanceMethod yX7_seenMany, Cond.selects RX7 yX7_seenMany yX7_seenMany, Cond.code yX7_seenMany cX7_seenMany 3 (some .int), Cond.methodLink RX7 155 yX7_isSeen, Cond.instanceMethod yX7_isSeen, Cond.selects RX7 yX7_isSeen yX7_isSeen, Cond.code yX7_isSeen cX7_isSeen 2 (some .boolean), Cond.methodLink RX7 149 yX7_far, Cond.static yX7_far, Cond.code yX7_far cX7_far 4 (some .int), Cond.methodLink RX7 77 yX7_off, Cond.static yX7_off, Cond.code yX7_off cX7_off 2 (some .int), Cond.methodLink RX7 152 yX7_glass]
def wsL_law_r19 : List Cond := [Cond.instanceMethod yX7_glass, Cond.selects RX7 yX7_glass yX7_glass, Cond.code yX7_glass cX7_glass 2 (some .int), Cond.methodLink RX7 180 yX7_passHour, Cond.instanceMethod yX7_passHour, Cond.selects RX7 yX7_passHour yX7_passHour, Cond.code yX7_passHour cX7_passHour 1 none, Cond.methodLink RX7 213 yX7_back, Cond.instanceMethod yX7_back, Cond.selects RX7 yX7_back yX7_back, Cond.code yX7_back cX7_back 2 (some .int), Cond.methodLink RL 48 yX6_behind, Cond.instanceMethod yX6_behind, Cond.selects RX6 yX6_behind yX6_behind, Cond.code yX6_behind cX6_behind 3 (some .int), Cond.fieldLink RX6 125 "MastPulpits$Voyage" "seaThen" "LMastPulpits$Sea;", Cond.methodLink RX6 128 yX6_shipAndWatch, Cond.static yX6_shipAndWatch, Cond.code yX6_shipAndWatch cX6_shipAndWatch 2 (some .int), Cond.fieldLink RX6 132 "MastPulpits$Sea" "up" "I", Cond.fieldLink RX6 224 "MastPulpits$Sea" "hoursUp" "I", Cond.fieldLink RX6 227 "MastPulpits$Sea" "hourNow" "I", Cond.methodLink RL 51 yX7_behind, Cond.instanceMethod yX7_behind]
def wsL_law_r20 : List Cond := [Cond.selects RX7 yX7_behind yX7_behind, Cond.code yX7_behind cX7_behind 3 (some .int), Cond.methodLink RX7 216 yX7_ofShip, Cond.instanceMethod yX7_ofShip, Cond.selects RX7 yX7_ofShip yX7_ofShip, Cond.code yX7_ofShip cX7_ofShip 2 (some .int), Cond.methodLink RL 52 yX6_seen, Cond.instanceMethod yX6_seen, Cond.selects RX6 yX6_seen yX6_seen, Cond.code yX6_seen cX6_seen 4 (some .int), Cond.methodLink RX6 135 yX4_sighted, Cond.methodLink RX6 139 yX4_nearestFar, Cond.instanceMethod yX4_nearestFar, Cond.selects RX4 yX4_nearestFar yX4_nearestFar, Cond.code yX4_nearestFar cX4_nearestFar 4 (some .int), Cond.methodLink RX4 66 yX4_sighted, Cond.methodLink RX6 142 yX4_nearestLand, Cond.instanceMethod yX4_nearestLand, Cond.selects RX4 yX4_nearestLand yX4_nearestLand, Cond.code yX4_nearestLand cX4_nearestLand 2 (some .int), Cond.methodLink RX4 70 yX4_nearestFar, Cond.methodLink RX4 73 yX0_least, Cond.static yX0_least, Cond.code yX0_least cX0_least 2 (some .int)]
def wsL_law_r21 : List Cond := [Cond.methodLink RX0 11 yJ13_bitCount_95d88, Cond.methodLink RL 55 yX7_seen, Cond.instanceMethod yX7_seen, Cond.selects RX7 yX7_seen yX7_seen, Cond.code yX7_seen cX7_seen 3 (some .int), Cond.methodLink RX7 222 yX7_ofSeen, Cond.instanceMethod yX7_ofSeen, Cond.selects RX7 yX7_ofSeen yX7_ofSeen, Cond.code yX7_ofSeen cX7_ofSeen 3 (some .int), Cond.methodLink RX7 219 yX7_nearest, Cond.instanceMethod yX7_nearest, Cond.selects RX7 yX7_nearest yX7_nearest, Cond.code yX7_nearest cX7_nearest 3 (some .int), Cond.methodLink RL 56 yX6_silence, Cond.instanceMethod yX6_silence, Cond.selects RX6 yX6_silence yX6_silence, Cond.code yX6_silence cX6_silence 3 (some .int), Cond.fieldLink RX6 145 "MastPulpits$Voyage" "firstSilence" "I", Cond.fieldLink RX6 148 "MastPulpits$Voyage" "calls" "I", Cond.methodLink RL 59 yX7_silence, Cond.instanceMethod yX7_silence, Cond.selects RX7 yX7_silence yX7_silence, Cond.code yX7_silence cX7_silence 3 (some .int), Cond.methodLink RL 60 yX6_done]
def wsL_law_r22 : List Cond := [Cond.instanceMethod yX6_done, Cond.selects RX6 yX6_done yX6_done, Cond.code yX6_done cX6_done 2 (some .int), Cond.fieldLink RX6 155 "MastPulpits$Voyage" "acts" "I", Cond.methodLink RX6 151 yX4_takeOver, Cond.methodLink RL 63 yX7_done, Cond.instanceMethod yX7_done, Cond.selects RX7 yX7_done yX7_done, Cond.code yX7_done cX7_done 2 (some .int), Cond.methodLink RL 64 yX6_course, Cond.instanceMethod yX6_course, Cond.selects RX6 yX6_course yX6_course, Cond.code yX6_course cX6_course 4 (some .int), Cond.methodLink RX6 158 yX6_fewestSteps, Cond.instanceMethod yX6_fewestSteps, Cond.selects RX6 yX6_fewestSteps yX6_fewestSteps, Cond.code yX6_fewestSteps cX6_fewestSteps 9 (some .int), Cond.methodLink RX6 230 yX0_spread, Cond.static yX0_spread, Cond.code yX0_spread cX0_spread 8 (some .long), Cond.constantLong RX0 54 (-72340172838076674), Cond.methodLink RX6 234 yX0_holds, Cond.methodLink RX6 238 yX0_leastWayInto, Cond.static yX0_leastWayInto]
def wsL_law_r23 : List Cond := [Cond.code yX0_leastWayInto cX0_leastWayInto 4 (some .int), Cond.methodLink RX0 32 yX0_next, Cond.methodLink RX0 56 yX0_holds, Cond.methodLink RL 68 yX7_course, Cond.instanceMethod yX7_course, Cond.selects RX7 yX7_course yX7_course, Cond.code yX7_course cX7_course 6 (some .int), Cond.methodLink RX7 228 yX7_oneStepMore, Cond.instanceMethod yX7_oneStepMore, Cond.selects RX7 yX7_oneStepMore yX7_oneStepMore, Cond.code yX7_oneStepMore cX7_oneStepMore 5 (some .boolean), Cond.methodLink RX7 225 yX7_wayTo, Cond.instanceMethod yX7_wayTo, Cond.selects RX7 yX7_wayTo yX7_wayTo, Cond.code yX7_wayTo cX7_wayTo 6 (some .int), Cond.methodLink RL 69 yX6_cross, Cond.instanceMethod yX6_cross, Cond.selects RX6 yX6_cross yX6_cross, Cond.code yX6_cross cX6_cross 8 (some .int), Cond.methodLink RX6 162 yX0_isWay, Cond.static yX0_isWay, Cond.code yX0_isWay cX0_isWay 1 (some .boolean), Cond.methodLink RX6 165 yX0_ray, Cond.static yX0_ray]
def wsL_law_r24 : List Cond := [Cond.code yX0_ray cX0_ray 6 (some .long), Cond.methodLink RX0 36 yX0_only, Cond.methodLink RX6 169 yX0_least, Cond.methodLink RL 73 yX7_cross, Cond.instanceMethod yX7_cross, Cond.selects RX7 yX7_cross yX7_cross, Cond.code yX7_cross cX7_cross 10 (some .int), Cond.methodLink RX7 231 yX7_isWay, Cond.static yX7_isWay, Cond.code yX7_isWay cX7_isWay 1 (some .boolean), Cond.methodLink RX7 234 yX7_bears, Cond.static yX7_bears, Cond.code yX7_bears cX7_bears 5 (some .boolean), Cond.methodLink RL 74 yX6_ropes, Cond.instanceMethod yX6_ropes, Cond.selects RX6 yX6_ropes yX6_ropes, Cond.code yX6_ropes cX6_ropes 5 (some .int), Cond.methodLink RX6 172 yX3_takePieces, Cond.instanceMethod yX3_takePieces, Cond.selects RX3 yX3_takePieces yX3_takePieces, Cond.code yX3_takePieces cX3_takePieces 5 (some .boolean), Cond.methodLink RX6 176 yX3_fewestRopes, Cond.instanceMethod yX3_fewestRopes, Cond.selects RX3 yX3_fewestRopes yX3_fewestRopes]
def wsL_law_r25 : List Cond := [Cond.code yX3_fewestRopes cX3_fewestRopes 3 (some .int), Cond.methodLink RX3 22 yX3_leastCut, Cond.instanceMethod yX3_leastCut, Cond.selects RX3 yX3_leastCut yX3_leastCut, Cond.code yX3_leastCut cX3_leastCut 6 (some .int), Cond.methodLink RX3 30 Lib.Math.min.name, Cond.methodLink RX3 26 yX3_cutFurther, Cond.static yX3_cutFurther, Cond.code yX3_cutFurther cX3_cutFurther 3 (some .int), Cond.methodLink RX6 179 yX3_mostFromOne, Cond.instanceMethod yX3_mostFromOne, Cond.selects RX3 yX3_mostFromOne yX3_mostFromOne, Cond.code yX3_mostFromOne cX3_mostFromOne 6 (some .int), Cond.methodLink RL 78 yX7_ropes, Cond.instanceMethod yX7_ropes, Cond.selects RX7 yX7_ropes yX7_ropes, Cond.code yX7_ropes cX7_ropes 5 (some .int), Cond.constantLong RX7 245 (30), Cond.methodLink RX7 241 yX7_readPieces, Cond.instanceMethod yX7_readPieces, Cond.selects RX7 yX7_readPieces yX7_readPieces, Cond.code yX7_readPieces cX7_readPieces 6 (some .boolean), Cond.methodLink RX7 247 yX7_ropesOf, Cond.instanceMethod yX7_ropesOf]
def wsL_law_r26 : List Cond := [Cond.selects RX7 yX7_ropesOf yX7_ropesOf, Cond.code yX7_ropesOf cX7_ropesOf 8 (some .int), Cond.methodLink RX7 238 yX7_cutMore, Cond.static yX7_cutMore, Cond.code yX7_cutMore cX7_cutMore 4 (some .int), Cond.methodLink RX7 250 yX7_mostPieces, Cond.instanceMethod yX7_mostPieces, Cond.selects RX7 yX7_mostPieces yX7_mostPieces, Cond.code yX7_mostPieces cX7_mostPieces 7 (some .int), Cond.methodLink RL 79 yX6_look, Cond.instanceMethod yX6_look, Cond.selects RX6 yX6_look yX6_look, Cond.code yX6_look cX6_look 6 (some .int), Cond.fieldLink RX6 182 "MastPulpits$Sea" "sights" "I", Cond.fieldLink RX6 188 "MastPulpits$Sea" "fitting" "J", Cond.methodLink RX6 185 yX0_around, Cond.methodLink RL 83 yX7_look, Cond.instanceMethod yX7_look, Cond.selects RX7 yX7_look yX7_look, Cond.code yX7_look cX7_look 4 (some .int), Cond.fieldLink RX7 253 "MastPulpitsModel" "sights" "I", Cond.methodLink RL 84 yX6_forget, Cond.instanceMethod yX6_forget, Cond.selects RX6 yX6_forget yX6_forget]
def wsL_law_r27 : List Cond := [Cond.code yX6_forget cX6_forget 2 (some .int), Cond.methodLink RL 87 yX7_forget, Cond.instanceMethod yX7_forget, Cond.selects RX7 yX7_forget yX7_forget, Cond.code yX7_forget cX7_forget 2 (some .int), Cond.methodLink RL 88 yX6_light, Cond.instanceMethod yX6_light, Cond.selects RX6 yX6_light yX6_light, Cond.code yX6_light cX6_light 6 (some .int), Cond.methodLink RL 91 yX7_light, Cond.instanceMethod yX7_light, Cond.selects RX7 yX7_light yX7_light, Cond.code yX7_light cX7_light 2 (some .int), Cond.fieldLink RX7 256 "MastPulpitsModel" "fitMany" "I", Cond.methodLink RX7 262 yX7_findFits, Cond.instanceMethod yX7_findFits, Cond.selects RX7 yX7_findFits yX7_findFits, Cond.code yX7_findFits cX7_findFits 2 none, Cond.methodLink RX7 259 yX7_isFit, Cond.instanceMethod yX7_isFit, Cond.selects RX7 yX7_isFit yX7_isFit, Cond.code yX7_isFit cX7_isFit 5 (some .boolean), Cond.methodLink RL 92 yX6_ask, Cond.instanceMethod yX6_ask]
def wsL_law_r28 : List Cond := [Cond.selects RX6 yX6_ask yX6_ask, Cond.code yX6_ask cX6_ask 2 (some .int), Cond.methodLink RX6 191 yX6_bestNextLook, Cond.static yX6_bestNextLook, Cond.code yX6_bestNextLook cX6_bestNextLook 10 (some .int), Cond.methodLink RX6 242 Lib.Math.max.name, Cond.methodLink RL 95 yX7_ask, Cond.instanceMethod yX7_ask, Cond.selects RX7 yX7_ask yX7_ask, Cond.code yX7_ask cX7_ask 6 (some .int), Cond.methodLink RX7 265 yX7_mostLeft, Cond.instanceMethod yX7_mostLeft, Cond.selects RX7 yX7_mostLeft yX7_mostLeft, Cond.code yX7_mostLeft cX7_mostLeft 5 (some .int), Cond.methodLink RX7 268 yX7_less, Cond.static yX7_less, Cond.code yX7_less cX7_less 2 (some .int), Cond.methodLink RL 96 yX6_tack, Cond.instanceMethod yX6_tack, Cond.selects RX6 yX6_tack yX6_tack, Cond.code yX6_tack cX6_tack 4 (some .int), Cond.methodLink RX6 195 yX0_tacksFrom, Cond.static yX0_tacksFrom, Cond.code yX0_tacksFrom cX0_tacksFrom 1 (some .long)]
def wsL_law_r29 : List Cond := [Cond.methodLink RX6 198 yX0_cellsWhereTackingLoses, Cond.static yX0_cellsWhereTackingLoses, Cond.code yX0_cellsWhereTackingLoses cX0_cellsWhereTackingLoses 5 (some .long), Cond.methodLink RX0 60 yX0_tacksFrom, Cond.methodLink RL 99 yX7_tack, Cond.instanceMethod yX7_tack, Cond.selects RX7 yX7_tack yX7_tack, Cond.code yX7_tack cX7_tack 5 (some .int), Cond.methodLink RX7 274 yX7_leastTack, Cond.instanceMethod yX7_leastTack, Cond.selects RX7 yX7_leastTack yX7_leastTack, Cond.code yX7_leastTack cX7_leastTack 6 (some .int), Cond.methodLink RX7 271 yX7_tackTo, Cond.static yX7_tackTo, Cond.code yX7_tackTo cX7_tackTo 2 (some .int), Cond.methodLink RL 100 yX6_first, Cond.instanceMethod yX6_first, Cond.selects RX6 yX6_first yX6_first, Cond.code yX6_first cX6_first 6 (some .long), Cond.constantLong RX6 201 (-1000000000000000002), Cond.methodLink RX6 203 yX1_watchByTurns, Cond.instanceMethod yX1_watchByTurns, Cond.selects RX1 yX1_watchByTurns yX1_watchByTurns, Cond.code yX1_watchByTurns cX1_watchByTurns 7 none]
def wsL_law_r30 : List Cond := [Cond.fieldLink RX1 7 "MastPulpits$Lookouts" "byFirst" "J", Cond.fieldLink RX1 13 "MastPulpits$Lookouts" "byOther" "J", Cond.fieldLink RX1 16 "MastPulpits$Lookouts" "byNobody" "J", Cond.fieldLink RX1 19 "MastPulpits$Lookouts" "outOf" "J", Cond.constantLong RX1 22 (10), Cond.methodLink RX6 207 yX1_chance, Cond.instanceMethod yX1_chance, Cond.selects RX1 yX1_chance yX1_chance, Cond.code yX1_chance cX1_chance 3 (some .long), Cond.methodLink RX1 24 yX1_partOf, Cond.instanceMethod yX1_partOf, Cond.selects RX1 yX1_partOf yX1_partOf, Cond.code yX1_partOf cX1_partOf 9 (some .long), Cond.constantLong RX1 28 (2), Cond.constantLong RX1 30 (5), Cond.methodLink RL 104 yX7_first, Cond.instanceMethod yX7_first, Cond.selects RX7 yX7_first yX7_first, Cond.code yX7_first cX7_first 14 (some .long), Cond.constantLong RX7 277 (10), Cond.constantLong RX7 279 (16), Cond.constantLong RX7 281 (-1000000000000000002), Cond.methodLink RX7 283 yX7_lowest, Cond.static yX7_lowest]
def wsL_law_r31 : List Cond := [Cond.code yX7_lowest cX7_lowest 11 (some .long), Cond.methodLink RL 105 yX6_year, Cond.instanceMethod yX6_year, Cond.selects RX6 yX6_year yX6_year, Cond.code yX6_year cX6_year 4 (some .int), Cond.fieldLink RX6 214 "MastPulpits$Voyage" "silences" "I", Cond.methodLink RX6 210 yX5_sailByDraws, Cond.instanceMethod yX5_sailByDraws, Cond.selects RX5 yX5_sailByDraws yX5_sailByDraws, Cond.code yX5_sailByDraws cX5_sailByDraws 8 none, Cond.constant RX5 66 (65537), Cond.methodLink RX5 67 yX5_drawnAct, Cond.static yX5_drawnAct, Cond.code yX5_drawnAct cX5_drawnAct 1 (some .int), Cond.methodLink RL 108 yX7_year, Cond.instanceMethod yX7_year, Cond.selects RX7 yX7_year yX7_year, Cond.code yX7_year cX7_year 8 (some .int), Cond.constantLong RX7 287 (9999), Cond.constantLong RX7 289 (99), Cond.constantLong RX7 291 (75), Cond.constantLong RX7 293 (74), Cond.constantLong RX7 295 (65537), Cond.methodLink RX7 297 yX7_actBy]
def wsL_law_r32 : List Cond := [Cond.static yX7_actBy, Cond.code yX7_actBy cX7_actBy 1 (some .int), Cond.methodLink RL 109 yX6_image, Cond.instanceMethod yX6_image, Cond.selects RX6 yX6_image yX6_image, Cond.code yX6_image cX6_image 2 (some .int), Cond.methodLink RX6 217 yX6_isImage, Cond.instanceMethod yX6_isImage, Cond.selects RX6 yX6_isImage yX6_isImage, Cond.code yX6_isImage cX6_isImage 2 (some .boolean), Cond.methodLink RL 112 yX7_image, Cond.instanceMethod yX7_image, Cond.selects RX7 yX7_image yX7_image, Cond.code yX7_image cX7_image 2 (some .int), Cond.fieldLink RX7 304 "MastPulpitsModel" "keptAt" "I", Cond.fieldLink RX7 300 "MastPulpitsModel" "isWriting" "Z", Cond.methodLink RX7 314 yX7_passAll, Cond.instanceMethod yX7_passAll, Cond.selects RX7 yX7_passAll yX7_passAll, Cond.code yX7_passAll cX7_passAll 1 none, Cond.methodLink RX7 307 yX7_pass, Cond.instanceMethod yX7_pass, Cond.selects RX7 yX7_pass yX7_pass, Cond.code yX7_pass cX7_pass 3 (some .int)]
def wsL_law_r33 : List Cond := [Cond.methodLink RX7 310 yX7_passRow, Cond.instanceMethod yX7_passRow, Cond.selects RX7 yX7_passRow yX7_passRow, Cond.code yX7_passRow cX7_passRow 4 none, Cond.methodLink RL 113 yX6_restore, Cond.instanceMethod yX6_restore, Cond.selects RX6 yX6_restore yX6_restore, Cond.code yX6_restore cX6_restore 2 (some .int), Cond.methodLink RL 116 yX7_restore, Cond.instanceMethod yX7_restore, Cond.selects RX7 yX7_restore yX7_restore, Cond.code yX7_restore cX7_restore 2 (some .int), Cond.methodLink RL 117 yX6_told, Cond.instanceMethod yX6_told, Cond.selects RX6 yX6_told yX6_told, Cond.code yX6_told cX6_told 2 (some .int), Cond.methodLink RL 120 yX7_told, Cond.instanceMethod yX7_told, Cond.selects RX7 yX7_told yX7_told, Cond.code yX7_told cX7_told 2 (some .int), Cond.constantLong RX7 317 (100), Cond.constantLong RX7 319 (163), Cond.constantLong RX7 321 (15), Cond.constantLong RX7 323 (6)]
def wsL_law : List Cond := (wsL_law_r1 ++ (wsL_law_r2 ++ (wsL_law_r3 ++ (wsL_law_r4 ++ (wsL_law_r5 ++ (wsL_law_r6 ++ (wsL_law_r7 ++ (wsL_law_r8 ++ (wsL_law_r9 ++ (wsL_law_r10 ++ (wsL_law_r11 ++ (wsL_law_r12 ++ (wsL_law_r13 ++ (wsL_law_r14 ++ (wsL_law_r15 ++ (wsL_law_r16 ++ (wsL_law_r17 ++ (wsL_law_r18 ++ (wsL_law_r19 ++ (wsL_law_r20 ++ (wsL_law_r21 ++ (wsL_law_r22 ++ (wsL_law_r23 ++ (wsL_law_r24 ++ (wsL_law_r25 ++ (wsL_law_r26 ++ (wsL_law_r27 ++ (wsL_law_r28 ++ (wsL_law_r29 ++ (wsL_law_r30 ++ (wsL_law_r31 ++ (wsL_law_r32 ++ wsL_law_r33)))))))))))))))))))))))))))))))) ++ wsX60 ++ wsX70 ++ wsX40 ++ wsX20 ++ wsX50 ++ wsX30 ++ wsX10 ++ ([] : List Cond)
abbrev vwCl : List vw_C := [(RX1, TX1, 4), (RX2, TX2, 2), (RX3, TX3, 3), (RX4, TX4, 10), (RX5, TX5, 8), (RX6, TX6, 7), (RX7, TX7, 34)]
end
section
theorem dX0_isCell_0 : decode cX0_isCell 0 = .ok (.iload_n 0, 1) := by decide +kernel
theorem dX0_isCell_1 : decode cX0_isCell 1 = .ok (.ifCond .lt 13, 3) := by decide +kernel
theorem dX0_isCell_4 : decode cX0_isCell 4 = .ok (.iload_n 0, 1) := by decide +kernel
theorem dX0_isCell_5 : decode cX0_isCell 5 = .ok (.bipush 64, 2) := by decide +kernel
theorem dX0_isCell_7 : decode cX0_isCell 7 = .ok (.if_icmp .ge 7, 3) := by decide +kernel
theorem dX0_isCell_10 : decode cX0_isCell 10 = .ok (.iconst 1, 1) := by decide +kernel
theorem dX0_isCell_11 : decode cX0_isCell 11 = .ok (.goto 4, 3) := by decide +kernel
theorem dX0_isCell_14 : decode cX0_isCell 14 = .ok (.iconst 0, 1) := by decide +kernel
theorem dX0_isCell_15 : decode cX0_isCell 15 = .ok (.ireturn, 1) := by decide +kernel
theorem dX0_isWay_0 : decode cX0_isWay 0 = .ok (.iload_n 0, 1) := by decide +kernel
theorem dX0_isWay_1 : decode cX0_isWay 1 = .ok (.ifCond .lt 13, 3) := by decide +kernel
theorem dX0_isWay_4 : decode cX0_isWay 4 = .ok (.iload_n 0, 1) := by decide +kernel
theorem dX0_isWay_5 : decode cX0_isWay 5 = .ok (.bipush 8, 2) := by decide +kernel
theorem dX0_isWay_7 : decode cX0_isWay 7 = .ok (.if_icmp .ge 7, 3) := by decide +kernel
theorem dX0_isWay_10 : decode cX0_isWay 10 = .ok (.iconst 1, 1) := by decide +kernel
theorem dX0_isWay_11 : decode cX0_isWay 11 = .ok (.goto 4, 3) := by decide +kernel
theorem dX0_isWay_14 : decode cX0_isWay 14 = .ok (.iconst 0, 1) := by decide +kernel
theorem dX0_isWay_15 : decode cX0_isWay 15 = .ok (.ireturn, 1) := by decide +kernel
theorem dX0_only_0 : decode cX0_only 0 = .ok (.iload_n 0, 1) := by decide +kernel
theorem dX0_only_1 : decode cX0_only 1 = .ok (.ifCond .lt 15, 3) := by decide +kernel
theorem dX0_only_4 : decode cX0_only 4 = .ok (.iload_n 0, 1) := by decide +kernel
theorem dX0_only_5 : decode cX0_only 5 = .ok (.bipush 64, 2) := by decide +kernel
theorem dX0_only_7 : decode cX0_only 7 = .ok (.if_icmp .ge 9, 3) := by decide +kernel
theorem dX0_only_10 : decode cX0_only 10 = .ok (.lconst 1, 1) := by decide +kernel
theorem dX0_only_11 : decode cX0_only 11 = .ok (.iload_n 0, 1) := by decide +kernel
theorem dX0_only_12 : decode cX0_only 12 = .ok (.lshl, 1) := by decide +kernel
theorem dX0_only_13 : decode cX0_only 13 = .ok (.goto 4, 3) := by decide +kernel
theorem dX0_only_16 : decode cX0_only 16 = .ok (.lconst 0, 1) := by decide +kernel
theorem dX0_only_17 : decode cX0_only 17 = .ok (.lreturn, 1) := by decide +kernel
theorem dX0_holds_0 : decode cX0_holds 0 = .ok (.iload_n 2, 1) := by decide +kernel
theorem dX0_holds_1 : decode cX0_holds 1 = .ok (.ifCond .lt 23, 3) := by decide +kernel
theorem dX0_holds_4 : decode cX0_holds 4 = .ok (.iload_n 2, 1) := by decide +kernel
theorem dX0_holds_5 : decode cX0_holds 5 = .ok (.bipush 64, 2) := by decide +kernel
theorem dX0_holds_7 : decode cX0_holds 7 = .ok (.if_icmp .ge 17, 3) := by decide +kernel
theorem dX0_holds_10 : decode cX0_holds 10 = .ok (.lload_n 0, 1) := by decide +kernel
theorem dX0_holds_11 : decode cX0_holds 11 = .ok (.iload_n 2, 1) := by decide +kernel
theorem dX0_holds_12 : decode cX0_holds 12 = .ok (.lushr, 1) := by decide +kernel
theorem dX0_holds_13 : decode cX0_holds 13 = .ok (.lconst 1, 1) := by decide +kernel
theorem dX0_holds_14 : decode cX0_holds 14 = .ok (.land, 1) := by decide +kernel
theorem dX0_holds_15 : decode cX0_holds 15 = .ok (.lconst 0, 1) := by decide +kernel
theorem dX0_holds_16 : decode cX0_holds 16 = .ok (.lcmp, 1) := by decide +kernel
theorem dX0_holds_17 : decode cX0_holds 17 = .ok (.ifCond .eq 7, 3) := by decide +kernel
theorem dX0_holds_20 : decode cX0_holds 20 = .ok (.iconst 1, 1) := by decide +kernel
theorem dX0_holds_21 : decode cX0_holds 21 = .ok (.goto 4, 3) := by decide +kernel
theorem dX0_holds_24 : decode cX0_holds 24 = .ok (.iconst 0, 1) := by decide +kernel
theorem dX0_holds_25 : decode cX0_holds 25 = .ok (.ireturn, 1) := by decide +kernel
set_option maxRecDepth 20000 in
theorem ggX0_least_J13_bitCount_95d88 : GoodIn wsX0_least wsJ13_bitCount_95d88 := goodIn_r _ [4, 5, 6, 7] (by decide +kernel) (by decide +kernel)
set_option maxRecDepth 20000 in
theorem gX0_least_J13_bitCount_95d88 : GoodIn wsX0_least (va_wsS RX0 11 yJ13_bitCount_95d88 wsJ13_bitCount_95d88) := goodIn_app (goodIn_of _ (by decide +kernel)) ggX0_least_J13_bitCount_95d88
theorem dX0_least_0 : decode cX0_least 0 = .ok (.lload_n 0, 1) := by decide +kernel
theorem dX0_least_1 : decode cX0_least 1 = .ok (.lconst 0, 1) := by decide +kernel
theorem dX0_least_2 : decode cX0_least 2 = .ok (.lcmp, 1) := by decide +kernel
theorem dX0_least_3 : decode cX0_least 3 = .ok (.ifCond .ne 8, 3) := by decide +kernel
theorem dX0_least_6 : decode cX0_least 6 = .ok (.bipush (-6), 2) := by decide +kernel
theorem dX0_least_8 : decode cX0_least 8 = .ok (.goto 12, 3) := by decide +kernel
theorem dX0_least_11 : decode cX0_least 11 = .ok (.lload_n 0, 1) := by decide +kernel
theorem dX0_least_12 : decode cX0_least 12 = .ok (.lload_n 0, 1) := by decide +kernel
theorem dX0_least_13 : decode cX0_least 13 = .ok (.lneg, 1) := by decide +kernel
theorem dX0_least_14 : decode cX0_least 14 = .ok (.land, 1) := by decide +kernel
theorem dX0_least_15 : decode cX0_least 15 = .ok (.lconst 1, 1) := by decide +kernel
theorem dX0_least_16 : decode cX0_least 16 = .ok (.lsub, 1) := by decide +kernel
theorem dX0_least_17 : decode cX0_least 17 = .ok (.invokestatic 11, 3) := by decide +kernel
theorem dX0_least_20 : decode cX0_least 20 = .ok (.ireturn, 1) := by decide +kernel
theorem dX0_moved_0 : decode cX0_moved 0 = .ok (.iload_n 0, 1) := by decide +kernel
theorem dX0_moved_1 : decode cX0_moved 1 = .ok (.bipush 8, 2) := by decide +kernel
theorem dX0_moved_3 : decode cX0_moved 3 = .ok (.idiv, 1) := by decide +kernel
theorem dX0_moved_4 : decode cX0_moved 4 = .ok (.iload_n 1, 1) := by decide +kernel
theorem dX0_moved_5 : decode cX0_moved 5 = .ok (.iadd, 1) := by decide +kernel
theorem dX0_moved_6 : decode cX0_moved 6 = .ok (.istore_n 3, 1) := by decide +kernel
theorem dX0_moved_7 : decode cX0_moved 7 = .ok (.iload_n 0, 1) := by decide +kernel
theorem dX0_moved_8 : decode cX0_moved 8 = .ok (.bipush 8, 2) := by decide +kernel
theorem dX0_moved_10 : decode cX0_moved 10 = .ok (.irem, 1) := by decide +kernel
theorem dX0_moved_11 : decode cX0_moved 11 = .ok (.iload_n 2, 1) := by decide +kernel
theorem dX0_moved_12 : decode cX0_moved 12 = .ok (.iadd, 1) := by decide +kernel
theorem dX0_moved_13 : decode cX0_moved 13 = .ok (.istore 4, 2) := by decide +kernel
theorem dX0_moved_15 : decode cX0_moved 15 = .ok (.iload_n 3, 1) := by decide +kernel
theorem dX0_moved_16 : decode cX0_moved 16 = .ok (.ifCond .lt 25, 3) := by decide +kernel
theorem dX0_moved_19 : decode cX0_moved 19 = .ok (.iload_n 3, 1) := by decide +kernel
theorem dX0_moved_20 : decode cX0_moved 20 = .ok (.bipush 8, 2) := by decide +kernel
theorem dX0_moved_22 : decode cX0_moved 22 = .ok (.if_icmp .ge 19, 3) := by decide +kernel
theorem dX0_moved_25 : decode cX0_moved 25 = .ok (.iload 4, 2) := by decide +kernel
theorem dX0_moved_27 : decode cX0_moved 27 = .ok (.ifCond .lt 14, 3) := by decide +kernel
theorem dX0_moved_30 : decode cX0_moved 30 = .ok (.iload 4, 2) := by decide +kernel
theorem dX0_moved_32 : decode cX0_moved 32 = .ok (.bipush 8, 2) := by decide +kernel
theorem dX0_moved_34 : decode cX0_moved 34 = .ok (.if_icmp .ge 7, 3) := by decide +kernel
theorem dX0_moved_37 : decode cX0_moved 37 = .ok (.iconst 1, 1) := by decide +kernel
theorem dX0_moved_38 : decode cX0_moved 38 = .ok (.goto 4, 3) := by decide +kernel
theorem dX0_moved_41 : decode cX0_moved 41 = .ok (.iconst 0, 1) := by decide +kernel
theorem dX0_moved_42 : decode cX0_moved 42 = .ok (.istore 5, 2) := by decide +kernel
theorem dX0_moved_44 : decode cX0_moved 44 = .ok (.iload 5, 2) := by decide +kernel
theorem dX0_moved_46 : decode cX0_moved 46 = .ok (.ifCond .eq 13, 3) := by decide +kernel
theorem dX0_moved_49 : decode cX0_moved 49 = .ok (.bipush 8, 2) := by decide +kernel
theorem dX0_moved_51 : decode cX0_moved 51 = .ok (.iload_n 3, 1) := by decide +kernel
theorem dX0_moved_52 : decode cX0_moved 52 = .ok (.imul, 1) := by decide +kernel
theorem dX0_moved_53 : decode cX0_moved 53 = .ok (.iload 4, 2) := by decide +kernel
theorem dX0_moved_55 : decode cX0_moved 55 = .ok (.iadd, 1) := by decide +kernel
theorem dX0_moved_56 : decode cX0_moved 56 = .ok (.goto 5, 3) := by decide +kernel
theorem dX0_moved_59 : decode cX0_moved 59 = .ok (.bipush (-6), 2) := by decide +kernel
theorem dX0_moved_61 : decode cX0_moved 61 = .ok (.ireturn, 1) := by decide +kernel
set_option maxRecDepth 20000 in
theorem ggX0_next_X0_isCell : GoodIn wsX0_next wsX0_isCell := goodIn_r _ [6] (by decide +kernel) (by decide +kernel)
set_option maxRecDepth 20000 in
theorem gX0_next_X0_isCell : GoodIn wsX0_next (va_wsS RX0 17 yX0_isCell wsX0_isCell) := goodIn_app (goodIn_of _ (by decide +kernel)) ggX0_next_X0_isCell
set_option maxRecDepth 20000 in
theorem ggX0_next_X0_moved : GoodIn wsX0_next wsX0_moved := goodIn_r _ [9] (by decide +kernel) (by decide +kernel)
set_option maxRecDepth 20000 in
theorem gX0_next_X0_moved : GoodIn wsX0_next (va_wsS RX0 28 yX0_moved wsX0_moved) := goodIn_app (goodIn_of _ (by decide +kernel)) ggX0_next_X0_moved
theorem dX0_next_0 : decode cX0_next 0 = .ok (.iload_n 0, 1) := by decide +kernel
theorem dX0_next_1 : decode cX0_next 1 = .ok (.invokestatic 17, 3) := by decide +kernel
theorem dX0_next_4 : decode cX0_next 4 = .ok (.ifCond .eq 23, 3) := by decide +kernel
theorem dX0_next_7 : decode cX0_next 7 = .ok (.iload_n 1, 1) := by decide +kernel
theorem dX0_next_8 : decode cX0_next 8 = .ok (.ifCond .lt 19, 3) := by decide +kernel
theorem dX0_next_11 : decode cX0_next 11 = .ok (.iload_n 1, 1) := by decide +kernel
theorem dX0_next_12 : decode cX0_next 12 = .ok (.getstatic 21, 3) := by decide +kernel
theorem dX0_next_15 : decode cX0_next 15 = .ok (.arraylength, 1) := by decide +kernel
theorem dX0_next_16 : decode cX0_next 16 = .ok (.if_icmp .ge 11, 3) := by decide +kernel
theorem dX0_next_19 : decode cX0_next 19 = .ok (.iload_n 1, 1) := by decide +kernel
theorem dX0_next_20 : decode cX0_next 20 = .ok (.getstatic 25, 3) := by decide +kernel
theorem dX0_next_23 : decode cX0_next 23 = .ok (.arraylength, 1) := by decide +kernel
theorem dX0_next_24 : decode cX0_next 24 = .ok (.if_icmp .lt 6, 3) := by decide +kernel
theorem dX0_next_27 : decode cX0_next 27 = .ok (.bipush (-6), 2) := by decide +kernel
theorem dX0_next_29 : decode cX0_next 29 = .ok (.ireturn, 1) := by decide +kernel
theorem dX0_next_30 : decode cX0_next 30 = .ok (.iload_n 0, 1) := by decide +kernel
theorem dX0_next_31 : decode cX0_next 31 = .ok (.getstatic 21, 3) := by decide +kernel
theorem dX0_next_34 : decode cX0_next 34 = .ok (.iload_n 1, 1) := by decide +kernel
theorem dX0_next_35 : decode cX0_next 35 = .ok (.iaload, 1) := by decide +kernel
theorem dX0_next_36 : decode cX0_next 36 = .ok (.getstatic 25, 3) := by decide +kernel
theorem dX0_next_39 : decode cX0_next 39 = .ok (.iload_n 1, 1) := by decide +kernel
theorem dX0_next_40 : decode cX0_next 40 = .ok (.iaload, 1) := by decide +kernel
theorem dX0_next_41 : decode cX0_next 41 = .ok (.invokestatic 28, 3) := by decide +kernel
theorem dX0_next_44 : decode cX0_next 44 = .ok (.ireturn, 1) := by decide +kernel
set_option maxRecDepth 20000 in
theorem ggX0_ray_X0_next : GoodIn wsX0_ray wsX0_next := goodIn_r _ [4, 5, 6, 7, 8, 3, 9, 10, 11, 12] (by decide +kernel) (by decide +kernel)
set_option maxRecDepth 20000 in
theorem gX0_ray_X0_next : GoodIn wsX0_ray (va_wsS RX0 32 yX0_next wsX0_next) := goodIn_app (goodIn_of _ (by decide +kernel)) ggX0_ray_X0_next
set_option maxRecDepth 20000 in
theorem ggX0_ray_X0_only : GoodIn wsX0_ray wsX0_only := goodIn_r _ [15] (by decide +kernel) (by decide +kernel)
set_option maxRecDepth 20000 in
theorem gX0_ray_X0_only : GoodIn wsX0_ray (va_wsS RX0 36 yX0_only wsX0_only) := goodIn_app (goodIn_of _ (by decide +kernel)) ggX0_ray_X0_only
theorem dX0_ray_0 : decode cX0_ray 0 = .ok (.lconst 0, 1) := by decide +kernel
theorem dX0_ray_1 : decode cX0_ray 1 = .ok (.lstore_n 2, 1) := by decide +kernel
theorem dX0_ray_2 : decode cX0_ray 2 = .ok (.iload_n 0, 1) := by decide +kernel
theorem dX0_ray_3 : decode cX0_ray 3 = .ok (.iload_n 1, 1) := by decide +kernel
theorem dX0_ray_4 : decode cX0_ray 4 = .ok (.invokestatic 32, 3) := by decide +kernel
theorem dX0_ray_7 : decode cX0_ray 7 = .ok (.istore 4, 2) := by decide +kernel
theorem dX0_ray_9 : decode cX0_ray 9 = .ok (.iconst 1, 1) := by decide +kernel
theorem dX0_ray_10 : decode cX0_ray 10 = .ok (.istore 5, 2) := by decide +kernel
theorem dX0_ray_12 : decode cX0_ray 12 = .ok (.iload 5, 2) := by decide +kernel
theorem dX0_ray_14 : decode cX0_ray 14 = .ok (.bipush 8, 2) := by decide +kernel
theorem dX0_ray_16 : decode cX0_ray 16 = .ok (.if_icmp .ge 32, 3) := by decide +kernel
theorem dX0_ray_19 : decode cX0_ray 19 = .ok (.iload 4, 2) := by decide +kernel
theorem dX0_ray_21 : decode cX0_ray 21 = .ok (.bipush (-6), 2) := by decide +kernel
theorem dX0_ray_23 : decode cX0_ray 23 = .ok (.if_icmp .eq 25, 3) := by decide +kernel
theorem dX0_ray_26 : decode cX0_ray 26 = .ok (.lload_n 2, 1) := by decide +kernel
theorem dX0_ray_27 : decode cX0_ray 27 = .ok (.iload 4, 2) := by decide +kernel
theorem dX0_ray_29 : decode cX0_ray 29 = .ok (.invokestatic 36, 3) := by decide +kernel
theorem dX0_ray_32 : decode cX0_ray 32 = .ok (.lor, 1) := by decide +kernel
theorem dX0_ray_33 : decode cX0_ray 33 = .ok (.lstore_n 2, 1) := by decide +kernel
theorem dX0_ray_34 : decode cX0_ray 34 = .ok (.iload 4, 2) := by decide +kernel
theorem dX0_ray_36 : decode cX0_ray 36 = .ok (.iload_n 1, 1) := by decide +kernel
theorem dX0_ray_37 : decode cX0_ray 37 = .ok (.invokestatic 32, 3) := by decide +kernel
theorem dX0_ray_40 : decode cX0_ray 40 = .ok (.istore 4, 2) := by decide +kernel
theorem dX0_ray_42 : decode cX0_ray 42 = .ok (.iinc 5 1, 3) := by decide +kernel
theorem dX0_ray_45 : decode cX0_ray 45 = .ok (.goto (-33), 3) := by decide +kernel
theorem dX0_ray_48 : decode cX0_ray 48 = .ok (.lload_n 2, 1) := by decide +kernel
theorem dX0_ray_49 : decode cX0_ray 49 = .ok (.lreturn, 1) := by decide +kernel
theorem dX0_around_0 : decode cX0_around 0 = .ok (.iload_n 0, 1) := by decide +kernel
theorem dX0_around_1 : decode cX0_around 1 = .ok (.bipush 8, 2) := by decide +kernel
theorem dX0_around_3 : decode cX0_around 3 = .ok (.idiv, 1) := by decide +kernel
theorem dX0_around_4 : decode cX0_around 4 = .ok (.istore_n 2, 1) := by decide +kernel
theorem dX0_around_5 : decode cX0_around 5 = .ok (.iload_n 0, 1) := by decide +kernel
theorem dX0_around_6 : decode cX0_around 6 = .ok (.bipush 8, 2) := by decide +kernel
theorem dX0_around_8 : decode cX0_around 8 = .ok (.irem, 1) := by decide +kernel
theorem dX0_around_9 : decode cX0_around 9 = .ok (.istore_n 3, 1) := by decide +kernel
theorem dX0_around_10 : decode cX0_around 10 = .ok (.iconst 0, 1) := by decide +kernel
theorem dX0_around_11 : decode cX0_around 11 = .ok (.iload_n 2, 1) := by decide +kernel
theorem dX0_around_12 : decode cX0_around 12 = .ok (.iload_n 1, 1) := by decide +kernel
theorem dX0_around_13 : decode cX0_around 13 = .ok (.isub, 1) := by decide +kernel
theorem dX0_around_14 : decode cX0_around 14 = .ok (.invokestatic 40, 3) := by decide +kernel
theorem dX0_around_17 : decode cX0_around 17 = .ok (.istore 4, 2) := by decide +kernel
theorem dX0_around_19 : decode cX0_around 19 = .ok (.bipush 7, 2) := by decide +kernel
theorem dX0_around_21 : decode cX0_around 21 = .ok (.iload_n 2, 1) := by decide +kernel
theorem dX0_around_22 : decode cX0_around 22 = .ok (.iload_n 1, 1) := by decide +kernel
theorem dX0_around_23 : decode cX0_around 23 = .ok (.iadd, 1) := by decide +kernel
theorem dX0_around_24 : decode cX0_around 24 = .ok (.invokestatic 45, 3) := by decide +kernel
theorem dX0_around_27 : decode cX0_around 27 = .ok (.istore 5, 2) := by decide +kernel
theorem dX0_around_29 : decode cX0_around 29 = .ok (.iconst 0, 1) := by decide +kernel
theorem dX0_around_30 : decode cX0_around 30 = .ok (.iload_n 3, 1) := by decide +kernel
theorem dX0_around_31 : decode cX0_around 31 = .ok (.iload_n 1, 1) := by decide +kernel
theorem dX0_around_32 : decode cX0_around 32 = .ok (.isub, 1) := by decide +kernel
theorem dX0_around_33 : decode cX0_around 33 = .ok (.invokestatic 40, 3) := by decide +kernel
theorem dX0_around_36 : decode cX0_around 36 = .ok (.istore 6, 2) := by decide +kernel
theorem dX0_around_38 : decode cX0_around 38 = .ok (.bipush 7, 2) := by decide +kernel
theorem dX0_around_40 : decode cX0_around 40 = .ok (.iload_n 3, 1) := by decide +kernel
theorem dX0_around_41 : decode cX0_around 41 = .ok (.iload_n 1, 1) := by decide +kernel
theorem dX0_around_42 : decode cX0_around 42 = .ok (.iadd, 1) := by decide +kernel
theorem dX0_around_43 : decode cX0_around 43 = .ok (.invokestatic 45, 3) := by decide +kernel
theorem dX0_around_46 : decode cX0_around 46 = .ok (.istore 7, 2) := by decide +kernel
theorem dX0_around_48 : decode cX0_around 48 = .ok (.ldc2_w 48, 3) := by decide +kernel
theorem dX0_around_51 : decode cX0_around 51 = .ok (.bipush 8, 2) := by decide +kernel
theorem dX0_around_53 : decode cX0_around 53 = .ok (.iload 4, 2) := by decide +kernel
theorem dX0_around_55 : decode cX0_around 55 = .ok (.imul, 1) := by decide +kernel
theorem dX0_around_56 : decode cX0_around 56 = .ok (.lshl, 1) := by decide +kernel
theorem dX0_around_57 : decode cX0_around 57 = .ok (.ldc2_w 48, 3) := by decide +kernel
theorem dX0_around_60 : decode cX0_around 60 = .ok (.bipush 8, 2) := by decide +kernel
theorem dX0_around_62 : decode cX0_around 62 = .ok (.bipush 7, 2) := by decide +kernel
theorem dX0_around_64 : decode cX0_around 64 = .ok (.iload 5, 2) := by decide +kernel
theorem dX0_around_66 : decode cX0_around 66 = .ok (.isub, 1) := by decide +kernel
theorem dX0_around_67 : decode cX0_around 67 = .ok (.imul, 1) := by decide +kernel
theorem dX0_around_68 : decode cX0_around 68 = .ok (.lushr, 1) := by decide +kernel
theorem dX0_around_69 : decode cX0_around 69 = .ok (.land, 1) := by decide +kernel
theorem dX0_around_70 : decode cX0_around 70 = .ok (.lstore 8, 2) := by decide +kernel
theorem dX0_around_72 : decode cX0_around 72 = .ok (.ldc2_w 50, 3) := by decide +kernel
theorem dX0_around_75 : decode cX0_around 75 = .ok (.iload 6, 2) := by decide +kernel
theorem dX0_around_77 : decode cX0_around 77 = .ok (.lshl, 1) := by decide +kernel
theorem dX0_around_78 : decode cX0_around 78 = .ok (.ldc2_w 50, 3) := by decide +kernel
theorem dX0_around_81 : decode cX0_around 81 = .ok (.bipush 7, 2) := by decide +kernel
theorem dX0_around_83 : decode cX0_around 83 = .ok (.iload 7, 2) := by decide +kernel
theorem dX0_around_85 : decode cX0_around 85 = .ok (.isub, 1) := by decide +kernel
theorem dX0_around_86 : decode cX0_around 86 = .ok (.lushr, 1) := by decide +kernel
theorem dX0_around_87 : decode cX0_around 87 = .ok (.land, 1) := by decide +kernel
theorem dX0_around_88 : decode cX0_around 88 = .ok (.lstore 10, 2) := by decide +kernel
theorem dX0_around_90 : decode cX0_around 90 = .ok (.lload 8, 2) := by decide +kernel
theorem dX0_around_92 : decode cX0_around 92 = .ok (.lload 10, 2) := by decide +kernel
theorem dX0_around_94 : decode cX0_around 94 = .ok (.ldc2_w 52, 3) := by decide +kernel
theorem dX0_around_97 : decode cX0_around 97 = .ok (.lmul, 1) := by decide +kernel
theorem dX0_around_98 : decode cX0_around 98 = .ok (.land, 1) := by decide +kernel
theorem dX0_around_99 : decode cX0_around 99 = .ok (.lreturn, 1) := by decide +kernel
theorem dX0_spread_0 : decode cX0_spread 0 = .ok (.lload_n 0, 1) := by decide +kernel
theorem dX0_spread_1 : decode cX0_spread 1 = .ok (.ldc2_w 54, 3) := by decide +kernel
theorem dX0_spread_4 : decode cX0_spread 4 = .ok (.land, 1) := by decide +kernel
theorem dX0_spread_5 : decode cX0_spread 5 = .ok (.iconst 1, 1) := by decide +kernel
theorem dX0_spread_6 : decode cX0_spread 6 = .ok (.lushr, 1) := by decide +kernel
theorem dX0_spread_7 : decode cX0_spread 7 = .ok (.lstore_n 2, 1) := by decide +kernel
theorem dX0_spread_8 : decode cX0_spread 8 = .ok (.lload_n 0, 1) := by decide +kernel
theorem dX0_spread_9 : decode cX0_spread 9 = .ok (.iconst 1, 1) := by decide +kernel
theorem dX0_spread_10 : decode cX0_spread 10 = .ok (.lshl, 1) := by decide +kernel
theorem dX0_spread_11 : decode cX0_spread 11 = .ok (.ldc2_w 54, 3) := by decide +kernel
theorem dX0_spread_14 : decode cX0_spread 14 = .ok (.land, 1) := by decide +kernel
theorem dX0_spread_15 : decode cX0_spread 15 = .ok (.lstore 4, 2) := by decide +kernel
theorem dX0_spread_17 : decode cX0_spread 17 = .ok (.lload_n 0, 1) := by decide +kernel
theorem dX0_spread_18 : decode cX0_spread 18 = .ok (.lload_n 2, 1) := by decide +kernel
theorem dX0_spread_19 : decode cX0_spread 19 = .ok (.lor, 1) := by decide +kernel
theorem dX0_spread_20 : decode cX0_spread 20 = .ok (.lload 4, 2) := by decide +kernel
theorem dX0_spread_22 : decode cX0_spread 22 = .ok (.lor, 1) := by decide +kernel
theorem dX0_spread_23 : decode cX0_spread 23 = .ok (.lstore 6, 2) := by decide +kernel
theorem dX0_spread_25 : decode cX0_spread 25 = .ok (.lload 6, 2) := by decide +kernel
theorem dX0_spread_27 : decode cX0_spread 27 = .ok (.lload 6, 2) := by decide +kernel
theorem dX0_spread_29 : decode cX0_spread 29 = .ok (.bipush 8, 2) := by decide +kernel
theorem dX0_spread_31 : decode cX0_spread 31 = .ok (.lshl, 1) := by decide +kernel
theorem dX0_spread_32 : decode cX0_spread 32 = .ok (.lor, 1) := by decide +kernel
theorem dX0_spread_33 : decode cX0_spread 33 = .ok (.lload 6, 2) := by decide +kernel
theorem dX0_spread_35 : decode cX0_spread 35 = .ok (.bipush 8, 2) := by decide +kernel
theorem dX0_spread_37 : decode cX0_spread 37 = .ok (.lushr, 1) := by decide +kernel
theorem dX0_spread_38 : decode cX0_spread 38 = .ok (.lor, 1) := by decide +kernel
theorem dX0_spread_39 : decode cX0_spread 39 = .ok (.lreturn, 1) := by decide +kernel
set_option maxRecDepth 20000 in
theorem ggX0_leastWayInto_X0_next : GoodIn wsX0_leastWayInto wsX0_next := goodIn_r _ [4, 5, 6, 7, 8, 3, 9, 10, 11, 12] (by decide +kernel) (by decide +kernel)
set_option maxRecDepth 20000 in
theorem gX0_leastWayInto_X0_next : GoodIn wsX0_leastWayInto (va_wsS RX0 32 yX0_next wsX0_next) := goodIn_app (goodIn_of _ (by decide +kernel)) ggX0_leastWayInto_X0_next
set_option maxRecDepth 20000 in
theorem ggX0_leastWayInto_X0_holds : GoodIn wsX0_leastWayInto wsX0_holds := goodIn_r _ [15] (by decide +kernel) (by decide +kernel)
set_option maxRecDepth 20000 in
theorem gX0_leastWayInto_X0_holds : GoodIn wsX0_leastWayInto (va_wsS RX0 56 yX0_holds wsX0_holds) := goodIn_app (goodIn_of _ (by decide +kernel)) ggX0_leastWayInto_X0_holds
theorem dX0_leastWayInto_0 : decode cX0_leastWayInto 0 = .ok (.iconst 0, 1) := by decide +kernel
theorem dX0_leastWayInto_1 : decode cX0_leastWayInto 1 = .ok (.istore_n 3, 1) := by decide +kernel
theorem dX0_leastWayInto_2 : decode cX0_leastWayInto 2 = .ok (.iload_n 3, 1) := by decide +kernel
theorem dX0_leastWayInto_3 : decode cX0_leastWayInto 3 = .ok (.bipush 8, 2) := by decide +kernel
theorem dX0_leastWayInto_5 : decode cX0_leastWayInto 5 = .ok (.if_icmp .ge 23, 3) := by decide +kernel
theorem dX0_leastWayInto_8 : decode cX0_leastWayInto 8 = .ok (.lload_n 1, 1) := by decide +kernel
theorem dX0_leastWayInto_9 : decode cX0_leastWayInto 9 = .ok (.iload_n 0, 1) := by decide +kernel
theorem dX0_leastWayInto_10 : decode cX0_leastWayInto 10 = .ok (.iload_n 3, 1) := by decide +kernel
theorem dX0_leastWayInto_11 : decode cX0_leastWayInto 11 = .ok (.invokestatic 32, 3) := by decide +kernel
theorem dX0_leastWayInto_14 : decode cX0_leastWayInto 14 = .ok (.invokestatic 56, 3) := by decide +kernel
theorem dX0_leastWayInto_17 : decode cX0_leastWayInto 17 = .ok (.ifCond .eq 5, 3) := by decide +kernel
theorem dX0_leastWayInto_20 : decode cX0_leastWayInto 20 = .ok (.iload_n 3, 1) := by decide +kernel
theorem dX0_leastWayInto_21 : decode cX0_leastWayInto 21 = .ok (.ireturn, 1) := by decide +kernel
theorem dX0_leastWayInto_22 : decode cX0_leastWayInto 22 = .ok (.iinc 3 1, 3) := by decide +kernel
theorem dX0_leastWayInto_25 : decode cX0_leastWayInto 25 = .ok (.goto (-23), 3) := by decide +kernel
theorem dX0_leastWayInto_28 : decode cX0_leastWayInto 28 = .ok (.bipush (-6), 2) := by decide +kernel
theorem dX0_leastWayInto_30 : decode cX0_leastWayInto 30 = .ok (.ireturn, 1) := by decide +kernel
set_option maxRecDepth 20000 in
theorem ggX0_tacksFrom_X0_moved : GoodIn wsX0_tacksFrom wsX0_moved := goodIn_r _ [4] (by decide +kernel) (by decide +kernel)
set_option maxRecDepth 20000 in
theorem gX0_tacksFrom_X0_moved : GoodIn wsX0_tacksFrom (va_wsS RX0 28 yX0_moved wsX0_moved) := goodIn_app (goodIn_of _ (by decide +kernel)) ggX0_tacksFrom_X0_moved
set_option maxRecDepth 20000 in
theorem ggX0_tacksFrom_X0_only : GoodIn wsX0_tacksFrom wsX0_only := goodIn_r _ [7] (by decide +kernel) (by decide +kernel)
set_option maxRecDepth 20000 in
theorem gX0_tacksFrom_X0_only : GoodIn wsX0_tacksFrom (va_wsS RX0 36 yX0_only wsX0_only) := goodIn_app (goodIn_of _ (by decide +kernel)) ggX0_tacksFrom_X0_only
theorem dX0_tacksFrom_0 : decode cX0_tacksFrom 0 = .ok (.iload_n 0, 1) := by decide +kernel
theorem dX0_tacksFrom_1 : decode cX0_tacksFrom 1 = .ok (.bipush (-2), 2) := by decide +kernel
theorem dX0_tacksFrom_3 : decode cX0_tacksFrom 3 = .ok (.iconst 1, 1) := by decide +kernel
theorem dX0_tacksFrom_4 : decode cX0_tacksFrom 4 = .ok (.invokestatic 28, 3) := by decide +kernel
theorem dX0_tacksFrom_7 : decode cX0_tacksFrom 7 = .ok (.invokestatic 36, 3) := by decide +kernel
theorem dX0_tacksFrom_10 : decode cX0_tacksFrom 10 = .ok (.iload_n 0, 1) := by decide +kernel
theorem dX0_tacksFrom_11 : decode cX0_tacksFrom 11 = .ok (.bipush (-2), 2) := by decide +kernel
theorem dX0_tacksFrom_13 : decode cX0_tacksFrom 13 = .ok (.iconst (-1), 1) := by decide +kernel
theorem dX0_tacksFrom_14 : decode cX0_tacksFrom 14 = .ok (.invokestatic 28, 3) := by decide +kernel
theorem dX0_tacksFrom_17 : decode cX0_tacksFrom 17 = .ok (.invokestatic 36, 3) := by decide +kernel
theorem dX0_tacksFrom_20 : decode cX0_tacksFrom 20 = .ok (.lor, 1) := by decide +kernel
theorem dX0_tacksFrom_21 : decode cX0_tacksFrom 21 = .ok (.iload_n 0, 1) := by decide +kernel
theorem dX0_tacksFrom_22 : decode cX0_tacksFrom 22 = .ok (.iconst 1, 1) := by decide +kernel
theorem dX0_tacksFrom_23 : decode cX0_tacksFrom 23 = .ok (.bipush (-2), 2) := by decide +kernel
theorem dX0_tacksFrom_25 : decode cX0_tacksFrom 25 = .ok (.invokestatic 28, 3) := by decide +kernel
theorem dX0_tacksFrom_28 : decode cX0_tacksFrom 28 = .ok (.invokestatic 36, 3) := by decide +kernel
theorem dX0_tacksFrom_31 : decode cX0_tacksFrom 31 = .ok (.lor, 1) := by decide +kernel
theorem dX0_tacksFrom_32 : decode cX0_tacksFrom 32 = .ok (.iload_n 0, 1) := by decide +kernel
theorem dX0_tacksFrom_33 : decode cX0_tacksFrom 33 = .ok (.iconst (-1), 1) := by decide +kernel
theorem dX0_tacksFrom_34 : decode cX0_tacksFrom 34 = .ok (.bipush (-2), 2) := by decide +kernel
theorem dX0_tacksFrom_36 : decode cX0_tacksFrom 36 = .ok (.invokestatic 28, 3) := by decide +kernel
theorem dX0_tacksFrom_39 : decode cX0_tacksFrom 39 = .ok (.invokestatic 36, 3) := by decide +kernel
theorem dX0_tacksFrom_42 : decode cX0_tacksFrom 42 = .ok (.lor, 1) := by decide +kernel
theorem dX0_tacksFrom_43 : decode cX0_tacksFrom 43 = .ok (.lreturn, 1) := by decide +kernel
set_option maxRecDepth 20000 in
theorem ggX0_cellsWhereTackingLoses_X0_tacksFrom : GoodIn wsX0_cellsWhereTackingLoses wsX0_tacksFrom := goodIn_r _ [11, 12, 13, 10, 14, 15, 16, 17] (by decide +kernel) (by decide +kernel)
set_option maxRecDepth 20000 in
theorem gX0_cellsWhereTackingLoses_X0_tacksFrom : GoodIn wsX0_cellsWhereTackingLoses (va_wsS RX0 60 yX0_tacksFrom wsX0_tacksFrom) := goodIn_app (goodIn_of _ (by decide +kernel)) ggX0_cellsWhereTackingLoses_X0_tacksFrom
set_option maxRecDepth 20000 in
theorem ggX0_cellsWhereTackingLoses_X0_only : GoodIn wsX0_cellsWhereTackingLoses wsX0_only := goodIn_r _ [17] (by decide +kernel) (by decide +kernel)
set_option maxRecDepth 20000 in
theorem gX0_cellsWhereTackingLoses_X0_only : GoodIn wsX0_cellsWhereTackingLoses (va_wsS RX0 36 yX0_only wsX0_only) := goodIn_app (goodIn_of _ (by decide +kernel)) ggX0_cellsWhereTackingLoses_X0_only
theorem dX0_cellsWhereTackingLoses_0 : decode cX0_cellsWhereTackingLoses 0 = .ok (.lconst 0, 1) := by decide +kernel
theorem dX0_cellsWhereTackingLoses_1 : decode cX0_cellsWhereTackingLoses 1 = .ok (.lstore_n 0, 1) := by decide +kernel
theorem dX0_cellsWhereTackingLoses_2 : decode cX0_cellsWhereTackingLoses 2 = .ok (.iconst 0, 1) := by decide +kernel
theorem dX0_cellsWhereTackingLoses_3 : decode cX0_cellsWhereTackingLoses 3 = .ok (.istore_n 2, 1) := by decide +kernel
theorem dX0_cellsWhereTackingLoses_4 : decode cX0_cellsWhereTackingLoses 4 = .ok (.iload_n 2, 1) := by decide +kernel
theorem dX0_cellsWhereTackingLoses_5 : decode cX0_cellsWhereTackingLoses 5 = .ok (.bipush 14, 2) := by decide +kernel
theorem dX0_cellsWhereTackingLoses_7 : decode cX0_cellsWhereTackingLoses 7 = .ok (.if_icmp .gt 66, 3) := by decide +kernel
theorem dX0_cellsWhereTackingLoses_10 : decode cX0_cellsWhereTackingLoses 10 = .ok (.iconst 0, 1) := by decide +kernel
theorem dX0_cellsWhereTackingLoses_11 : decode cX0_cellsWhereTackingLoses 11 = .ok (.iload_n 2, 1) := by decide +kernel
theorem dX0_cellsWhereTackingLoses_12 : decode cX0_cellsWhereTackingLoses 12 = .ok (.bipush 8, 2) := by decide +kernel
theorem dX0_cellsWhereTackingLoses_14 : decode cX0_cellsWhereTackingLoses 14 = .ok (.isub, 1) := by decide +kernel
theorem dX0_cellsWhereTackingLoses_15 : decode cX0_cellsWhereTackingLoses 15 = .ok (.iconst 1, 1) := by decide +kernel
theorem dX0_cellsWhereTackingLoses_16 : decode cX0_cellsWhereTackingLoses 16 = .ok (.iadd, 1) := by decide +kernel
theorem dX0_cellsWhereTackingLoses_17 : decode cX0_cellsWhereTackingLoses 17 = .ok (.invokestatic 40, 3) := by decide +kernel
theorem dX0_cellsWhereTackingLoses_20 : decode cX0_cellsWhereTackingLoses 20 = .ok (.istore_n 3, 1) := by decide +kernel
theorem dX0_cellsWhereTackingLoses_21 : decode cX0_cellsWhereTackingLoses 21 = .ok (.iload_n 3, 1) := by decide +kernel
theorem dX0_cellsWhereTackingLoses_22 : decode cX0_cellsWhereTackingLoses 22 = .ok (.iload_n 2, 1) := by decide +kernel
theorem dX0_cellsWhereTackingLoses_23 : decode cX0_cellsWhereTackingLoses 23 = .ok (.bipush 7, 2) := by decide +kernel
theorem dX0_cellsWhereTackingLoses_25 : decode cX0_cellsWhereTackingLoses 25 = .ok (.invokestatic 45, 3) := by decide +kernel
theorem dX0_cellsWhereTackingLoses_28 : decode cX0_cellsWhereTackingLoses 28 = .ok (.if_icmp .gt 39, 3) := by decide +kernel
theorem dX0_cellsWhereTackingLoses_31 : decode cX0_cellsWhereTackingLoses 31 = .ok (.bipush 8, 2) := by decide +kernel
theorem dX0_cellsWhereTackingLoses_33 : decode cX0_cellsWhereTackingLoses 33 = .ok (.iload_n 3, 1) := by decide +kernel
theorem dX0_cellsWhereTackingLoses_34 : decode cX0_cellsWhereTackingLoses 34 = .ok (.imul, 1) := by decide +kernel
theorem dX0_cellsWhereTackingLoses_35 : decode cX0_cellsWhereTackingLoses 35 = .ok (.iload_n 2, 1) := by decide +kernel
theorem dX0_cellsWhereTackingLoses_36 : decode cX0_cellsWhereTackingLoses 36 = .ok (.iadd, 1) := by decide +kernel
theorem dX0_cellsWhereTackingLoses_37 : decode cX0_cellsWhereTackingLoses 37 = .ok (.iload_n 3, 1) := by decide +kernel
theorem dX0_cellsWhereTackingLoses_38 : decode cX0_cellsWhereTackingLoses 38 = .ok (.isub, 1) := by decide +kernel
theorem dX0_cellsWhereTackingLoses_39 : decode cX0_cellsWhereTackingLoses 39 = .ok (.istore 4, 2) := by decide +kernel
theorem dX0_cellsWhereTackingLoses_41 : decode cX0_cellsWhereTackingLoses 41 = .ok (.iload 4, 2) := by decide +kernel
theorem dX0_cellsWhereTackingLoses_43 : decode cX0_cellsWhereTackingLoses 43 = .ok (.invokestatic 60, 3) := by decide +kernel
theorem dX0_cellsWhereTackingLoses_46 : decode cX0_cellsWhereTackingLoses 46 = .ok (.lload_n 0, 1) := by decide +kernel
theorem dX0_cellsWhereTackingLoses_47 : decode cX0_cellsWhereTackingLoses 47 = .ok (.land, 1) := by decide +kernel
theorem dX0_cellsWhereTackingLoses_48 : decode cX0_cellsWhereTackingLoses 48 = .ok (.lconst 0, 1) := by decide +kernel
theorem dX0_cellsWhereTackingLoses_49 : decode cX0_cellsWhereTackingLoses 49 = .ok (.lcmp, 1) := by decide +kernel
theorem dX0_cellsWhereTackingLoses_50 : decode cX0_cellsWhereTackingLoses 50 = .ok (.ifCond .ne 11, 3) := by decide +kernel
theorem dX0_cellsWhereTackingLoses_53 : decode cX0_cellsWhereTackingLoses 53 = .ok (.lload_n 0, 1) := by decide +kernel
theorem dX0_cellsWhereTackingLoses_54 : decode cX0_cellsWhereTackingLoses 54 = .ok (.iload 4, 2) := by decide +kernel
theorem dX0_cellsWhereTackingLoses_56 : decode cX0_cellsWhereTackingLoses 56 = .ok (.invokestatic 36, 3) := by decide +kernel
theorem dX0_cellsWhereTackingLoses_59 : decode cX0_cellsWhereTackingLoses 59 = .ok (.lor, 1) := by decide +kernel
theorem dX0_cellsWhereTackingLoses_60 : decode cX0_cellsWhereTackingLoses 60 = .ok (.lstore_n 0, 1) := by decide +kernel
theorem dX0_cellsWhereTackingLoses_61 : decode cX0_cellsWhereTackingLoses 61 = .ok (.iinc 3 1, 3) := by decide +kernel
theorem dX0_cellsWhereTackingLoses_64 : decode cX0_cellsWhereTackingLoses 64 = .ok (.goto (-43), 3) := by decide +kernel
theorem dX0_cellsWhereTackingLoses_67 : decode cX0_cellsWhereTackingLoses 67 = .ok (.iinc 2 1, 3) := by decide +kernel
theorem dX0_cellsWhereTackingLoses_70 : decode cX0_cellsWhereTackingLoses 70 = .ok (.goto (-66), 3) := by decide +kernel
theorem dX0_cellsWhereTackingLoses_73 : decode cX0_cellsWhereTackingLoses 73 = .ok (.lload_n 0, 1) := by decide +kernel
theorem dX0_cellsWhereTackingLoses_74 : decode cX0_cellsWhereTackingLoses 74 = .ok (.lreturn, 1) := by decide +kernel
theorem dX1_init_0 : decode cX1_init 0 = .ok (.aload_n 0, 1) := by decide +kernel
theorem dX1_init_1 : decode cX1_init 1 = .ok (.invokespecial 1, 3) := by decide +kernel
theorem dX1_init_4 : decode cX1_init 4 = .ok (.return_, 1) := by decide +kernel
theorem dX1_watchByTurns_0 : decode cX1_watchByTurns 0 = .ok (.aload_n 0, 1) := by decide +kernel
theorem dX1_watchByTurns_1 : decode cX1_watchByTurns 1 = .ok (.lconst 0, 1) := by decide +kernel
theorem dX1_watchByTurns_2 : decode cX1_watchByTurns 2 = .ok (.putfield 7, 3) := by decide +kernel
theorem dX1_watchByTurns_5 : decode cX1_watchByTurns 5 = .ok (.aload_n 0, 1) := by decide +kernel
theorem dX1_watchByTurns_6 : decode cX1_watchByTurns 6 = .ok (.lconst 0, 1) := by decide +kernel
theorem dX1_watchByTurns_7 : decode cX1_watchByTurns 7 = .ok (.putfield 13, 3) := by decide +kernel
theorem dX1_watchByTurns_10 : decode cX1_watchByTurns 10 = .ok (.aload_n 0, 1) := by decide +kernel
theorem dX1_watchByTurns_11 : decode cX1_watchByTurns 11 = .ok (.lconst 1, 1) := by decide +kernel
theorem dX1_watchByTurns_12 : decode cX1_watchByTurns 12 = .ok (.putfield 16, 3) := by decide +kernel
theorem dX1_watchByTurns_15 : decode cX1_watchByTurns 15 = .ok (.aload_n 0, 1) := by decide +kernel
theorem dX1_watchByTurns_16 : decode cX1_watchByTurns 16 = .ok (.lconst 1, 1) := by decide +kernel
theorem dX1_watchByTurns_17 : decode cX1_watchByTurns 17 = .ok (.putfield 19, 3) := by decide +kernel
theorem dX1_watchByTurns_20 : decode cX1_watchByTurns 20 = .ok (.iconst 0, 1) := by decide +kernel
theorem dX1_watchByTurns_21 : decode cX1_watchByTurns 21 = .ok (.istore 4, 2) := by decide +kernel
theorem dX1_watchByTurns_23 : decode cX1_watchByTurns 23 = .ok (.iload 4, 2) := by decide +kernel
theorem dX1_watchByTurns_25 : decode cX1_watchByTurns 25 = .ok (.iload_n 3, 1) := by decide +kernel
theorem dX1_watchByTurns_26 : decode cX1_watchByTurns 26 = .ok (.if_icmp .ge 122, 3) := by decide +kernel
theorem dX1_watchByTurns_29 : decode cX1_watchByTurns 29 = .ok (.iload 4, 2) := by decide +kernel
theorem dX1_watchByTurns_31 : decode cX1_watchByTurns 31 = .ok (.iconst 2, 1) := by decide +kernel
theorem dX1_watchByTurns_32 : decode cX1_watchByTurns 32 = .ok (.irem, 1) := by decide +kernel
theorem dX1_watchByTurns_33 : decode cX1_watchByTurns 33 = .ok (.ifCond .ne 7, 3) := by decide +kernel
theorem dX1_watchByTurns_36 : decode cX1_watchByTurns 36 = .ok (.iconst 1, 1) := by decide +kernel
theorem dX1_watchByTurns_37 : decode cX1_watchByTurns 37 = .ok (.goto 4, 3) := by decide +kernel
theorem dX1_watchByTurns_40 : decode cX1_watchByTurns 40 = .ok (.iconst 0, 1) := by decide +kernel
theorem dX1_watchByTurns_41 : decode cX1_watchByTurns 41 = .ok (.istore 5, 2) := by decide +kernel
theorem dX1_watchByTurns_43 : decode cX1_watchByTurns 43 = .ok (.iload 5, 2) := by decide +kernel
theorem dX1_watchByTurns_45 : decode cX1_watchByTurns 45 = .ok (.ifCond .eq 7, 3) := by decide +kernel
theorem dX1_watchByTurns_48 : decode cX1_watchByTurns 48 = .ok (.iload_n 1, 1) := by decide +kernel
theorem dX1_watchByTurns_49 : decode cX1_watchByTurns 49 = .ok (.goto 4, 3) := by decide +kernel
theorem dX1_watchByTurns_52 : decode cX1_watchByTurns 52 = .ok (.iload_n 2, 1) := by decide +kernel
theorem dX1_watchByTurns_53 : decode cX1_watchByTurns 53 = .ok (.istore 6, 2) := by decide +kernel
theorem dX1_watchByTurns_55 : decode cX1_watchByTurns 55 = .ok (.aload_n 0, 1) := by decide +kernel
theorem dX1_watchByTurns_56 : decode cX1_watchByTurns 56 = .ok (.aload_n 0, 1) := by decide +kernel
theorem dX1_watchByTurns_57 : decode cX1_watchByTurns 57 = .ok (.getfield 7, 3) := by decide +kernel
theorem dX1_watchByTurns_60 : decode cX1_watchByTurns 60 = .ok (.ldc2_w 22, 3) := by decide +kernel
theorem dX1_watchByTurns_63 : decode cX1_watchByTurns 63 = .ok (.lmul, 1) := by decide +kernel
theorem dX1_watchByTurns_64 : decode cX1_watchByTurns 64 = .ok (.iload 5, 2) := by decide +kernel
theorem dX1_watchByTurns_66 : decode cX1_watchByTurns 66 = .ok (.ifCond .eq 14, 3) := by decide +kernel
theorem dX1_watchByTurns_69 : decode cX1_watchByTurns 69 = .ok (.aload_n 0, 1) := by decide +kernel
theorem dX1_watchByTurns_70 : decode cX1_watchByTurns 70 = .ok (.getfield 16, 3) := by decide +kernel
theorem dX1_watchByTurns_73 : decode cX1_watchByTurns 73 = .ok (.iload 6, 2) := by decide +kernel
theorem dX1_watchByTurns_75 : decode cX1_watchByTurns 75 = .ok (.i2l, 1) := by decide +kernel
theorem dX1_watchByTurns_76 : decode cX1_watchByTurns 76 = .ok (.lmul, 1) := by decide +kernel
theorem dX1_watchByTurns_77 : decode cX1_watchByTurns 77 = .ok (.goto 4, 3) := by decide +kernel
theorem dX1_watchByTurns_80 : decode cX1_watchByTurns 80 = .ok (.lconst 0, 1) := by decide +kernel
theorem dX1_watchByTurns_81 : decode cX1_watchByTurns 81 = .ok (.ladd, 1) := by decide +kernel
theorem dX1_watchByTurns_82 : decode cX1_watchByTurns 82 = .ok (.putfield 7, 3) := by decide +kernel
theorem dX1_watchByTurns_85 : decode cX1_watchByTurns 85 = .ok (.aload_n 0, 1) := by decide +kernel
theorem dX1_watchByTurns_86 : decode cX1_watchByTurns 86 = .ok (.aload_n 0, 1) := by decide +kernel
theorem dX1_watchByTurns_87 : decode cX1_watchByTurns 87 = .ok (.getfield 13, 3) := by decide +kernel
theorem dX1_watchByTurns_90 : decode cX1_watchByTurns 90 = .ok (.ldc2_w 22, 3) := by decide +kernel
theorem dX1_watchByTurns_93 : decode cX1_watchByTurns 93 = .ok (.lmul, 1) := by decide +kernel
theorem dX1_watchByTurns_94 : decode cX1_watchByTurns 94 = .ok (.iload 5, 2) := by decide +kernel
theorem dX1_watchByTurns_96 : decode cX1_watchByTurns 96 = .ok (.ifCond .eq 7, 3) := by decide +kernel
theorem dX1_watchByTurns_99 : decode cX1_watchByTurns 99 = .ok (.lconst 0, 1) := by decide +kernel
theorem dX1_watchByTurns_100 : decode cX1_watchByTurns 100 = .ok (.goto 11, 3) := by decide +kernel
theorem dX1_watchByTurns_103 : decode cX1_watchByTurns 103 = .ok (.aload_n 0, 1) := by decide +kernel
theorem dX1_watchByTurns_104 : decode cX1_watchByTurns 104 = .ok (.getfield 16, 3) := by decide +kernel
theorem dX1_watchByTurns_107 : decode cX1_watchByTurns 107 = .ok (.iload 6, 2) := by decide +kernel
theorem dX1_watchByTurns_109 : decode cX1_watchByTurns 109 = .ok (.i2l, 1) := by decide +kernel
theorem dX1_watchByTurns_110 : decode cX1_watchByTurns 110 = .ok (.lmul, 1) := by decide +kernel
theorem dX1_watchByTurns_111 : decode cX1_watchByTurns 111 = .ok (.ladd, 1) := by decide +kernel
theorem dX1_watchByTurns_112 : decode cX1_watchByTurns 112 = .ok (.putfield 13, 3) := by decide +kernel
theorem dX1_watchByTurns_115 : decode cX1_watchByTurns 115 = .ok (.aload_n 0, 1) := by decide +kernel
theorem dX1_watchByTurns_116 : decode cX1_watchByTurns 116 = .ok (.dup, 1) := by decide +kernel
theorem dX1_watchByTurns_117 : decode cX1_watchByTurns 117 = .ok (.getfield 16, 3) := by decide +kernel
theorem dX1_watchByTurns_120 : decode cX1_watchByTurns 120 = .ok (.bipush 10, 2) := by decide +kernel
theorem dX1_watchByTurns_122 : decode cX1_watchByTurns 122 = .ok (.iload 6, 2) := by decide +kernel
theorem dX1_watchByTurns_124 : decode cX1_watchByTurns 124 = .ok (.isub, 1) := by decide +kernel
theorem dX1_watchByTurns_125 : decode cX1_watchByTurns 125 = .ok (.i2l, 1) := by decide +kernel
theorem dX1_watchByTurns_126 : decode cX1_watchByTurns 126 = .ok (.lmul, 1) := by decide +kernel
theorem dX1_watchByTurns_127 : decode cX1_watchByTurns 127 = .ok (.putfield 16, 3) := by decide +kernel
theorem dX1_watchByTurns_130 : decode cX1_watchByTurns 130 = .ok (.aload_n 0, 1) := by decide +kernel
theorem dX1_watchByTurns_131 : decode cX1_watchByTurns 131 = .ok (.dup, 1) := by decide +kernel
theorem dX1_watchByTurns_132 : decode cX1_watchByTurns 132 = .ok (.getfield 19, 3) := by decide +kernel
theorem dX1_watchByTurns_135 : decode cX1_watchByTurns 135 = .ok (.ldc2_w 22, 3) := by decide +kernel
theorem dX1_watchByTurns_138 : decode cX1_watchByTurns 138 = .ok (.lmul, 1) := by decide +kernel
theorem dX1_watchByTurns_139 : decode cX1_watchByTurns 139 = .ok (.putfield 19, 3) := by decide +kernel
theorem dX1_watchByTurns_142 : decode cX1_watchByTurns 142 = .ok (.iinc 4 1, 3) := by decide +kernel
theorem dX1_watchByTurns_145 : decode cX1_watchByTurns 145 = .ok (.goto (-122), 3) := by decide +kernel
theorem dX1_watchByTurns_148 : decode cX1_watchByTurns 148 = .ok (.return_, 1) := by decide +kernel
set_option maxRecDepth 20000 in
theorem ggX1_chance_X1_partOf : GoodIn wsX1_chance wsX1_partOf := goodIn_r _ [8, 9, 10, 11, 12, 13, 14, 15] (by decide +kernel) (by decide +kernel)
set_option maxRecDepth 20000 in
theorem gX1_chance_X1_partOf : GoodIn wsX1_chance (wsV RX1 24 RX1 yX1_partOf wsX1_partOf) := goodIn_app (goodIn_of _ (by decide +kernel)) ggX1_chance_X1_partOf
theorem dX1_chance_0 : decode cX1_chance 0 = .ok (.iload_n 1, 1) := by decide +kernel
theorem dX1_chance_1 : decode cX1_chance 1 = .ok (.ifCond .ne 13, 3) := by decide +kernel
theorem dX1_chance_4 : decode cX1_chance 4 = .ok (.aload_n 0, 1) := by decide +kernel
theorem dX1_chance_5 : decode cX1_chance 5 = .ok (.aload_n 0, 1) := by decide +kernel
theorem dX1_chance_6 : decode cX1_chance 6 = .ok (.getfield 7, 3) := by decide +kernel
theorem dX1_chance_9 : decode cX1_chance 9 = .ok (.iload_n 2, 1) := by decide +kernel
theorem dX1_chance_10 : decode cX1_chance 10 = .ok (.invokevirtual 24, 3) := by decide +kernel
theorem dX1_chance_13 : decode cX1_chance 13 = .ok (.lreturn, 1) := by decide +kernel
theorem dX1_chance_14 : decode cX1_chance 14 = .ok (.aload_n 0, 1) := by decide +kernel
theorem dX1_chance_15 : decode cX1_chance 15 = .ok (.iload_n 1, 1) := by decide +kernel
theorem dX1_chance_16 : decode cX1_chance 16 = .ok (.iconst 1, 1) := by decide +kernel
theorem dX1_chance_17 : decode cX1_chance 17 = .ok (.if_icmp .ne 10, 3) := by decide +kernel
theorem dX1_chance_20 : decode cX1_chance 20 = .ok (.aload_n 0, 1) := by decide +kernel
theorem dX1_chance_21 : decode cX1_chance 21 = .ok (.getfield 13, 3) := by decide +kernel
theorem dX1_chance_24 : decode cX1_chance 24 = .ok (.goto 7, 3) := by decide +kernel
theorem dX1_chance_27 : decode cX1_chance 27 = .ok (.aload_n 0, 1) := by decide +kernel
theorem dX1_chance_28 : decode cX1_chance 28 = .ok (.getfield 16, 3) := by decide +kernel
theorem dX1_chance_31 : decode cX1_chance 31 = .ok (.iload_n 2, 1) := by decide +kernel
theorem dX1_chance_32 : decode cX1_chance 32 = .ok (.invokevirtual 24, 3) := by decide +kernel
theorem dX1_chance_35 : decode cX1_chance 35 = .ok (.lreturn, 1) := by decide +kernel
theorem dX1_partOf_0 : decode cX1_partOf 0 = .ok (.lload_n 1, 1) := by decide +kernel
theorem dX1_partOf_1 : decode cX1_partOf 1 = .ok (.lstore 4, 2) := by decide +kernel
theorem dX1_partOf_3 : decode cX1_partOf 3 = .ok (.aload_n 0, 1) := by decide +kernel
theorem dX1_partOf_4 : decode cX1_partOf 4 = .ok (.getfield 19, 3) := by decide +kernel
theorem dX1_partOf_7 : decode cX1_partOf 7 = .ok (.lstore 6, 2) := by decide +kernel
theorem dX1_partOf_9 : decode cX1_partOf 9 = .ok (.iconst 0, 1) := by decide +kernel
theorem dX1_partOf_10 : decode cX1_partOf 10 = .ok (.istore 8, 2) := by decide +kernel
theorem dX1_partOf_12 : decode cX1_partOf 12 = .ok (.iload 8, 2) := by decide +kernel
theorem dX1_partOf_14 : decode cX1_partOf 14 = .ok (.bipush 16, 2) := by decide +kernel
theorem dX1_partOf_16 : decode cX1_partOf 16 = .ok (.if_icmp .ge 85, 3) := by decide +kernel
theorem dX1_partOf_19 : decode cX1_partOf 19 = .ok (.lload 4, 2) := by decide +kernel
theorem dX1_partOf_21 : decode cX1_partOf 21 = .ok (.ldc2_w 28, 3) := by decide +kernel
theorem dX1_partOf_24 : decode cX1_partOf 24 = .ok (.lrem, 1) := by decide +kernel
theorem dX1_partOf_25 : decode cX1_partOf 25 = .ok (.lconst 0, 1) := by decide +kernel
theorem dX1_partOf_26 : decode cX1_partOf 26 = .ok (.lcmp, 1) := by decide +kernel
theorem dX1_partOf_27 : decode cX1_partOf 27 = .ok (.ifCond .ne 30, 3) := by decide +kernel
theorem dX1_partOf_30 : decode cX1_partOf 30 = .ok (.lload 6, 2) := by decide +kernel
theorem dX1_partOf_32 : decode cX1_partOf 32 = .ok (.ldc2_w 28, 3) := by decide +kernel
theorem dX1_partOf_35 : decode cX1_partOf 35 = .ok (.lrem, 1) := by decide +kernel
theorem dX1_partOf_36 : decode cX1_partOf 36 = .ok (.lconst 0, 1) := by decide +kernel
theorem dX1_partOf_37 : decode cX1_partOf 37 = .ok (.lcmp, 1) := by decide +kernel
theorem dX1_partOf_38 : decode cX1_partOf 38 = .ok (.ifCond .ne 19, 3) := by decide +kernel
theorem dX1_partOf_41 : decode cX1_partOf 41 = .ok (.lload 4, 2) := by decide +kernel
theorem dX1_partOf_43 : decode cX1_partOf 43 = .ok (.ldc2_w 28, 3) := by decide +kernel
theorem dX1_partOf_46 : decode cX1_partOf 46 = .ok (.ldiv, 1) := by decide +kernel
theorem dX1_partOf_47 : decode cX1_partOf 47 = .ok (.lstore 4, 2) := by decide +kernel
theorem dX1_partOf_49 : decode cX1_partOf 49 = .ok (.lload 6, 2) := by decide +kernel
theorem dX1_partOf_51 : decode cX1_partOf 51 = .ok (.ldc2_w 28, 3) := by decide +kernel
theorem dX1_partOf_54 : decode cX1_partOf 54 = .ok (.ldiv, 1) := by decide +kernel
theorem dX1_partOf_55 : decode cX1_partOf 55 = .ok (.lstore 6, 2) := by decide +kernel
theorem dX1_partOf_57 : decode cX1_partOf 57 = .ok (.lload 4, 2) := by decide +kernel
theorem dX1_partOf_59 : decode cX1_partOf 59 = .ok (.ldc2_w 30, 3) := by decide +kernel
theorem dX1_partOf_62 : decode cX1_partOf 62 = .ok (.lrem, 1) := by decide +kernel
theorem dX1_partOf_63 : decode cX1_partOf 63 = .ok (.lconst 0, 1) := by decide +kernel
theorem dX1_partOf_64 : decode cX1_partOf 64 = .ok (.lcmp, 1) := by decide +kernel
theorem dX1_partOf_65 : decode cX1_partOf 65 = .ok (.ifCond .ne 30, 3) := by decide +kernel
theorem dX1_partOf_68 : decode cX1_partOf 68 = .ok (.lload 6, 2) := by decide +kernel
theorem dX1_partOf_70 : decode cX1_partOf 70 = .ok (.ldc2_w 30, 3) := by decide +kernel
theorem dX1_partOf_73 : decode cX1_partOf 73 = .ok (.lrem, 1) := by decide +kernel
theorem dX1_partOf_74 : decode cX1_partOf 74 = .ok (.lconst 0, 1) := by decide +kernel
theorem dX1_partOf_75 : decode cX1_partOf 75 = .ok (.lcmp, 1) := by decide +kernel
theorem dX1_partOf_76 : decode cX1_partOf 76 = .ok (.ifCond .ne 19, 3) := by decide +kernel
theorem dX1_partOf_79 : decode cX1_partOf 79 = .ok (.lload 4, 2) := by decide +kernel
theorem dX1_partOf_81 : decode cX1_partOf 81 = .ok (.ldc2_w 30, 3) := by decide +kernel
theorem dX1_partOf_84 : decode cX1_partOf 84 = .ok (.ldiv, 1) := by decide +kernel
theorem dX1_partOf_85 : decode cX1_partOf 85 = .ok (.lstore 4, 2) := by decide +kernel
theorem dX1_partOf_87 : decode cX1_partOf 87 = .ok (.lload 6, 2) := by decide +kernel
theorem dX1_partOf_89 : decode cX1_partOf 89 = .ok (.ldc2_w 30, 3) := by decide +kernel
theorem dX1_partOf_92 : decode cX1_partOf 92 = .ok (.ldiv, 1) := by decide +kernel
theorem dX1_partOf_93 : decode cX1_partOf 93 = .ok (.lstore 6, 2) := by decide +kernel
theorem dX1_partOf_95 : decode cX1_partOf 95 = .ok (.iinc 8 1, 3) := by decide +kernel
theorem dX1_partOf_98 : decode cX1_partOf 98 = .ok (.goto (-86), 3) := by decide +kernel
theorem dX1_partOf_101 : decode cX1_partOf 101 = .ok (.iload_n 3, 1) := by decide +kernel
theorem dX1_partOf_102 : decode cX1_partOf 102 = .ok (.ifCond .ne 8, 3) := by decide +kernel
theorem dX1_partOf_105 : decode cX1_partOf 105 = .ok (.lload 4, 2) := by decide +kernel
theorem dX1_partOf_107 : decode cX1_partOf 107 = .ok (.goto 5, 3) := by decide +kernel
theorem dX1_partOf_110 : decode cX1_partOf 110 = .ok (.lload 6, 2) := by decide +kernel
theorem dX1_partOf_112 : decode cX1_partOf 112 = .ok (.lreturn, 1) := by decide +kernel
theorem dX2_init_0 : decode cX2_init 0 = .ok (.aload_n 0, 1) := by decide +kernel
theorem dX2_init_1 : decode cX2_init 1 = .ok (.invokespecial 3, 3) := by decide +kernel
theorem dX2_init_4 : decode cX2_init 4 = .ok (.aload_n 0, 1) := by decide +kernel
theorem dX2_init_5 : decode cX2_init 5 = .ok (.bipush 60, 2) := by decide +kernel
theorem dX2_init_7 : decode cX2_init 7 = .ok (.newarray .int, 2) := by decide +kernel
theorem dX2_init_9 : decode cX2_init 9 = .ok (.putfield 9, 3) := by decide +kernel
theorem dX2_init_12 : decode cX2_init 12 = .ok (.aload_n 0, 1) := by decide +kernel
theorem dX2_init_13 : decode cX2_init 13 = .ok (.iconst 0, 1) := by decide +kernel
theorem dX2_init_14 : decode cX2_init 14 = .ok (.putfield 15, 3) := by decide +kernel
theorem dX2_init_17 : decode cX2_init 17 = .ok (.return_, 1) := by decide +kernel
theorem dX2_write_0 : decode cX2_write 0 = .ok (.aload_n 0, 1) := by decide +kernel
theorem dX2_write_1 : decode cX2_write 1 = .ok (.getfield 15, 3) := by decide +kernel
theorem dX2_write_4 : decode cX2_write 4 = .ok (.ifCond .lt 15, 3) := by decide +kernel
theorem dX2_write_7 : decode cX2_write 7 = .ok (.aload_n 0, 1) := by decide +kernel
theorem dX2_write_8 : decode cX2_write 8 = .ok (.getfield 15, 3) := by decide +kernel
theorem dX2_write_11 : decode cX2_write 11 = .ok (.aload_n 0, 1) := by decide +kernel
theorem dX2_write_12 : decode cX2_write 12 = .ok (.getfield 9, 3) := by decide +kernel
theorem dX2_write_15 : decode cX2_write 15 = .ok (.arraylength, 1) := by decide +kernel
theorem dX2_write_16 : decode cX2_write 16 = .ok (.if_icmp .lt 5, 3) := by decide +kernel
theorem dX2_write_19 : decode cX2_write 19 = .ok (.iconst 0, 1) := by decide +kernel
theorem dX2_write_20 : decode cX2_write 20 = .ok (.ireturn, 1) := by decide +kernel
theorem dX2_write_21 : decode cX2_write 21 = .ok (.aload_n 0, 1) := by decide +kernel
theorem dX2_write_22 : decode cX2_write 22 = .ok (.getfield 9, 3) := by decide +kernel
theorem dX2_write_25 : decode cX2_write 25 = .ok (.aload_n 0, 1) := by decide +kernel
theorem dX2_write_26 : decode cX2_write 26 = .ok (.getfield 15, 3) := by decide +kernel
theorem dX2_write_29 : decode cX2_write 29 = .ok (.iload_n 1, 1) := by decide +kernel
theorem dX2_write_30 : decode cX2_write 30 = .ok (.iastore, 1) := by decide +kernel
theorem dX2_write_31 : decode cX2_write 31 = .ok (.aload_n 0, 1) := by decide +kernel
theorem dX2_write_32 : decode cX2_write 32 = .ok (.dup, 1) := by decide +kernel
theorem dX2_write_33 : decode cX2_write 33 = .ok (.getfield 15, 3) := by decide +kernel
theorem dX2_write_36 : decode cX2_write 36 = .ok (.iconst 1, 1) := by decide +kernel
theorem dX2_write_37 : decode cX2_write 37 = .ok (.iadd, 1) := by decide +kernel
theorem dX2_write_38 : decode cX2_write 38 = .ok (.putfield 15, 3) := by decide +kernel
theorem dX2_write_41 : decode cX2_write 41 = .ok (.iconst 1, 1) := by decide +kernel
theorem dX2_write_42 : decode cX2_write 42 = .ok (.ireturn, 1) := by decide +kernel
theorem dX2_signAt_0 : decode cX2_signAt 0 = .ok (.iload_n 1, 1) := by decide +kernel
theorem dX2_signAt_1 : decode cX2_signAt 1 = .ok (.ifCond .lt 29, 3) := by decide +kernel
theorem dX2_signAt_4 : decode cX2_signAt 4 = .ok (.iload_n 1, 1) := by decide +kernel
theorem dX2_signAt_5 : decode cX2_signAt 5 = .ok (.aload_n 0, 1) := by decide +kernel
theorem dX2_signAt_6 : decode cX2_signAt 6 = .ok (.getfield 15, 3) := by decide +kernel
theorem dX2_signAt_9 : decode cX2_signAt 9 = .ok (.if_icmp .ge 21, 3) := by decide +kernel
theorem dX2_signAt_12 : decode cX2_signAt 12 = .ok (.iload_n 1, 1) := by decide +kernel
theorem dX2_signAt_13 : decode cX2_signAt 13 = .ok (.aload_n 0, 1) := by decide +kernel
theorem dX2_signAt_14 : decode cX2_signAt 14 = .ok (.getfield 9, 3) := by decide +kernel
theorem dX2_signAt_17 : decode cX2_signAt 17 = .ok (.arraylength, 1) := by decide +kernel
theorem dX2_signAt_18 : decode cX2_signAt 18 = .ok (.if_icmp .ge 12, 3) := by decide +kernel
theorem dX2_signAt_21 : decode cX2_signAt 21 = .ok (.aload_n 0, 1) := by decide +kernel
theorem dX2_signAt_22 : decode cX2_signAt 22 = .ok (.getfield 9, 3) := by decide +kernel
theorem dX2_signAt_25 : decode cX2_signAt 25 = .ok (.iload_n 1, 1) := by decide +kernel
theorem dX2_signAt_26 : decode cX2_signAt 26 = .ok (.iaload, 1) := by decide +kernel
theorem dX2_signAt_27 : decode cX2_signAt 27 = .ok (.goto 5, 3) := by decide +kernel
theorem dX2_signAt_30 : decode cX2_signAt 30 = .ok (.bipush (-6), 2) := by decide +kernel
theorem dX2_signAt_32 : decode cX2_signAt 32 = .ok (.ireturn, 1) := by decide +kernel
theorem dX2_isLetter_0 : decode cX2_isLetter 0 = .ok (.iload_n 0, 1) := by decide +kernel
theorem dX2_isLetter_1 : decode cX2_isLetter 1 = .ok (.bipush 65, 2) := by decide +kernel
theorem dX2_isLetter_3 : decode cX2_isLetter 3 = .ok (.if_icmp .lt 13, 3) := by decide +kernel
theorem dX2_isLetter_6 : decode cX2_isLetter 6 = .ok (.iload_n 0, 1) := by decide +kernel
theorem dX2_isLetter_7 : decode cX2_isLetter 7 = .ok (.bipush 70, 2) := by decide +kernel
theorem dX2_isLetter_9 : decode cX2_isLetter 9 = .ok (.if_icmp .gt 7, 3) := by decide +kernel
theorem dX2_isLetter_12 : decode cX2_isLetter 12 = .ok (.iconst 1, 1) := by decide +kernel
theorem dX2_isLetter_13 : decode cX2_isLetter 13 = .ok (.goto 4, 3) := by decide +kernel
theorem dX2_isLetter_16 : decode cX2_isLetter 16 = .ok (.iconst 0, 1) := by decide +kernel
theorem dX2_isLetter_17 : decode cX2_isLetter 17 = .ok (.ireturn, 1) := by decide +kernel
theorem dX2_isDigit_0 : decode cX2_isDigit 0 = .ok (.iload_n 0, 1) := by decide +kernel
theorem dX2_isDigit_1 : decode cX2_isDigit 1 = .ok (.bipush 48, 2) := by decide +kernel
theorem dX2_isDigit_3 : decode cX2_isDigit 3 = .ok (.if_icmp .lt 13, 3) := by decide +kernel
theorem dX2_isDigit_6 : decode cX2_isDigit 6 = .ok (.iload_n 0, 1) := by decide +kernel
theorem dX2_isDigit_7 : decode cX2_isDigit 7 = .ok (.bipush 55, 2) := by decide +kernel
theorem dX2_isDigit_9 : decode cX2_isDigit 9 = .ok (.if_icmp .gt 7, 3) := by decide +kernel
theorem dX2_isDigit_12 : decode cX2_isDigit 12 = .ok (.iconst 1, 1) := by decide +kernel
theorem dX2_isDigit_13 : decode cX2_isDigit 13 = .ok (.goto 4, 3) := by decide +kernel
theorem dX2_isDigit_16 : decode cX2_isDigit 16 = .ok (.iconst 0, 1) := by decide +kernel
theorem dX2_isDigit_17 : decode cX2_isDigit 17 = .ok (.ireturn, 1) := by decide +kernel
set_option maxRecDepth 20000 in
theorem ggX2_actAt_X2_signAt : GoodIn wsX2_actAt wsX2_signAt := goodIn_r _ [5, 6, 7, 14, 15] (by decide +kernel) (by decide +kernel)
set_option maxRecDepth 20000 in
theorem gX2_actAt_X2_signAt : GoodIn wsX2_actAt (wsV RX2 19 RX2 yX2_signAt wsX2_signAt) := goodIn_app (goodIn_of _ (by decide +kernel)) ggX2_actAt_X2_signAt
set_option maxRecDepth 20000 in
theorem ggX2_actAt_X2_isLetter : GoodIn wsX2_actAt wsX2_isLetter := goodIn_r _ [10] (by decide +kernel) (by decide +kernel)
set_option maxRecDepth 20000 in
theorem gX2_actAt_X2_isLetter : GoodIn wsX2_actAt (va_wsS RX2 23 yX2_isLetter wsX2_isLetter) := goodIn_app (goodIn_of _ (by decide +kernel)) ggX2_actAt_X2_isLetter
set_option maxRecDepth 20000 in
theorem ggX2_actAt_X2_isDigit : GoodIn wsX2_actAt wsX2_isDigit := goodIn_r _ [13] (by decide +kernel) (by decide +kernel)
set_option maxRecDepth 20000 in
theorem gX2_actAt_X2_isDigit : GoodIn wsX2_actAt (va_wsS RX2 27 yX2_isDigit wsX2_isDigit) := goodIn_app (goodIn_of _ (by decide +kernel)) ggX2_actAt_X2_isDigit
theorem dX2_actAt_0 : decode cX2_actAt 0 = .ok (.aload_n 0, 1) := by decide +kernel
theorem dX2_actAt_1 : decode cX2_actAt 1 = .ok (.iload_n 1, 1) := by decide +kernel
theorem dX2_actAt_2 : decode cX2_actAt 2 = .ok (.invokevirtual 19, 3) := by decide +kernel
theorem dX2_actAt_5 : decode cX2_actAt 5 = .ok (.istore_n 2, 1) := by decide +kernel
theorem dX2_actAt_6 : decode cX2_actAt 6 = .ok (.aload_n 0, 1) := by decide +kernel
theorem dX2_actAt_7 : decode cX2_actAt 7 = .ok (.iload_n 1, 1) := by decide +kernel
theorem dX2_actAt_8 : decode cX2_actAt 8 = .ok (.iconst 1, 1) := by decide +kernel
theorem dX2_actAt_9 : decode cX2_actAt 9 = .ok (.iadd, 1) := by decide +kernel
theorem dX2_actAt_10 : decode cX2_actAt 10 = .ok (.invokevirtual 19, 3) := by decide +kernel
theorem dX2_actAt_13 : decode cX2_actAt 13 = .ok (.istore_n 3, 1) := by decide +kernel
theorem dX2_actAt_14 : decode cX2_actAt 14 = .ok (.iload_n 2, 1) := by decide +kernel
theorem dX2_actAt_15 : decode cX2_actAt 15 = .ok (.bipush 99, 2) := by decide +kernel
theorem dX2_actAt_17 : decode cX2_actAt 17 = .ok (.if_icmp .ne 5, 3) := by decide +kernel
theorem dX2_actAt_20 : decode cX2_actAt 20 = .ok (.iconst 4, 1) := by decide +kernel
theorem dX2_actAt_21 : decode cX2_actAt 21 = .ok (.ireturn, 1) := by decide +kernel
theorem dX2_actAt_22 : decode cX2_actAt 22 = .ok (.iload_n 2, 1) := by decide +kernel
theorem dX2_actAt_23 : decode cX2_actAt 23 = .ok (.bipush 46, 2) := by decide +kernel
theorem dX2_actAt_25 : decode cX2_actAt 25 = .ok (.if_icmp .ne 5, 3) := by decide +kernel
theorem dX2_actAt_28 : decode cX2_actAt 28 = .ok (.iconst 5, 1) := by decide +kernel
theorem dX2_actAt_29 : decode cX2_actAt 29 = .ok (.ireturn, 1) := by decide +kernel
theorem dX2_actAt_30 : decode cX2_actAt 30 = .ok (.iload_n 2, 1) := by decide +kernel
theorem dX2_actAt_31 : decode cX2_actAt 31 = .ok (.invokestatic 23, 3) := by decide +kernel
theorem dX2_actAt_34 : decode cX2_actAt 34 = .ok (.ifCond .eq 11, 3) := by decide +kernel
theorem dX2_actAt_37 : decode cX2_actAt 37 = .ok (.iload_n 3, 1) := by decide +kernel
theorem dX2_actAt_38 : decode cX2_actAt 38 = .ok (.bipush 94, 2) := by decide +kernel
theorem dX2_actAt_40 : decode cX2_actAt 40 = .ok (.if_icmp .ne 5, 3) := by decide +kernel
theorem dX2_actAt_43 : decode cX2_actAt 43 = .ok (.iconst 0, 1) := by decide +kernel
theorem dX2_actAt_44 : decode cX2_actAt 44 = .ok (.ireturn, 1) := by decide +kernel
theorem dX2_actAt_45 : decode cX2_actAt 45 = .ok (.iload_n 2, 1) := by decide +kernel
theorem dX2_actAt_46 : decode cX2_actAt 46 = .ok (.invokestatic 23, 3) := by decide +kernel
theorem dX2_actAt_49 : decode cX2_actAt 49 = .ok (.ifCond .eq 11, 3) := by decide +kernel
theorem dX2_actAt_52 : decode cX2_actAt 52 = .ok (.iload_n 3, 1) := by decide +kernel
theorem dX2_actAt_53 : decode cX2_actAt 53 = .ok (.bipush 95, 2) := by decide +kernel
theorem dX2_actAt_55 : decode cX2_actAt 55 = .ok (.if_icmp .ne 5, 3) := by decide +kernel
theorem dX2_actAt_58 : decode cX2_actAt 58 = .ok (.iconst 1, 1) := by decide +kernel
theorem dX2_actAt_59 : decode cX2_actAt 59 = .ok (.ireturn, 1) := by decide +kernel
theorem dX2_actAt_60 : decode cX2_actAt 60 = .ok (.iload_n 2, 1) := by decide +kernel
theorem dX2_actAt_61 : decode cX2_actAt 61 = .ok (.bipush 119, 2) := by decide +kernel
theorem dX2_actAt_63 : decode cX2_actAt 63 = .ok (.if_icmp .ne 12, 3) := by decide +kernel
theorem dX2_actAt_66 : decode cX2_actAt 66 = .ok (.iload_n 3, 1) := by decide +kernel
theorem dX2_actAt_67 : decode cX2_actAt 67 = .ok (.invokestatic 27, 3) := by decide +kernel
theorem dX2_actAt_70 : decode cX2_actAt 70 = .ok (.ifCond .eq 5, 3) := by decide +kernel
theorem dX2_actAt_73 : decode cX2_actAt 73 = .ok (.iconst 2, 1) := by decide +kernel
theorem dX2_actAt_74 : decode cX2_actAt 74 = .ok (.ireturn, 1) := by decide +kernel
theorem dX2_actAt_75 : decode cX2_actAt 75 = .ok (.iload_n 2, 1) := by decide +kernel
theorem dX2_actAt_76 : decode cX2_actAt 76 = .ok (.bipush 102, 2) := by decide +kernel
theorem dX2_actAt_78 : decode cX2_actAt 78 = .ok (.if_icmp .ne 14, 3) := by decide +kernel
theorem dX2_actAt_81 : decode cX2_actAt 81 = .ok (.iload_n 3, 1) := by decide +kernel
theorem dX2_actAt_82 : decode cX2_actAt 82 = .ok (.invokestatic 27, 3) := by decide +kernel
theorem dX2_actAt_85 : decode cX2_actAt 85 = .ok (.ifCond .eq 7, 3) := by decide +kernel
theorem dX2_actAt_88 : decode cX2_actAt 88 = .ok (.iconst 3, 1) := by decide +kernel
theorem dX2_actAt_89 : decode cX2_actAt 89 = .ok (.goto 5, 3) := by decide +kernel
theorem dX2_actAt_92 : decode cX2_actAt 92 = .ok (.bipush (-6), 2) := by decide +kernel
theorem dX2_actAt_94 : decode cX2_actAt 94 = .ok (.ireturn, 1) := by decide +kernel
set_option maxRecDepth 20000 in
theorem ggX2_withAt_X2_signAt : GoodIn wsX2_withAt wsX2_signAt := goodIn_r _ [5, 6, 7, 11, 12] (by decide +kernel) (by decide +kernel)
set_option maxRecDepth 20000 in
theorem gX2_withAt_X2_signAt : GoodIn wsX2_withAt (wsV RX2 19 RX2 yX2_signAt wsX2_signAt) := goodIn_app (goodIn_of _ (by decide +kernel)) ggX2_withAt_X2_signAt
set_option maxRecDepth 20000 in
theorem ggX2_withAt_X2_isLetter : GoodIn wsX2_withAt wsX2_isLetter := goodIn_r _ [10] (by decide +kernel) (by decide +kernel)
set_option maxRecDepth 20000 in
theorem gX2_withAt_X2_isLetter : GoodIn wsX2_withAt (va_wsS RX2 23 yX2_isLetter wsX2_isLetter) := goodIn_app (goodIn_of _ (by decide +kernel)) ggX2_withAt_X2_isLetter
theorem dX2_withAt_0 : decode cX2_withAt 0 = .ok (.aload_n 0, 1) := by decide +kernel
theorem dX2_withAt_1 : decode cX2_withAt 1 = .ok (.iload_n 1, 1) := by decide +kernel
theorem dX2_withAt_2 : decode cX2_withAt 2 = .ok (.invokevirtual 19, 3) := by decide +kernel
theorem dX2_withAt_5 : decode cX2_withAt 5 = .ok (.istore_n 2, 1) := by decide +kernel
theorem dX2_withAt_6 : decode cX2_withAt 6 = .ok (.iload_n 2, 1) := by decide +kernel
theorem dX2_withAt_7 : decode cX2_withAt 7 = .ok (.invokestatic 23, 3) := by decide +kernel
theorem dX2_withAt_10 : decode cX2_withAt 10 = .ok (.ifCond .eq 10, 3) := by decide +kernel
theorem dX2_withAt_13 : decode cX2_withAt 13 = .ok (.iload_n 2, 1) := by decide +kernel
theorem dX2_withAt_14 : decode cX2_withAt 14 = .ok (.bipush 65, 2) := by decide +kernel
theorem dX2_withAt_16 : decode cX2_withAt 16 = .ok (.isub, 1) := by decide +kernel
theorem dX2_withAt_17 : decode cX2_withAt 17 = .ok (.goto 13, 3) := by decide +kernel
theorem dX2_withAt_20 : decode cX2_withAt 20 = .ok (.aload_n 0, 1) := by decide +kernel
theorem dX2_withAt_21 : decode cX2_withAt 21 = .ok (.iload_n 1, 1) := by decide +kernel
theorem dX2_withAt_22 : decode cX2_withAt 22 = .ok (.iconst 1, 1) := by decide +kernel
theorem dX2_withAt_23 : decode cX2_withAt 23 = .ok (.iadd, 1) := by decide +kernel
theorem dX2_withAt_24 : decode cX2_withAt 24 = .ok (.invokevirtual 19, 3) := by decide +kernel
theorem dX2_withAt_27 : decode cX2_withAt 27 = .ok (.bipush 48, 2) := by decide +kernel
theorem dX2_withAt_29 : decode cX2_withAt 29 = .ok (.isub, 1) := by decide +kernel
theorem dX2_withAt_30 : decode cX2_withAt 30 = .ok (.ireturn, 1) := by decide +kernel
theorem dX2_signsOf_0 : decode cX2_signsOf 0 = .ok (.iload_n 0, 1) := by decide +kernel
theorem dX2_signsOf_1 : decode cX2_signsOf 1 = .ok (.iconst 4, 1) := by decide +kernel
theorem dX2_signsOf_2 : decode cX2_signsOf 2 = .ok (.if_icmp .eq 8, 3) := by decide +kernel
theorem dX2_signsOf_5 : decode cX2_signsOf 5 = .ok (.iload_n 0, 1) := by decide +kernel
theorem dX2_signsOf_6 : decode cX2_signsOf 6 = .ok (.iconst 5, 1) := by decide +kernel
theorem dX2_signsOf_7 : decode cX2_signsOf 7 = .ok (.if_icmp .ne 7, 3) := by decide +kernel
theorem dX2_signsOf_10 : decode cX2_signsOf 10 = .ok (.iconst 1, 1) := by decide +kernel
theorem dX2_signsOf_11 : decode cX2_signsOf 11 = .ok (.goto 4, 3) := by decide +kernel
theorem dX2_signsOf_14 : decode cX2_signsOf 14 = .ok (.iconst 2, 1) := by decide +kernel
theorem dX2_signsOf_15 : decode cX2_signsOf 15 = .ok (.ireturn, 1) := by decide +kernel
set_option maxRecDepth 20000 in
theorem ggX2_firstFault_X2_actAt : GoodIn wsX2_firstFault wsX2_actAt := goodIn_r _ [6, 7, 8, 9, 5, 10, 1, 11, 12, 13, 14, 15, 16, 17, 24, 25] (by decide +kernel) (by decide +kernel)
set_option maxRecDepth 20000 in
theorem gX2_firstFault_X2_actAt : GoodIn wsX2_firstFault (wsV RX2 30 RX2 yX2_actAt wsX2_actAt) := goodIn_app (goodIn_of _ (by decide +kernel)) ggX2_firstFault_X2_actAt
set_option maxRecDepth 20000 in
theorem ggX2_firstFault_X2_signAt : GoodIn wsX2_firstFault wsX2_signAt := goodIn_r _ [10, 1, 11, 24, 25] (by decide +kernel) (by decide +kernel)
set_option maxRecDepth 20000 in
theorem gX2_firstFault_X2_signAt : GoodIn wsX2_firstFault (wsV RX2 19 RX2 yX2_signAt wsX2_signAt) := goodIn_app (goodIn_of _ (by decide +kernel)) ggX2_firstFault_X2_signAt
set_option maxRecDepth 20000 in
theorem ggX2_firstFault_X2_needsASecond : GoodIn wsX2_firstFault wsX2_needsASecond := goodIn_r _ [20, 12, 13, 5, 14] (by decide +kernel) (by decide +kernel)
set_option maxRecDepth 20000 in
theorem gX2_firstFault_X2_needsASecond : GoodIn wsX2_firstFault (va_wsS RX2 33 yX2_needsASecond wsX2_needsASecond) := goodIn_app (goodIn_of _ (by decide +kernel)) ggX2_firstFault_X2_needsASecond
set_option maxRecDepth 20000 in
theorem ggX2_firstFault_X2_signsOf : GoodIn wsX2_firstFault wsX2_signsOf := goodIn_r _ [23] (by decide +kernel) (by decide +kernel)
set_option maxRecDepth 20000 in
theorem gX2_firstFault_X2_signsOf : GoodIn wsX2_firstFault (va_wsS RX2 36 yX2_signsOf wsX2_signsOf) := goodIn_app (goodIn_of _ (by decide +kernel)) ggX2_firstFault_X2_signsOf
theorem dX2_firstFault_0 : decode cX2_firstFault 0 = .ok (.iconst 0, 1) := by decide +kernel
theorem dX2_firstFault_1 : decode cX2_firstFault 1 = .ok (.istore_n 1, 1) := by decide +kernel
theorem dX2_firstFault_2 : decode cX2_firstFault 2 = .ok (.iconst 0, 1) := by decide +kernel
theorem dX2_firstFault_3 : decode cX2_firstFault 3 = .ok (.istore_n 2, 1) := by decide +kernel
theorem dX2_firstFault_4 : decode cX2_firstFault 4 = .ok (.iload_n 2, 1) := by decide +kernel
theorem dX2_firstFault_5 : decode cX2_firstFault 5 = .ok (.aload_n 0, 1) := by decide +kernel
theorem dX2_firstFault_6 : decode cX2_firstFault 6 = .ok (.getfield 15, 3) := by decide +kernel
theorem dX2_firstFault_9 : decode cX2_firstFault 9 = .ok (.if_icmp .ge 55, 3) := by decide +kernel
theorem dX2_firstFault_12 : decode cX2_firstFault 12 = .ok (.iload_n 1, 1) := by decide +kernel
theorem dX2_firstFault_13 : decode cX2_firstFault 13 = .ok (.aload_n 0, 1) := by decide +kernel
theorem dX2_firstFault_14 : decode cX2_firstFault 14 = .ok (.getfield 15, 3) := by decide +kernel
theorem dX2_firstFault_17 : decode cX2_firstFault 17 = .ok (.if_icmp .ge 47, 3) := by decide +kernel
theorem dX2_firstFault_20 : decode cX2_firstFault 20 = .ok (.aload_n 0, 1) := by decide +kernel
theorem dX2_firstFault_21 : decode cX2_firstFault 21 = .ok (.iload_n 1, 1) := by decide +kernel
theorem dX2_firstFault_22 : decode cX2_firstFault 22 = .ok (.invokevirtual 30, 3) := by decide +kernel
theorem dX2_firstFault_25 : decode cX2_firstFault 25 = .ok (.istore_n 3, 1) := by decide +kernel
theorem dX2_firstFault_26 : decode cX2_firstFault 26 = .ok (.iload_n 3, 1) := by decide +kernel
theorem dX2_firstFault_27 : decode cX2_firstFault 27 = .ok (.bipush (-6), 2) := by decide +kernel
theorem dX2_firstFault_29 : decode cX2_firstFault 29 = .ok (.if_icmp .ne 22, 3) := by decide +kernel
theorem dX2_firstFault_32 : decode cX2_firstFault 32 = .ok (.aload_n 0, 1) := by decide +kernel
theorem dX2_firstFault_33 : decode cX2_firstFault 33 = .ok (.iload_n 1, 1) := by decide +kernel
theorem dX2_firstFault_34 : decode cX2_firstFault 34 = .ok (.invokevirtual 19, 3) := by decide +kernel
theorem dX2_firstFault_37 : decode cX2_firstFault 37 = .ok (.invokestatic 33, 3) := by decide +kernel
theorem dX2_firstFault_40 : decode cX2_firstFault 40 = .ok (.ifCond .eq 9, 3) := by decide +kernel
theorem dX2_firstFault_43 : decode cX2_firstFault 43 = .ok (.iload_n 1, 1) := by decide +kernel
theorem dX2_firstFault_44 : decode cX2_firstFault 44 = .ok (.iconst 1, 1) := by decide +kernel
theorem dX2_firstFault_45 : decode cX2_firstFault 45 = .ok (.iadd, 1) := by decide +kernel
theorem dX2_firstFault_46 : decode cX2_firstFault 46 = .ok (.goto 4, 3) := by decide +kernel
theorem dX2_firstFault_49 : decode cX2_firstFault 49 = .ok (.iload_n 1, 1) := by decide +kernel
theorem dX2_firstFault_50 : decode cX2_firstFault 50 = .ok (.ireturn, 1) := by decide +kernel
theorem dX2_firstFault_51 : decode cX2_firstFault 51 = .ok (.iload_n 1, 1) := by decide +kernel
theorem dX2_firstFault_52 : decode cX2_firstFault 52 = .ok (.iload_n 3, 1) := by decide +kernel
theorem dX2_firstFault_53 : decode cX2_firstFault 53 = .ok (.invokestatic 36, 3) := by decide +kernel
theorem dX2_firstFault_56 : decode cX2_firstFault 56 = .ok (.iadd, 1) := by decide +kernel
theorem dX2_firstFault_57 : decode cX2_firstFault 57 = .ok (.istore_n 1, 1) := by decide +kernel
theorem dX2_firstFault_58 : decode cX2_firstFault 58 = .ok (.iinc 2 1, 3) := by decide +kernel
theorem dX2_firstFault_61 : decode cX2_firstFault 61 = .ok (.goto (-57), 3) := by decide +kernel
theorem dX2_firstFault_64 : decode cX2_firstFault 64 = .ok (.bipush (-6), 2) := by decide +kernel
theorem dX2_firstFault_66 : decode cX2_firstFault 66 = .ok (.ireturn, 1) := by decide +kernel
set_option maxRecDepth 20000 in
theorem ggX2_needsASecond_X2_isLetter : GoodIn wsX2_needsASecond wsX2_isLetter := goodIn_r _ [4] (by decide +kernel) (by decide +kernel)
set_option maxRecDepth 20000 in
theorem gX2_needsASecond_X2_isLetter : GoodIn wsX2_needsASecond (va_wsS RX2 23 yX2_isLetter wsX2_isLetter) := goodIn_app (goodIn_of _ (by decide +kernel)) ggX2_needsASecond_X2_isLetter
theorem dX2_needsASecond_0 : decode cX2_needsASecond 0 = .ok (.iload_n 0, 1) := by decide +kernel
theorem dX2_needsASecond_1 : decode cX2_needsASecond 1 = .ok (.invokestatic 23, 3) := by decide +kernel
theorem dX2_needsASecond_4 : decode cX2_needsASecond 4 = .ok (.ifCond .ne 15, 3) := by decide +kernel
theorem dX2_needsASecond_7 : decode cX2_needsASecond 7 = .ok (.iload_n 0, 1) := by decide +kernel
theorem dX2_needsASecond_8 : decode cX2_needsASecond 8 = .ok (.bipush 119, 2) := by decide +kernel
theorem dX2_needsASecond_10 : decode cX2_needsASecond 10 = .ok (.if_icmp .eq 9, 3) := by decide +kernel
theorem dX2_needsASecond_13 : decode cX2_needsASecond 13 = .ok (.iload_n 0, 1) := by decide +kernel
theorem dX2_needsASecond_14 : decode cX2_needsASecond 14 = .ok (.bipush 102, 2) := by decide +kernel
theorem dX2_needsASecond_16 : decode cX2_needsASecond 16 = .ok (.if_icmp .ne 7, 3) := by decide +kernel
theorem dX2_needsASecond_19 : decode cX2_needsASecond 19 = .ok (.iconst 1, 1) := by decide +kernel
theorem dX2_needsASecond_20 : decode cX2_needsASecond 20 = .ok (.goto 4, 3) := by decide +kernel
theorem dX2_needsASecond_23 : decode cX2_needsASecond 23 = .ok (.iconst 0, 1) := by decide +kernel
theorem dX2_needsASecond_24 : decode cX2_needsASecond 24 = .ok (.ireturn, 1) := by decide +kernel
theorem dX3_init_0 : decode cX3_init 0 = .ok (.aload_n 0, 1) := by decide +kernel
theorem dX3_init_1 : decode cX3_init 1 = .ok (.invokespecial 3, 3) := by decide +kernel
theorem dX3_init_4 : decode cX3_init 4 = .ok (.aload_n 0, 1) := by decide +kernel
theorem dX3_init_5 : decode cX3_init 5 = .ok (.bipush 9, 2) := by decide +kernel
theorem dX3_init_7 : decode cX3_init 7 = .ok (.newarray .int, 2) := by decide +kernel
theorem dX3_init_9 : decode cX3_init 9 = .ok (.putfield 11, 3) := by decide +kernel
theorem dX3_init_12 : decode cX3_init 12 = .ok (.aload_n 0, 1) := by decide +kernel
theorem dX3_init_13 : decode cX3_init 13 = .ok (.sipush 512, 3) := by decide +kernel
theorem dX3_init_16 : decode cX3_init 16 = .ok (.newarray .int, 2) := by decide +kernel
theorem dX3_init_18 : decode cX3_init 18 = .ok (.putfield 15, 3) := by decide +kernel
theorem dX3_init_21 : decode cX3_init 21 = .ok (.aload_n 0, 1) := by decide +kernel
theorem dX3_init_22 : decode cX3_init 22 = .ok (.iconst 0, 1) := by decide +kernel
theorem dX3_init_23 : decode cX3_init 23 = .ok (.putfield 18, 3) := by decide +kernel
theorem dX3_init_26 : decode cX3_init 26 = .ok (.return_, 1) := by decide +kernel
theorem dX3_takePieces_0 : decode cX3_takePieces 0 = .ok (.iload_n 1, 1) := by decide +kernel
theorem dX3_takePieces_1 : decode cX3_takePieces 1 = .ok (.istore_n 3, 1) := by decide +kernel
theorem dX3_takePieces_2 : decode cX3_takePieces 2 = .ok (.aload_n 0, 1) := by decide +kernel
theorem dX3_takePieces_3 : decode cX3_takePieces 3 = .ok (.iconst 0, 1) := by decide +kernel
theorem dX3_takePieces_4 : decode cX3_takePieces 4 = .ok (.putfield 18, 3) := by decide +kernel
theorem dX3_takePieces_7 : decode cX3_takePieces 7 = .ok (.iconst 0, 1) := by decide +kernel
theorem dX3_takePieces_8 : decode cX3_takePieces 8 = .ok (.istore 4, 2) := by decide +kernel
theorem dX3_takePieces_10 : decode cX3_takePieces 10 = .ok (.iload 4, 2) := by decide +kernel
theorem dX3_takePieces_12 : decode cX3_takePieces 12 = .ok (.iload_n 2, 1) := by decide +kernel
theorem dX3_takePieces_13 : decode cX3_takePieces 13 = .ok (.if_icmp .ge 58, 3) := by decide +kernel
theorem dX3_takePieces_16 : decode cX3_takePieces 16 = .ok (.iload 4, 2) := by decide +kernel
theorem dX3_takePieces_18 : decode cX3_takePieces 18 = .ok (.aload_n 0, 1) := by decide +kernel
theorem dX3_takePieces_19 : decode cX3_takePieces 19 = .ok (.getfield 11, 3) := by decide +kernel
theorem dX3_takePieces_22 : decode cX3_takePieces 22 = .ok (.arraylength, 1) := by decide +kernel
theorem dX3_takePieces_23 : decode cX3_takePieces 23 = .ok (.if_icmp .ge 48, 3) := by decide +kernel
theorem dX3_takePieces_26 : decode cX3_takePieces 26 = .ok (.iload_n 3, 1) := by decide +kernel
theorem dX3_takePieces_27 : decode cX3_takePieces 27 = .ok (.ifCond .le 10, 3) := by decide +kernel
theorem dX3_takePieces_30 : decode cX3_takePieces 30 = .ok (.iload_n 3, 1) := by decide +kernel
theorem dX3_takePieces_31 : decode cX3_takePieces 31 = .ok (.bipush 10, 2) := by decide +kernel
theorem dX3_takePieces_33 : decode cX3_takePieces 33 = .ok (.irem, 1) := by decide +kernel
theorem dX3_takePieces_34 : decode cX3_takePieces 34 = .ok (.ifCond .ne 5, 3) := by decide +kernel
theorem dX3_takePieces_37 : decode cX3_takePieces 37 = .ok (.iconst 0, 1) := by decide +kernel
theorem dX3_takePieces_38 : decode cX3_takePieces 38 = .ok (.ireturn, 1) := by decide +kernel
theorem dX3_takePieces_39 : decode cX3_takePieces 39 = .ok (.aload_n 0, 1) := by decide +kernel
theorem dX3_takePieces_40 : decode cX3_takePieces 40 = .ok (.getfield 11, 3) := by decide +kernel
theorem dX3_takePieces_43 : decode cX3_takePieces 43 = .ok (.iload 4, 2) := by decide +kernel
theorem dX3_takePieces_45 : decode cX3_takePieces 45 = .ok (.iload_n 3, 1) := by decide +kernel
theorem dX3_takePieces_46 : decode cX3_takePieces 46 = .ok (.bipush 10, 2) := by decide +kernel
theorem dX3_takePieces_48 : decode cX3_takePieces 48 = .ok (.irem, 1) := by decide +kernel
theorem dX3_takePieces_49 : decode cX3_takePieces 49 = .ok (.iastore, 1) := by decide +kernel
theorem dX3_takePieces_50 : decode cX3_takePieces 50 = .ok (.iload_n 3, 1) := by decide +kernel
theorem dX3_takePieces_51 : decode cX3_takePieces 51 = .ok (.bipush 10, 2) := by decide +kernel
theorem dX3_takePieces_53 : decode cX3_takePieces 53 = .ok (.idiv, 1) := by decide +kernel
theorem dX3_takePieces_54 : decode cX3_takePieces 54 = .ok (.istore_n 3, 1) := by decide +kernel
theorem dX3_takePieces_55 : decode cX3_takePieces 55 = .ok (.aload_n 0, 1) := by decide +kernel
theorem dX3_takePieces_56 : decode cX3_takePieces 56 = .ok (.dup, 1) := by decide +kernel
theorem dX3_takePieces_57 : decode cX3_takePieces 57 = .ok (.getfield 18, 3) := by decide +kernel
theorem dX3_takePieces_60 : decode cX3_takePieces 60 = .ok (.iconst 1, 1) := by decide +kernel
theorem dX3_takePieces_61 : decode cX3_takePieces 61 = .ok (.iadd, 1) := by decide +kernel
theorem dX3_takePieces_62 : decode cX3_takePieces 62 = .ok (.putfield 18, 3) := by decide +kernel
theorem dX3_takePieces_65 : decode cX3_takePieces 65 = .ok (.iinc 4 1, 3) := by decide +kernel
theorem dX3_takePieces_68 : decode cX3_takePieces 68 = .ok (.goto (-58), 3) := by decide +kernel
theorem dX3_takePieces_71 : decode cX3_takePieces 71 = .ok (.iload_n 3, 1) := by decide +kernel
theorem dX3_takePieces_72 : decode cX3_takePieces 72 = .ok (.ifCond .ne 7, 3) := by decide +kernel
theorem dX3_takePieces_75 : decode cX3_takePieces 75 = .ok (.iconst 1, 1) := by decide +kernel
theorem dX3_takePieces_76 : decode cX3_takePieces 76 = .ok (.goto 4, 3) := by decide +kernel
theorem dX3_takePieces_79 : decode cX3_takePieces 79 = .ok (.iconst 0, 1) := by decide +kernel
theorem dX3_takePieces_80 : decode cX3_takePieces 80 = .ok (.ireturn, 1) := by decide +kernel
set_option maxRecDepth 20000 in
theorem ggX3_fewestRopes_X3_leastCut : GoodIn wsX3_fewestRopes wsX3_leastCut := goodIn_r _ [7, 2, 8, 1, 9, 10, 11, 12, 13, 14, 6, 15, 16, 17, 18] (by decide +kernel) (by decide +kernel)
set_option maxRecDepth 20000 in
theorem gX3_fewestRopes_X3_leastCut : GoodIn wsX3_fewestRopes (wsV RX3 22 RX3 yX3_leastCut wsX3_leastCut) := goodIn_app (goodIn_of _ (by decide +kernel)) ggX3_fewestRopes_X3_leastCut
theorem dX3_fewestRopes_0 : decode cX3_fewestRopes 0 = .ok (.aload_n 0, 1) := by decide +kernel
theorem dX3_fewestRopes_1 : decode cX3_fewestRopes 1 = .ok (.getfield 15, 3) := by decide +kernel
theorem dX3_fewestRopes_4 : decode cX3_fewestRopes 4 = .ok (.iconst 0, 1) := by decide +kernel
theorem dX3_fewestRopes_5 : decode cX3_fewestRopes 5 = .ok (.iconst 0, 1) := by decide +kernel
theorem dX3_fewestRopes_6 : decode cX3_fewestRopes 6 = .ok (.iastore, 1) := by decide +kernel
theorem dX3_fewestRopes_7 : decode cX3_fewestRopes 7 = .ok (.iconst 1, 1) := by decide +kernel
theorem dX3_fewestRopes_8 : decode cX3_fewestRopes 8 = .ok (.istore_n 2, 1) := by decide +kernel
theorem dX3_fewestRopes_9 : decode cX3_fewestRopes 9 = .ok (.iload_n 2, 1) := by decide +kernel
theorem dX3_fewestRopes_10 : decode cX3_fewestRopes 10 = .ok (.iconst 1, 1) := by decide +kernel
theorem dX3_fewestRopes_11 : decode cX3_fewestRopes 11 = .ok (.aload_n 0, 1) := by decide +kernel
theorem dX3_fewestRopes_12 : decode cX3_fewestRopes 12 = .ok (.getfield 18, 3) := by decide +kernel
theorem dX3_fewestRopes_15 : decode cX3_fewestRopes 15 = .ok (.ishl, 1) := by decide +kernel
theorem dX3_fewestRopes_16 : decode cX3_fewestRopes 16 = .ok (.if_icmp .ge 30, 3) := by decide +kernel
theorem dX3_fewestRopes_19 : decode cX3_fewestRopes 19 = .ok (.iload_n 2, 1) := by decide +kernel
theorem dX3_fewestRopes_20 : decode cX3_fewestRopes 20 = .ok (.aload_n 0, 1) := by decide +kernel
theorem dX3_fewestRopes_21 : decode cX3_fewestRopes 21 = .ok (.getfield 15, 3) := by decide +kernel
theorem dX3_fewestRopes_24 : decode cX3_fewestRopes 24 = .ok (.arraylength, 1) := by decide +kernel
theorem dX3_fewestRopes_25 : decode cX3_fewestRopes 25 = .ok (.if_icmp .ge 21, 3) := by decide +kernel
theorem dX3_fewestRopes_28 : decode cX3_fewestRopes 28 = .ok (.aload_n 0, 1) := by decide +kernel
theorem dX3_fewestRopes_29 : decode cX3_fewestRopes 29 = .ok (.getfield 15, 3) := by decide +kernel
theorem dX3_fewestRopes_32 : decode cX3_fewestRopes 32 = .ok (.iload_n 2, 1) := by decide +kernel
theorem dX3_fewestRopes_33 : decode cX3_fewestRopes 33 = .ok (.aload_n 0, 1) := by decide +kernel
theorem dX3_fewestRopes_34 : decode cX3_fewestRopes 34 = .ok (.iload_n 2, 1) := by decide +kernel
theorem dX3_fewestRopes_35 : decode cX3_fewestRopes 35 = .ok (.iload_n 1, 1) := by decide +kernel
theorem dX3_fewestRopes_36 : decode cX3_fewestRopes 36 = .ok (.invokevirtual 22, 3) := by decide +kernel
theorem dX3_fewestRopes_39 : decode cX3_fewestRopes 39 = .ok (.iastore, 1) := by decide +kernel
theorem dX3_fewestRopes_40 : decode cX3_fewestRopes 40 = .ok (.iinc 2 1, 3) := by decide +kernel
theorem dX3_fewestRopes_43 : decode cX3_fewestRopes 43 = .ok (.goto (-34), 3) := by decide +kernel
theorem dX3_fewestRopes_46 : decode cX3_fewestRopes 46 = .ok (.iconst 1, 1) := by decide +kernel
theorem dX3_fewestRopes_47 : decode cX3_fewestRopes 47 = .ok (.aload_n 0, 1) := by decide +kernel
theorem dX3_fewestRopes_48 : decode cX3_fewestRopes 48 = .ok (.getfield 18, 3) := by decide +kernel
theorem dX3_fewestRopes_51 : decode cX3_fewestRopes 51 = .ok (.ishl, 1) := by decide +kernel
theorem dX3_fewestRopes_52 : decode cX3_fewestRopes 52 = .ok (.iconst 1, 1) := by decide +kernel
theorem dX3_fewestRopes_53 : decode cX3_fewestRopes 53 = .ok (.isub, 1) := by decide +kernel
theorem dX3_fewestRopes_54 : decode cX3_fewestRopes 54 = .ok (.istore_n 2, 1) := by decide +kernel
theorem dX3_fewestRopes_55 : decode cX3_fewestRopes 55 = .ok (.iload_n 2, 1) := by decide +kernel
theorem dX3_fewestRopes_56 : decode cX3_fewestRopes 56 = .ok (.ifCond .lt 12, 3) := by decide +kernel
theorem dX3_fewestRopes_59 : decode cX3_fewestRopes 59 = .ok (.iload_n 2, 1) := by decide +kernel
theorem dX3_fewestRopes_60 : decode cX3_fewestRopes 60 = .ok (.aload_n 0, 1) := by decide +kernel
theorem dX3_fewestRopes_61 : decode cX3_fewestRopes 61 = .ok (.getfield 15, 3) := by decide +kernel
theorem dX3_fewestRopes_64 : decode cX3_fewestRopes 64 = .ok (.arraylength, 1) := by decide +kernel
theorem dX3_fewestRopes_65 : decode cX3_fewestRopes 65 = .ok (.if_icmp .lt 8, 3) := by decide +kernel
theorem dX3_fewestRopes_68 : decode cX3_fewestRopes 68 = .ok (.bipush (-6), 2) := by decide +kernel
theorem dX3_fewestRopes_70 : decode cX3_fewestRopes 70 = .ok (.goto 14, 3) := by decide +kernel
theorem dX3_fewestRopes_73 : decode cX3_fewestRopes 73 = .ok (.aload_n 0, 1) := by decide +kernel
theorem dX3_fewestRopes_74 : decode cX3_fewestRopes 74 = .ok (.getfield 15, 3) := by decide +kernel
theorem dX3_fewestRopes_77 : decode cX3_fewestRopes 77 = .ok (.iload_n 2, 1) := by decide +kernel
theorem dX3_fewestRopes_78 : decode cX3_fewestRopes 78 = .ok (.iaload, 1) := by decide +kernel
theorem dX3_fewestRopes_79 : decode cX3_fewestRopes 79 = .ok (.bipush 64, 2) := by decide +kernel
theorem dX3_fewestRopes_81 : decode cX3_fewestRopes 81 = .ok (.idiv, 1) := by decide +kernel
theorem dX3_fewestRopes_82 : decode cX3_fewestRopes 82 = .ok (.iconst 1, 1) := by decide +kernel
theorem dX3_fewestRopes_83 : decode cX3_fewestRopes 83 = .ok (.iadd, 1) := by decide +kernel
theorem dX3_fewestRopes_84 : decode cX3_fewestRopes 84 = .ok (.ireturn, 1) := by decide +kernel
set_option maxRecDepth 20000 in
theorem ggX3_leastCut_X3_cutFurther : GoodIn wsX3_leastCut wsX3_cutFurther := goodIn_r _ [11] (by decide +kernel) (by decide +kernel)
set_option maxRecDepth 20000 in
theorem gX3_leastCut_X3_cutFurther : GoodIn wsX3_leastCut (va_wsS RX3 26 yX3_cutFurther wsX3_cutFurther) := goodIn_app (goodIn_of _ (by decide +kernel)) ggX3_leastCut_X3_cutFurther
theorem dX3_leastCut_0 : decode cX3_leastCut 0 = .ok (.sipush 576, 3) := by decide +kernel
theorem dX3_leastCut_3 : decode cX3_leastCut 3 = .ok (.istore_n 3, 1) := by decide +kernel
theorem dX3_leastCut_4 : decode cX3_leastCut 4 = .ok (.iconst 0, 1) := by decide +kernel
theorem dX3_leastCut_5 : decode cX3_leastCut 5 = .ok (.istore 4, 2) := by decide +kernel
theorem dX3_leastCut_7 : decode cX3_leastCut 7 = .ok (.iload 4, 2) := by decide +kernel
theorem dX3_leastCut_9 : decode cX3_leastCut 9 = .ok (.aload_n 0, 1) := by decide +kernel
theorem dX3_leastCut_10 : decode cX3_leastCut 10 = .ok (.getfield 18, 3) := by decide +kernel
theorem dX3_leastCut_13 : decode cX3_leastCut 13 = .ok (.if_icmp .ge 73, 3) := by decide +kernel
theorem dX3_leastCut_16 : decode cX3_leastCut 16 = .ok (.iload 4, 2) := by decide +kernel
theorem dX3_leastCut_18 : decode cX3_leastCut 18 = .ok (.aload_n 0, 1) := by decide +kernel
theorem dX3_leastCut_19 : decode cX3_leastCut 19 = .ok (.getfield 11, 3) := by decide +kernel
theorem dX3_leastCut_22 : decode cX3_leastCut 22 = .ok (.arraylength, 1) := by decide +kernel
theorem dX3_leastCut_23 : decode cX3_leastCut 23 = .ok (.if_icmp .ge 63, 3) := by decide +kernel
theorem dX3_leastCut_26 : decode cX3_leastCut 26 = .ok (.iload_n 1, 1) := by decide +kernel
theorem dX3_leastCut_27 : decode cX3_leastCut 27 = .ok (.iconst 1, 1) := by decide +kernel
theorem dX3_leastCut_28 : decode cX3_leastCut 28 = .ok (.iload 4, 2) := by decide +kernel
theorem dX3_leastCut_30 : decode cX3_leastCut 30 = .ok (.ishl, 1) := by decide +kernel
theorem dX3_leastCut_31 : decode cX3_leastCut 31 = .ok (.iconst (-1), 1) := by decide +kernel
theorem dX3_leastCut_32 : decode cX3_leastCut 32 = .ok (.ixor, 1) := by decide +kernel
theorem dX3_leastCut_33 : decode cX3_leastCut 33 = .ok (.iand, 1) := by decide +kernel
theorem dX3_leastCut_34 : decode cX3_leastCut 34 = .ok (.istore 5, 2) := by decide +kernel
theorem dX3_leastCut_36 : decode cX3_leastCut 36 = .ok (.iload 5, 2) := by decide +kernel
theorem dX3_leastCut_38 : decode cX3_leastCut 38 = .ok (.iload_n 1, 1) := by decide +kernel
theorem dX3_leastCut_39 : decode cX3_leastCut 39 = .ok (.if_icmp .eq 41, 3) := by decide +kernel
theorem dX3_leastCut_42 : decode cX3_leastCut 42 = .ok (.iload 5, 2) := by decide +kernel
theorem dX3_leastCut_44 : decode cX3_leastCut 44 = .ok (.ifCond .lt 36, 3) := by decide +kernel
theorem dX3_leastCut_47 : decode cX3_leastCut 47 = .ok (.iload 5, 2) := by decide +kernel
theorem dX3_leastCut_49 : decode cX3_leastCut 49 = .ok (.aload_n 0, 1) := by decide +kernel
theorem dX3_leastCut_50 : decode cX3_leastCut 50 = .ok (.getfield 15, 3) := by decide +kernel
theorem dX3_leastCut_53 : decode cX3_leastCut 53 = .ok (.arraylength, 1) := by decide +kernel
theorem dX3_leastCut_54 : decode cX3_leastCut 54 = .ok (.if_icmp .ge 26, 3) := by decide +kernel
theorem dX3_leastCut_57 : decode cX3_leastCut 57 = .ok (.iload_n 3, 1) := by decide +kernel
theorem dX3_leastCut_58 : decode cX3_leastCut 58 = .ok (.aload_n 0, 1) := by decide +kernel
theorem dX3_leastCut_59 : decode cX3_leastCut 59 = .ok (.getfield 15, 3) := by decide +kernel
theorem dX3_leastCut_62 : decode cX3_leastCut 62 = .ok (.iload 5, 2) := by decide +kernel
theorem dX3_leastCut_64 : decode cX3_leastCut 64 = .ok (.iaload, 1) := by decide +kernel
theorem dX3_leastCut_65 : decode cX3_leastCut 65 = .ok (.aload_n 0, 1) := by decide +kernel
theorem dX3_leastCut_66 : decode cX3_leastCut 66 = .ok (.getfield 11, 3) := by decide +kernel
theorem dX3_leastCut_69 : decode cX3_leastCut 69 = .ok (.iload 4, 2) := by decide +kernel
theorem dX3_leastCut_71 : decode cX3_leastCut 71 = .ok (.iaload, 1) := by decide +kernel
theorem dX3_leastCut_72 : decode cX3_leastCut 72 = .ok (.iload_n 2, 1) := by decide +kernel
theorem dX3_leastCut_73 : decode cX3_leastCut 73 = .ok (.invokestatic 26, 3) := by decide +kernel
theorem dX3_leastCut_76 : decode cX3_leastCut 76 = .ok (.invokestatic 30, 3) := by decide +kernel
theorem dX3_leastCut_79 : decode cX3_leastCut 79 = .ok (.istore_n 3, 1) := by decide +kernel
theorem dX3_leastCut_80 : decode cX3_leastCut 80 = .ok (.iinc 4 1, 3) := by decide +kernel
theorem dX3_leastCut_83 : decode cX3_leastCut 83 = .ok (.goto (-76), 3) := by decide +kernel
theorem dX3_leastCut_86 : decode cX3_leastCut 86 = .ok (.iload_n 3, 1) := by decide +kernel
theorem dX3_leastCut_87 : decode cX3_leastCut 87 = .ok (.ireturn, 1) := by decide +kernel
theorem dX3_cutFurther_0 : decode cX3_cutFurther 0 = .ok (.iload_n 0, 1) := by decide +kernel
theorem dX3_cutFurther_1 : decode cX3_cutFurther 1 = .ok (.bipush 64, 2) := by decide +kernel
theorem dX3_cutFurther_3 : decode cX3_cutFurther 3 = .ok (.irem, 1) := by decide +kernel
theorem dX3_cutFurther_4 : decode cX3_cutFurther 4 = .ok (.iload_n 1, 1) := by decide +kernel
theorem dX3_cutFurther_5 : decode cX3_cutFurther 5 = .ok (.iadd, 1) := by decide +kernel
theorem dX3_cutFurther_6 : decode cX3_cutFurther 6 = .ok (.iload_n 2, 1) := by decide +kernel
theorem dX3_cutFurther_7 : decode cX3_cutFurther 7 = .ok (.if_icmp .gt 9, 3) := by decide +kernel
theorem dX3_cutFurther_10 : decode cX3_cutFurther 10 = .ok (.iload_n 0, 1) := by decide +kernel
theorem dX3_cutFurther_11 : decode cX3_cutFurther 11 = .ok (.iload_n 1, 1) := by decide +kernel
theorem dX3_cutFurther_12 : decode cX3_cutFurther 12 = .ok (.iadd, 1) := by decide +kernel
theorem dX3_cutFurther_13 : decode cX3_cutFurther 13 = .ok (.goto 14, 3) := by decide +kernel
theorem dX3_cutFurther_16 : decode cX3_cutFurther 16 = .ok (.iload_n 0, 1) := by decide +kernel
theorem dX3_cutFurther_17 : decode cX3_cutFurther 17 = .ok (.bipush 64, 2) := by decide +kernel
theorem dX3_cutFurther_19 : decode cX3_cutFurther 19 = .ok (.idiv, 1) := by decide +kernel
theorem dX3_cutFurther_20 : decode cX3_cutFurther 20 = .ok (.iconst 1, 1) := by decide +kernel
theorem dX3_cutFurther_21 : decode cX3_cutFurther 21 = .ok (.iadd, 1) := by decide +kernel
theorem dX3_cutFurther_22 : decode cX3_cutFurther 22 = .ok (.bipush 64, 2) := by decide +kernel
theorem dX3_cutFurther_24 : decode cX3_cutFurther 24 = .ok (.imul, 1) := by decide +kernel
theorem dX3_cutFurther_25 : decode cX3_cutFurther 25 = .ok (.iload_n 1, 1) := by decide +kernel
theorem dX3_cutFurther_26 : decode cX3_cutFurther 26 = .ok (.iadd, 1) := by decide +kernel
theorem dX3_cutFurther_27 : decode cX3_cutFurther 27 = .ok (.ireturn, 1) := by decide +kernel
theorem dX3_mostFromOne_0 : decode cX3_mostFromOne 0 = .ok (.iload_n 1, 1) := by decide +kernel
theorem dX3_mostFromOne_1 : decode cX3_mostFromOne 1 = .ok (.istore_n 2, 1) := by decide +kernel
theorem dX3_mostFromOne_2 : decode cX3_mostFromOne 2 = .ok (.iconst 0, 1) := by decide +kernel
theorem dX3_mostFromOne_3 : decode cX3_mostFromOne 3 = .ok (.istore_n 3, 1) := by decide +kernel
theorem dX3_mostFromOne_4 : decode cX3_mostFromOne 4 = .ok (.iconst 1, 1) := by decide +kernel
theorem dX3_mostFromOne_5 : decode cX3_mostFromOne 5 = .ok (.istore 4, 2) := by decide +kernel
theorem dX3_mostFromOne_7 : decode cX3_mostFromOne 7 = .ok (.iload 4, 2) := by decide +kernel
theorem dX3_mostFromOne_9 : decode cX3_mostFromOne 9 = .ok (.bipush 9, 2) := by decide +kernel
theorem dX3_mostFromOne_11 : decode cX3_mostFromOne 11 = .ok (.if_icmp .gt 63, 3) := by decide +kernel
theorem dX3_mostFromOne_14 : decode cX3_mostFromOne 14 = .ok (.iconst 0, 1) := by decide +kernel
theorem dX3_mostFromOne_15 : decode cX3_mostFromOne 15 = .ok (.istore 5, 2) := by decide +kernel
theorem dX3_mostFromOne_17 : decode cX3_mostFromOne 17 = .ok (.iload 5, 2) := by decide +kernel
theorem dX3_mostFromOne_19 : decode cX3_mostFromOne 19 = .ok (.aload_n 0, 1) := by decide +kernel
theorem dX3_mostFromOne_20 : decode cX3_mostFromOne 20 = .ok (.getfield 18, 3) := by decide +kernel
theorem dX3_mostFromOne_23 : decode cX3_mostFromOne 23 = .ok (.if_icmp .ge 45, 3) := by decide +kernel
theorem dX3_mostFromOne_26 : decode cX3_mostFromOne 26 = .ok (.iload 5, 2) := by decide +kernel
theorem dX3_mostFromOne_28 : decode cX3_mostFromOne 28 = .ok (.aload_n 0, 1) := by decide +kernel
theorem dX3_mostFromOne_29 : decode cX3_mostFromOne 29 = .ok (.getfield 11, 3) := by decide +kernel
theorem dX3_mostFromOne_32 : decode cX3_mostFromOne 32 = .ok (.arraylength, 1) := by decide +kernel
theorem dX3_mostFromOne_33 : decode cX3_mostFromOne 33 = .ok (.if_icmp .ge 35, 3) := by decide +kernel
theorem dX3_mostFromOne_36 : decode cX3_mostFromOne 36 = .ok (.aload_n 0, 1) := by decide +kernel
theorem dX3_mostFromOne_37 : decode cX3_mostFromOne 37 = .ok (.getfield 11, 3) := by decide +kernel
theorem dX3_mostFromOne_40 : decode cX3_mostFromOne 40 = .ok (.iload 5, 2) := by decide +kernel
theorem dX3_mostFromOne_42 : decode cX3_mostFromOne 42 = .ok (.iaload, 1) := by decide +kernel
theorem dX3_mostFromOne_43 : decode cX3_mostFromOne 43 = .ok (.iload 4, 2) := by decide +kernel
theorem dX3_mostFromOne_45 : decode cX3_mostFromOne 45 = .ok (.if_icmp .ne 17, 3) := by decide +kernel
theorem dX3_mostFromOne_48 : decode cX3_mostFromOne 48 = .ok (.iload 4, 2) := by decide +kernel
theorem dX3_mostFromOne_50 : decode cX3_mostFromOne 50 = .ok (.iload_n 2, 1) := by decide +kernel
theorem dX3_mostFromOne_51 : decode cX3_mostFromOne 51 = .ok (.if_icmp .gt 11, 3) := by decide +kernel
theorem dX3_mostFromOne_54 : decode cX3_mostFromOne 54 = .ok (.iload_n 2, 1) := by decide +kernel
theorem dX3_mostFromOne_55 : decode cX3_mostFromOne 55 = .ok (.iload 4, 2) := by decide +kernel
theorem dX3_mostFromOne_57 : decode cX3_mostFromOne 57 = .ok (.isub, 1) := by decide +kernel
theorem dX3_mostFromOne_58 : decode cX3_mostFromOne 58 = .ok (.istore_n 2, 1) := by decide +kernel
theorem dX3_mostFromOne_59 : decode cX3_mostFromOne 59 = .ok (.iinc 3 1, 3) := by decide +kernel
theorem dX3_mostFromOne_62 : decode cX3_mostFromOne 62 = .ok (.iinc 5 1, 3) := by decide +kernel
theorem dX3_mostFromOne_65 : decode cX3_mostFromOne 65 = .ok (.goto (-48), 3) := by decide +kernel
theorem dX3_mostFromOne_68 : decode cX3_mostFromOne 68 = .ok (.iinc 4 1, 3) := by decide +kernel
theorem dX3_mostFromOne_71 : decode cX3_mostFromOne 71 = .ok (.goto (-64), 3) := by decide +kernel
theorem dX3_mostFromOne_74 : decode cX3_mostFromOne 74 = .ok (.iload_n 3, 1) := by decide +kernel
theorem dX3_mostFromOne_75 : decode cX3_mostFromOne 75 = .ok (.ireturn, 1) := by decide +kernel
theorem dX4_init_0 : decode cX4_init 0 = .ok (.aload_n 0, 1) := by decide +kernel
theorem dX4_init_1 : decode cX4_init 1 = .ok (.invokespecial 3, 3) := by decide +kernel
theorem dX4_init_4 : decode cX4_init 4 = .ok (.aload_n 0, 1) := by decide +kernel
theorem dX4_init_5 : decode cX4_init 5 = .ok (.lconst 0, 1) := by decide +kernel
theorem dX4_init_6 : decode cX4_init 6 = .ok (.putfield 9, 3) := by decide +kernel
theorem dX4_init_9 : decode cX4_init 9 = .ok (.aload_n 0, 1) := by decide +kernel
theorem dX4_init_10 : decode cX4_init 10 = .ok (.bipush 27, 2) := by decide +kernel
theorem dX4_init_12 : decode cX4_init 12 = .ok (.putfield 15, 3) := by decide +kernel
theorem dX4_init_15 : decode cX4_init 15 = .ok (.aload_n 0, 1) := by decide +kernel
theorem dX4_init_16 : decode cX4_init 16 = .ok (.iconst 3, 1) := by decide +kernel
theorem dX4_init_17 : decode cX4_init 17 = .ok (.putfield 19, 3) := by decide +kernel
theorem dX4_init_20 : decode cX4_init 20 = .ok (.aload_n 0, 1) := by decide +kernel
theorem dX4_init_21 : decode cX4_init 21 = .ok (.bipush (-6), 2) := by decide +kernel
theorem dX4_init_23 : decode cX4_init 23 = .ok (.putfield 22, 3) := by decide +kernel
theorem dX4_init_26 : decode cX4_init 26 = .ok (.aload_n 0, 1) := by decide +kernel
theorem dX4_init_27 : decode cX4_init 27 = .ok (.iconst 0, 1) := by decide +kernel
theorem dX4_init_28 : decode cX4_init 28 = .ok (.putfield 25, 3) := by decide +kernel
theorem dX4_init_31 : decode cX4_init 31 = .ok (.aload_n 0, 1) := by decide +kernel
theorem dX4_init_32 : decode cX4_init 32 = .ok (.iconst 0, 1) := by decide +kernel
theorem dX4_init_33 : decode cX4_init 33 = .ok (.putfield 28, 3) := by decide +kernel
theorem dX4_init_36 : decode cX4_init 36 = .ok (.aload_n 0, 1) := by decide +kernel
theorem dX4_init_37 : decode cX4_init 37 = .ok (.iconst 0, 1) := by decide +kernel
theorem dX4_init_38 : decode cX4_init 38 = .ok (.putfield 31, 3) := by decide +kernel
theorem dX4_init_41 : decode cX4_init 41 = .ok (.aload_n 0, 1) := by decide +kernel
theorem dX4_init_42 : decode cX4_init 42 = .ok (.iconst 0, 1) := by decide +kernel
theorem dX4_init_43 : decode cX4_init 43 = .ok (.putfield 34, 3) := by decide +kernel
theorem dX4_init_46 : decode cX4_init 46 = .ok (.aload_n 0, 1) := by decide +kernel
theorem dX4_init_47 : decode cX4_init 47 = .ok (.ldc2_w 39, 3) := by decide +kernel
theorem dX4_init_50 : decode cX4_init 50 = .ok (.putfield 41, 3) := by decide +kernel
theorem dX4_init_53 : decode cX4_init 53 = .ok (.aload_n 0, 1) := by decide +kernel
theorem dX4_init_54 : decode cX4_init 54 = .ok (.bipush 6, 2) := by decide +kernel
theorem dX4_init_56 : decode cX4_init 56 = .ok (.newarray .int, 2) := by decide +kernel
theorem dX4_init_58 : decode cX4_init 58 = .ok (.dup, 1) := by decide +kernel
theorem dX4_init_59 : decode cX4_init 59 = .ok (.iconst 0, 1) := by decide +kernel
theorem dX4_init_60 : decode cX4_init 60 = .ok (.iconst 4, 1) := by decide +kernel
theorem dX4_init_61 : decode cX4_init 61 = .ok (.iastore, 1) := by decide +kernel
theorem dX4_init_62 : decode cX4_init 62 = .ok (.dup, 1) := by decide +kernel
theorem dX4_init_63 : decode cX4_init 63 = .ok (.iconst 1, 1) := by decide +kernel
theorem dX4_init_64 : decode cX4_init 64 = .ok (.iconst 4, 1) := by decide +kernel
theorem dX4_init_65 : decode cX4_init 65 = .ok (.iastore, 1) := by decide +kernel
theorem dX4_init_66 : decode cX4_init 66 = .ok (.dup, 1) := by decide +kernel
theorem dX4_init_67 : decode cX4_init 67 = .ok (.iconst 2, 1) := by decide +kernel
theorem dX4_init_68 : decode cX4_init 68 = .ok (.iconst 4, 1) := by decide +kernel
theorem dX4_init_69 : decode cX4_init 69 = .ok (.iastore, 1) := by decide +kernel
theorem dX4_init_70 : decode cX4_init 70 = .ok (.dup, 1) := by decide +kernel
theorem dX4_init_71 : decode cX4_init 71 = .ok (.iconst 3, 1) := by decide +kernel
theorem dX4_init_72 : decode cX4_init 72 = .ok (.iconst 4, 1) := by decide +kernel
theorem dX4_init_73 : decode cX4_init 73 = .ok (.iastore, 1) := by decide +kernel
theorem dX4_init_74 : decode cX4_init 74 = .ok (.dup, 1) := by decide +kernel
theorem dX4_init_75 : decode cX4_init 75 = .ok (.iconst 4, 1) := by decide +kernel
theorem dX4_init_76 : decode cX4_init 76 = .ok (.iconst 4, 1) := by decide +kernel
theorem dX4_init_77 : decode cX4_init 77 = .ok (.iastore, 1) := by decide +kernel
theorem dX4_init_78 : decode cX4_init 78 = .ok (.dup, 1) := by decide +kernel
theorem dX4_init_79 : decode cX4_init 79 = .ok (.iconst 5, 1) := by decide +kernel
theorem dX4_init_80 : decode cX4_init 80 = .ok (.iconst 4, 1) := by decide +kernel
theorem dX4_init_81 : decode cX4_init 81 = .ok (.iastore, 1) := by decide +kernel
theorem dX4_init_82 : decode cX4_init 82 = .ok (.putfield 44, 3) := by decide +kernel
theorem dX4_init_85 : decode cX4_init 85 = .ok (.return_, 1) := by decide +kernel
theorem dX4_takeOver_0 : decode cX4_takeOver 0 = .ok (.aload_n 0, 1) := by decide +kernel
theorem dX4_takeOver_1 : decode cX4_takeOver 1 = .ok (.aload_n 1, 1) := by decide +kernel
theorem dX4_takeOver_2 : decode cX4_takeOver 2 = .ok (.getfield 9, 3) := by decide +kernel
theorem dX4_takeOver_5 : decode cX4_takeOver 5 = .ok (.putfield 9, 3) := by decide +kernel
theorem dX4_takeOver_8 : decode cX4_takeOver 8 = .ok (.aload_n 0, 1) := by decide +kernel
theorem dX4_takeOver_9 : decode cX4_takeOver 9 = .ok (.aload_n 1, 1) := by decide +kernel
theorem dX4_takeOver_10 : decode cX4_takeOver 10 = .ok (.getfield 15, 3) := by decide +kernel
theorem dX4_takeOver_13 : decode cX4_takeOver 13 = .ok (.putfield 15, 3) := by decide +kernel
theorem dX4_takeOver_16 : decode cX4_takeOver 16 = .ok (.aload_n 0, 1) := by decide +kernel
theorem dX4_takeOver_17 : decode cX4_takeOver 17 = .ok (.aload_n 1, 1) := by decide +kernel
theorem dX4_takeOver_18 : decode cX4_takeOver 18 = .ok (.getfield 19, 3) := by decide +kernel
theorem dX4_takeOver_21 : decode cX4_takeOver 21 = .ok (.putfield 19, 3) := by decide +kernel
theorem dX4_takeOver_24 : decode cX4_takeOver 24 = .ok (.aload_n 0, 1) := by decide +kernel
theorem dX4_takeOver_25 : decode cX4_takeOver 25 = .ok (.aload_n 1, 1) := by decide +kernel
theorem dX4_takeOver_26 : decode cX4_takeOver 26 = .ok (.getfield 22, 3) := by decide +kernel
theorem dX4_takeOver_29 : decode cX4_takeOver 29 = .ok (.putfield 22, 3) := by decide +kernel
theorem dX4_takeOver_32 : decode cX4_takeOver 32 = .ok (.aload_n 0, 1) := by decide +kernel
theorem dX4_takeOver_33 : decode cX4_takeOver 33 = .ok (.aload_n 1, 1) := by decide +kernel
theorem dX4_takeOver_34 : decode cX4_takeOver 34 = .ok (.getfield 25, 3) := by decide +kernel
theorem dX4_takeOver_37 : decode cX4_takeOver 37 = .ok (.putfield 25, 3) := by decide +kernel
theorem dX4_takeOver_40 : decode cX4_takeOver 40 = .ok (.aload_n 0, 1) := by decide +kernel
theorem dX4_takeOver_41 : decode cX4_takeOver 41 = .ok (.aload_n 1, 1) := by decide +kernel
theorem dX4_takeOver_42 : decode cX4_takeOver 42 = .ok (.getfield 28, 3) := by decide +kernel
theorem dX4_takeOver_45 : decode cX4_takeOver 45 = .ok (.putfield 28, 3) := by decide +kernel
theorem dX4_takeOver_48 : decode cX4_takeOver 48 = .ok (.aload_n 0, 1) := by decide +kernel
theorem dX4_takeOver_49 : decode cX4_takeOver 49 = .ok (.aload_n 1, 1) := by decide +kernel
theorem dX4_takeOver_50 : decode cX4_takeOver 50 = .ok (.getfield 31, 3) := by decide +kernel
theorem dX4_takeOver_53 : decode cX4_takeOver 53 = .ok (.putfield 31, 3) := by decide +kernel
theorem dX4_takeOver_56 : decode cX4_takeOver 56 = .ok (.aload_n 0, 1) := by decide +kernel
theorem dX4_takeOver_57 : decode cX4_takeOver 57 = .ok (.aload_n 1, 1) := by decide +kernel
theorem dX4_takeOver_58 : decode cX4_takeOver 58 = .ok (.getfield 34, 3) := by decide +kernel
theorem dX4_takeOver_61 : decode cX4_takeOver 61 = .ok (.putfield 34, 3) := by decide +kernel
theorem dX4_takeOver_64 : decode cX4_takeOver 64 = .ok (.aload_n 0, 1) := by decide +kernel
theorem dX4_takeOver_65 : decode cX4_takeOver 65 = .ok (.aload_n 1, 1) := by decide +kernel
theorem dX4_takeOver_66 : decode cX4_takeOver 66 = .ok (.getfield 41, 3) := by decide +kernel
theorem dX4_takeOver_69 : decode cX4_takeOver 69 = .ok (.putfield 41, 3) := by decide +kernel
theorem dX4_takeOver_72 : decode cX4_takeOver 72 = .ok (.iconst 0, 1) := by decide +kernel
theorem dX4_takeOver_73 : decode cX4_takeOver 73 = .ok (.istore_n 2, 1) := by decide +kernel
theorem dX4_takeOver_74 : decode cX4_takeOver 74 = .ok (.iload_n 2, 1) := by decide +kernel
theorem dX4_takeOver_75 : decode cX4_takeOver 75 = .ok (.aload_n 0, 1) := by decide +kernel
theorem dX4_takeOver_76 : decode cX4_takeOver 76 = .ok (.getfield 44, 3) := by decide +kernel
theorem dX4_takeOver_79 : decode cX4_takeOver 79 = .ok (.arraylength, 1) := by decide +kernel
theorem dX4_takeOver_80 : decode cX4_takeOver 80 = .ok (.if_icmp .ge 30, 3) := by decide +kernel
theorem dX4_takeOver_83 : decode cX4_takeOver 83 = .ok (.iload_n 2, 1) := by decide +kernel
theorem dX4_takeOver_84 : decode cX4_takeOver 84 = .ok (.aload_n 1, 1) := by decide +kernel
theorem dX4_takeOver_85 : decode cX4_takeOver 85 = .ok (.getfield 44, 3) := by decide +kernel
theorem dX4_takeOver_88 : decode cX4_takeOver 88 = .ok (.arraylength, 1) := by decide +kernel
theorem dX4_takeOver_89 : decode cX4_takeOver 89 = .ok (.if_icmp .ge 21, 3) := by decide +kernel
theorem dX4_takeOver_92 : decode cX4_takeOver 92 = .ok (.aload_n 0, 1) := by decide +kernel
theorem dX4_takeOver_93 : decode cX4_takeOver 93 = .ok (.getfield 44, 3) := by decide +kernel
theorem dX4_takeOver_96 : decode cX4_takeOver 96 = .ok (.iload_n 2, 1) := by decide +kernel
theorem dX4_takeOver_97 : decode cX4_takeOver 97 = .ok (.aload_n 1, 1) := by decide +kernel
theorem dX4_takeOver_98 : decode cX4_takeOver 98 = .ok (.getfield 44, 3) := by decide +kernel
theorem dX4_takeOver_101 : decode cX4_takeOver 101 = .ok (.iload_n 2, 1) := by decide +kernel
theorem dX4_takeOver_102 : decode cX4_takeOver 102 = .ok (.iaload, 1) := by decide +kernel
theorem dX4_takeOver_103 : decode cX4_takeOver 103 = .ok (.iastore, 1) := by decide +kernel
theorem dX4_takeOver_104 : decode cX4_takeOver 104 = .ok (.iinc 2 1, 3) := by decide +kernel
theorem dX4_takeOver_107 : decode cX4_takeOver 107 = .ok (.goto (-33), 3) := by decide +kernel
theorem dX4_takeOver_110 : decode cX4_takeOver 110 = .ok (.return_, 1) := by decide +kernel
set_option maxRecDepth 20000 in
theorem ggX4_isLand_X0_holds : GoodIn wsX4_isLand wsX0_holds := goodIn_r _ [5] (by decide +kernel) (by decide +kernel)
set_option maxRecDepth 20000 in
theorem gX4_isLand_X0_holds : GoodIn wsX4_isLand (va_wsS RX4 48 yX0_holds wsX0_holds) := goodIn_app (goodIn_of _ (by decide +kernel)) ggX4_isLand_X0_holds
theorem dX4_isLand_0 : decode cX4_isLand 0 = .ok (.aload_n 0, 1) := by decide +kernel
theorem dX4_isLand_1 : decode cX4_isLand 1 = .ok (.getfield 9, 3) := by decide +kernel
theorem dX4_isLand_4 : decode cX4_isLand 4 = .ok (.iload_n 1, 1) := by decide +kernel
theorem dX4_isLand_5 : decode cX4_isLand 5 = .ok (.invokestatic 48, 3) := by decide +kernel
theorem dX4_isLand_8 : decode cX4_isLand 8 = .ok (.ireturn, 1) := by decide +kernel
theorem dX4_isWatcher_0 : decode cX4_isWatcher 0 = .ok (.iload_n 1, 1) := by decide +kernel
theorem dX4_isWatcher_1 : decode cX4_isWatcher 1 = .ok (.ifCond .lt 16, 3) := by decide +kernel
theorem dX4_isWatcher_4 : decode cX4_isWatcher 4 = .ok (.iload_n 1, 1) := by decide +kernel
theorem dX4_isWatcher_5 : decode cX4_isWatcher 5 = .ok (.aload_n 0, 1) := by decide +kernel
theorem dX4_isWatcher_6 : decode cX4_isWatcher 6 = .ok (.getfield 44, 3) := by decide +kernel
theorem dX4_isWatcher_9 : decode cX4_isWatcher 9 = .ok (.arraylength, 1) := by decide +kernel
theorem dX4_isWatcher_10 : decode cX4_isWatcher 10 = .ok (.if_icmp .ge 7, 3) := by decide +kernel
theorem dX4_isWatcher_13 : decode cX4_isWatcher 13 = .ok (.iconst 1, 1) := by decide +kernel
theorem dX4_isWatcher_14 : decode cX4_isWatcher 14 = .ok (.goto 4, 3) := by decide +kernel
theorem dX4_isWatcher_17 : decode cX4_isWatcher 17 = .ok (.iconst 0, 1) := by decide +kernel
theorem dX4_isWatcher_18 : decode cX4_isWatcher 18 = .ok (.ireturn, 1) := by decide +kernel
theorem dX4_eyesOf_0 : decode cX4_eyesOf 0 = .ok (.iload_n 1, 1) := by decide +kernel
theorem dX4_eyesOf_1 : decode cX4_eyesOf 1 = .ok (.ifCond .lt 21, 3) := by decide +kernel
theorem dX4_eyesOf_4 : decode cX4_eyesOf 4 = .ok (.iload_n 1, 1) := by decide +kernel
theorem dX4_eyesOf_5 : decode cX4_eyesOf 5 = .ok (.aload_n 0, 1) := by decide +kernel
theorem dX4_eyesOf_6 : decode cX4_eyesOf 6 = .ok (.getfield 44, 3) := by decide +kernel
theorem dX4_eyesOf_9 : decode cX4_eyesOf 9 = .ok (.arraylength, 1) := by decide +kernel
theorem dX4_eyesOf_10 : decode cX4_eyesOf 10 = .ok (.if_icmp .ge 12, 3) := by decide +kernel
theorem dX4_eyesOf_13 : decode cX4_eyesOf 13 = .ok (.aload_n 0, 1) := by decide +kernel
theorem dX4_eyesOf_14 : decode cX4_eyesOf 14 = .ok (.getfield 44, 3) := by decide +kernel
theorem dX4_eyesOf_17 : decode cX4_eyesOf 17 = .ok (.iload_n 1, 1) := by decide +kernel
theorem dX4_eyesOf_18 : decode cX4_eyesOf 18 = .ok (.iaload, 1) := by decide +kernel
theorem dX4_eyesOf_19 : decode cX4_eyesOf 19 = .ok (.goto 4, 3) := by decide +kernel
theorem dX4_eyesOf_22 : decode cX4_eyesOf 22 = .ok (.iconst 0, 1) := by decide +kernel
theorem dX4_eyesOf_23 : decode cX4_eyesOf 23 = .ok (.ireturn, 1) := by decide +kernel
theorem dX4_giveEyes_0 : decode cX4_giveEyes 0 = .ok (.iload_n 1, 1) := by decide +kernel
theorem dX4_giveEyes_1 : decode cX4_giveEyes 1 = .ok (.ifCond .lt 19, 3) := by decide +kernel
theorem dX4_giveEyes_4 : decode cX4_giveEyes 4 = .ok (.iload_n 1, 1) := by decide +kernel
theorem dX4_giveEyes_5 : decode cX4_giveEyes 5 = .ok (.aload_n 0, 1) := by decide +kernel
theorem dX4_giveEyes_6 : decode cX4_giveEyes 6 = .ok (.getfield 44, 3) := by decide +kernel
theorem dX4_giveEyes_9 : decode cX4_giveEyes 9 = .ok (.arraylength, 1) := by decide +kernel
theorem dX4_giveEyes_10 : decode cX4_giveEyes 10 = .ok (.if_icmp .ge 10, 3) := by decide +kernel
theorem dX4_giveEyes_13 : decode cX4_giveEyes 13 = .ok (.aload_n 0, 1) := by decide +kernel
theorem dX4_giveEyes_14 : decode cX4_giveEyes 14 = .ok (.getfield 44, 3) := by decide +kernel
theorem dX4_giveEyes_17 : decode cX4_giveEyes 17 = .ok (.iload_n 1, 1) := by decide +kernel
theorem dX4_giveEyes_18 : decode cX4_giveEyes 18 = .ok (.iload_n 2, 1) := by decide +kernel
theorem dX4_giveEyes_19 : decode cX4_giveEyes 19 = .ok (.iastore, 1) := by decide +kernel
theorem dX4_giveEyes_20 : decode cX4_giveEyes 20 = .ok (.return_, 1) := by decide +kernel
theorem dX4_glass_0 : decode cX4_glass 0 = .ok (.aload_n 0, 1) := by decide +kernel
theorem dX4_glass_1 : decode cX4_glass 1 = .ok (.getfield 22, 3) := by decide +kernel
theorem dX4_glass_4 : decode cX4_glass 4 = .ok (.ifCond .lt 27, 3) := by decide +kernel
theorem dX4_glass_7 : decode cX4_glass 7 = .ok (.aload_n 0, 1) := by decide +kernel
theorem dX4_glass_8 : decode cX4_glass 8 = .ok (.getfield 22, 3) := by decide +kernel
theorem dX4_glass_11 : decode cX4_glass 11 = .ok (.aload_n 0, 1) := by decide +kernel
theorem dX4_glass_12 : decode cX4_glass 12 = .ok (.getfield 44, 3) := by decide +kernel
theorem dX4_glass_15 : decode cX4_glass 15 = .ok (.arraylength, 1) := by decide +kernel
theorem dX4_glass_16 : decode cX4_glass 16 = .ok (.if_icmp .ge 15, 3) := by decide +kernel
theorem dX4_glass_19 : decode cX4_glass 19 = .ok (.aload_n 0, 1) := by decide +kernel
theorem dX4_glass_20 : decode cX4_glass 20 = .ok (.getfield 44, 3) := by decide +kernel
theorem dX4_glass_23 : decode cX4_glass 23 = .ok (.aload_n 0, 1) := by decide +kernel
theorem dX4_glass_24 : decode cX4_glass 24 = .ok (.getfield 22, 3) := by decide +kernel
theorem dX4_glass_27 : decode cX4_glass 27 = .ok (.iaload, 1) := by decide +kernel
theorem dX4_glass_28 : decode cX4_glass 28 = .ok (.goto 4, 3) := by decide +kernel
theorem dX4_glass_31 : decode cX4_glass 31 = .ok (.iconst 0, 1) := by decide +kernel
theorem dX4_glass_32 : decode cX4_glass 32 = .ok (.istore_n 1, 1) := by decide +kernel
theorem dX4_glass_33 : decode cX4_glass 33 = .ok (.iconst 0, 1) := by decide +kernel
theorem dX4_glass_34 : decode cX4_glass 34 = .ok (.iload_n 1, 1) := by decide +kernel
theorem dX4_glass_35 : decode cX4_glass 35 = .ok (.aload_n 0, 1) := by decide +kernel
theorem dX4_glass_36 : decode cX4_glass 36 = .ok (.getfield 28, 3) := by decide +kernel
theorem dX4_glass_39 : decode cX4_glass 39 = .ok (.isub, 1) := by decide +kernel
theorem dX4_glass_40 : decode cX4_glass 40 = .ok (.invokestatic 52, 3) := by decide +kernel
theorem dX4_glass_43 : decode cX4_glass 43 = .ok (.istore_n 2, 1) := by decide +kernel
theorem dX4_glass_44 : decode cX4_glass 44 = .ok (.aload_n 0, 1) := by decide +kernel
theorem dX4_glass_45 : decode cX4_glass 45 = .ok (.getfield 25, 3) := by decide +kernel
theorem dX4_glass_48 : decode cX4_glass 48 = .ok (.iconst 2, 1) := by decide +kernel
theorem dX4_glass_49 : decode cX4_glass 49 = .ok (.if_icmp .le 9, 3) := by decide +kernel
theorem dX4_glass_52 : decode cX4_glass 52 = .ok (.iload_n 2, 1) := by decide +kernel
theorem dX4_glass_53 : decode cX4_glass 53 = .ok (.iconst 2, 1) := by decide +kernel
theorem dX4_glass_54 : decode cX4_glass 54 = .ok (.idiv, 1) := by decide +kernel
theorem dX4_glass_55 : decode cX4_glass 55 = .ok (.goto 4, 3) := by decide +kernel
theorem dX4_glass_58 : decode cX4_glass 58 = .ok (.iload_n 2, 1) := by decide +kernel
theorem dX4_glass_59 : decode cX4_glass 59 = .ok (.ireturn, 1) := by decide +kernel
set_option maxRecDepth 20000 in
theorem ggX4_sighted_X4_glass : GoodIn wsX4_sighted wsX4_glass := goodIn_r _ [8, 1, 9, 10, 11, 12, 13, 14, 15, 27, 28, 29, 30, 31, 32, 33, 34, 35, 36] (by decide +kernel) (by decide +kernel)
set_option maxRecDepth 20000 in
theorem gX4_sighted_X4_glass : GoodIn wsX4_sighted (wsV RX4 58 RX4 yX4_glass wsX4_glass) := goodIn_app (goodIn_of _ (by decide +kernel)) ggX4_sighted_X4_glass
set_option maxRecDepth 20000 in
theorem ggX4_sighted_X0_around : GoodIn wsX4_sighted wsX0_around := goodIn_r _ [19, 20, 12, 13, 14, 21, 22, 23, 24, 25, 26] (by decide +kernel) (by decide +kernel)
set_option maxRecDepth 20000 in
theorem gX4_sighted_X0_around : GoodIn wsX4_sighted (va_wsS RX4 62 yX0_around wsX0_around) := goodIn_app (goodIn_of _ (by decide +kernel)) ggX4_sighted_X0_around
theorem dX4_sighted_0 : decode cX4_sighted 0 = .ok (.aload_n 0, 1) := by decide +kernel
theorem dX4_sighted_1 : decode cX4_sighted 1 = .ok (.getfield 22, 3) := by decide +kernel
theorem dX4_sighted_4 : decode cX4_sighted 4 = .ok (.bipush (-6), 2) := by decide +kernel
theorem dX4_sighted_6 : decode cX4_sighted 6 = .ok (.if_icmp .ne 7, 3) := by decide +kernel
theorem dX4_sighted_9 : decode cX4_sighted 9 = .ok (.lconst 0, 1) := by decide +kernel
theorem dX4_sighted_10 : decode cX4_sighted 10 = .ok (.goto 19, 3) := by decide +kernel
theorem dX4_sighted_13 : decode cX4_sighted 13 = .ok (.aload_n 0, 1) := by decide +kernel
theorem dX4_sighted_14 : decode cX4_sighted 14 = .ok (.getfield 9, 3) := by decide +kernel
theorem dX4_sighted_17 : decode cX4_sighted 17 = .ok (.aload_n 0, 1) := by decide +kernel
theorem dX4_sighted_18 : decode cX4_sighted 18 = .ok (.getfield 15, 3) := by decide +kernel
theorem dX4_sighted_21 : decode cX4_sighted 21 = .ok (.aload_n 0, 1) := by decide +kernel
theorem dX4_sighted_22 : decode cX4_sighted 22 = .ok (.invokevirtual 58, 3) := by decide +kernel
theorem dX4_sighted_25 : decode cX4_sighted 25 = .ok (.invokestatic 62, 3) := by decide +kernel
theorem dX4_sighted_28 : decode cX4_sighted 28 = .ok (.land, 1) := by decide +kernel
theorem dX4_sighted_29 : decode cX4_sighted 29 = .ok (.lreturn, 1) := by decide +kernel
set_option maxRecDepth 20000 in
theorem ggX4_nearestFar_X4_sighted : GoodIn wsX4_nearestFar wsX4_sighted := goodIn_r _ [6, 7, 8, 1, 9, 10, 11, 5, 12, 13, 14, 15, 16, 17, 18, 19, 20, 21, 22, 23, 24, 25, 26, 27, 28, 29, 30, 31, 32, 33, 34, 35, 36, 37, 38, 39, 40] (by decide +kernel) (by decide +kernel)
set_option maxRecDepth 20000 in
theorem gX4_nearestFar_X4_sighted : GoodIn wsX4_nearestFar (wsV RX4 66 RX4 yX4_sighted wsX4_sighted) := goodIn_app (goodIn_of _ (by decide +kernel)) ggX4_nearestFar_X4_sighted
set_option maxRecDepth 20000 in
theorem ggX4_nearestFar_X0_around : GoodIn wsX4_nearestFar wsX0_around := goodIn_r _ [23, 24, 16, 17, 18, 25, 26, 27, 28, 29, 30] (by decide +kernel) (by decide +kernel)
set_option maxRecDepth 20000 in
theorem gX4_nearestFar_X0_around : GoodIn wsX4_nearestFar (va_wsS RX4 62 yX0_around wsX0_around) := goodIn_app (goodIn_of _ (by decide +kernel)) ggX4_nearestFar_X0_around
theorem dX4_nearestFar_0 : decode cX4_nearestFar 0 = .ok (.aload_n 0, 1) := by decide +kernel
theorem dX4_nearestFar_1 : decode cX4_nearestFar 1 = .ok (.invokevirtual 66, 3) := by decide +kernel
theorem dX4_nearestFar_4 : decode cX4_nearestFar 4 = .ok (.lstore_n 1, 1) := by decide +kernel
theorem dX4_nearestFar_5 : decode cX4_nearestFar 5 = .ok (.iconst 1, 1) := by decide +kernel
theorem dX4_nearestFar_6 : decode cX4_nearestFar 6 = .ok (.istore_n 3, 1) := by decide +kernel
theorem dX4_nearestFar_7 : decode cX4_nearestFar 7 = .ok (.iload_n 3, 1) := by decide +kernel
theorem dX4_nearestFar_8 : decode cX4_nearestFar 8 = .ok (.bipush 8, 2) := by decide +kernel
theorem dX4_nearestFar_10 : decode cX4_nearestFar 10 = .ok (.if_icmp .ge 26, 3) := by decide +kernel
theorem dX4_nearestFar_13 : decode cX4_nearestFar 13 = .ok (.lload_n 1, 1) := by decide +kernel
theorem dX4_nearestFar_14 : decode cX4_nearestFar 14 = .ok (.aload_n 0, 1) := by decide +kernel
theorem dX4_nearestFar_15 : decode cX4_nearestFar 15 = .ok (.getfield 15, 3) := by decide +kernel
theorem dX4_nearestFar_18 : decode cX4_nearestFar 18 = .ok (.iload_n 3, 1) := by decide +kernel
theorem dX4_nearestFar_19 : decode cX4_nearestFar 19 = .ok (.invokestatic 62, 3) := by decide +kernel
theorem dX4_nearestFar_22 : decode cX4_nearestFar 22 = .ok (.land, 1) := by decide +kernel
theorem dX4_nearestFar_23 : decode cX4_nearestFar 23 = .ok (.lconst 0, 1) := by decide +kernel
theorem dX4_nearestFar_24 : decode cX4_nearestFar 24 = .ok (.lcmp, 1) := by decide +kernel
theorem dX4_nearestFar_25 : decode cX4_nearestFar 25 = .ok (.ifCond .eq 5, 3) := by decide +kernel
theorem dX4_nearestFar_28 : decode cX4_nearestFar 28 = .ok (.iload_n 3, 1) := by decide +kernel
theorem dX4_nearestFar_29 : decode cX4_nearestFar 29 = .ok (.ireturn, 1) := by decide +kernel
theorem dX4_nearestFar_30 : decode cX4_nearestFar 30 = .ok (.iinc 3 1, 3) := by decide +kernel
theorem dX4_nearestFar_33 : decode cX4_nearestFar 33 = .ok (.goto (-26), 3) := by decide +kernel
theorem dX4_nearestFar_36 : decode cX4_nearestFar 36 = .ok (.bipush (-6), 2) := by decide +kernel
theorem dX4_nearestFar_38 : decode cX4_nearestFar 38 = .ok (.ireturn, 1) := by decide +kernel
set_option maxRecDepth 20000 in
theorem ggX4_nearestLand_X4_nearestFar : GoodIn wsX4_nearestLand wsX4_nearestFar := goodIn_r _ [6, 1, 7, 8, 9, 5, 10, 11, 12, 13, 14, 15, 16, 17, 18, 19, 20, 21, 22, 23, 24, 25, 26, 27, 28, 29, 30, 31, 32, 33, 34, 45, 46, 47, 48, 49, 50, 51, 52, 53, 54] (by decide +kernel) (by decide +kernel)
set_option maxRecDepth 20000 in
theorem gX4_nearestLand_X4_nearestFar : GoodIn wsX4_nearestLand (wsV RX4 70 RX4 yX4_nearestFar wsX4_nearestFar) := goodIn_app (goodIn_of _ (by decide +kernel)) ggX4_nearestLand_X4_nearestFar
set_option maxRecDepth 20000 in
theorem ggX4_nearestLand_X4_sighted : GoodIn wsX4_nearestLand wsX4_sighted := goodIn_r _ [10, 11, 12, 1, 13, 14, 15, 5, 16, 17, 18, 19, 20, 21, 22, 23, 24, 25, 26, 27, 28, 29, 30, 31, 32, 33, 34, 45, 46, 47, 48, 49, 50, 51, 52, 53, 54] (by decide +kernel) (by decide +kernel)
set_option maxRecDepth 20000 in
theorem gX4_nearestLand_X4_sighted : GoodIn wsX4_nearestLand (wsV RX4 66 RX4 yX4_sighted wsX4_sighted) := goodIn_app (goodIn_of _ (by decide +kernel)) ggX4_nearestLand_X4_sighted
set_option maxRecDepth 20000 in
theorem ggX4_nearestLand_X0_around : GoodIn wsX4_nearestLand wsX0_around := goodIn_r _ [27, 28, 20, 21, 22, 29, 30, 31, 32, 33, 34] (by decide +kernel) (by decide +kernel)
set_option maxRecDepth 20000 in
theorem gX4_nearestLand_X0_around : GoodIn wsX4_nearestLand (va_wsS RX4 62 yX0_around wsX0_around) := goodIn_app (goodIn_of _ (by decide +kernel)) ggX4_nearestLand_X0_around
set_option maxRecDepth 20000 in
theorem ggX4_nearestLand_X0_least : GoodIn wsX4_nearestLand wsX0_least := goodIn_r _ [37, 38, 39, 40, 41, 42, 43, 44] (by decide +kernel) (by decide +kernel)
set_option maxRecDepth 20000 in
theorem gX4_nearestLand_X0_least : GoodIn wsX4_nearestLand (va_wsS RX4 73 yX0_least wsX0_least) := goodIn_app (goodIn_of _ (by decide +kernel)) ggX4_nearestLand_X0_least
theorem dX4_nearestLand_0 : decode cX4_nearestLand 0 = .ok (.aload_n 0, 1) := by decide +kernel
theorem dX4_nearestLand_1 : decode cX4_nearestLand 1 = .ok (.invokevirtual 70, 3) := by decide +kernel
theorem dX4_nearestLand_4 : decode cX4_nearestLand 4 = .ok (.istore_n 1, 1) := by decide +kernel
theorem dX4_nearestLand_5 : decode cX4_nearestLand 5 = .ok (.iload_n 1, 1) := by decide +kernel
theorem dX4_nearestLand_6 : decode cX4_nearestLand 6 = .ok (.bipush (-6), 2) := by decide +kernel
theorem dX4_nearestLand_8 : decode cX4_nearestLand 8 = .ok (.if_icmp .ne 8, 3) := by decide +kernel
theorem dX4_nearestLand_11 : decode cX4_nearestLand 11 = .ok (.bipush (-6), 2) := by decide +kernel
theorem dX4_nearestLand_13 : decode cX4_nearestLand 13 = .ok (.goto 19, 3) := by decide +kernel
theorem dX4_nearestLand_16 : decode cX4_nearestLand 16 = .ok (.aload_n 0, 1) := by decide +kernel
theorem dX4_nearestLand_17 : decode cX4_nearestLand 17 = .ok (.invokevirtual 66, 3) := by decide +kernel
theorem dX4_nearestLand_20 : decode cX4_nearestLand 20 = .ok (.aload_n 0, 1) := by decide +kernel
theorem dX4_nearestLand_21 : decode cX4_nearestLand 21 = .ok (.getfield 15, 3) := by decide +kernel
theorem dX4_nearestLand_24 : decode cX4_nearestLand 24 = .ok (.iload_n 1, 1) := by decide +kernel
theorem dX4_nearestLand_25 : decode cX4_nearestLand 25 = .ok (.invokestatic 62, 3) := by decide +kernel
theorem dX4_nearestLand_28 : decode cX4_nearestLand 28 = .ok (.land, 1) := by decide +kernel
theorem dX4_nearestLand_29 : decode cX4_nearestLand 29 = .ok (.invokestatic 73, 3) := by decide +kernel
theorem dX4_nearestLand_32 : decode cX4_nearestLand 32 = .ok (.ireturn, 1) := by decide +kernel
set_option maxRecDepth 20000 in
theorem ggX4_reasonAgainst_X4_reasonAgainstSailing : GoodIn wsX4_reasonAgainst wsX4_reasonAgainstSailing := goodIn_r _ [8, 1, 9, 10, 11, 12, 13, 14, 15, 16, 17, 18, 19] (by decide +kernel) (by decide +kernel)
set_option maxRecDepth 20000 in
theorem gX4_reasonAgainst_X4_reasonAgainstSailing : GoodIn wsX4_reasonAgainst (wsV RX4 77 RX4 yX4_reasonAgainstSailing wsX4_reasonAgainstSailing) := goodIn_app (goodIn_of _ (by decide +kernel)) ggX4_reasonAgainst_X4_reasonAgainstSailing
theorem dX4_reasonAgainst_0 : decode cX4_reasonAgainst 0 = .ok (.iload_n 1, 1) := by decide +kernel
theorem dX4_reasonAgainst_1 : decode cX4_reasonAgainst 1 = .ok (.tableswitch 102 0 4 #[35, 50, 65, 71, 86], 35) := by decide +kernel
theorem dX4_reasonAgainst_36 : decode cX4_reasonAgainst 36 = .ok (.aload_n 0, 1) := by decide +kernel
theorem dX4_reasonAgainst_37 : decode cX4_reasonAgainst 37 = .ok (.getfield 22, 3) := by decide +kernel
theorem dX4_reasonAgainst_40 : decode cX4_reasonAgainst 40 = .ok (.iload_n 2, 1) := by decide +kernel
theorem dX4_reasonAgainst_41 : decode cX4_reasonAgainst 41 = .ok (.if_icmp .ne 7, 3) := by decide +kernel
theorem dX4_reasonAgainst_44 : decode cX4_reasonAgainst 44 = .ok (.iconst 1, 1) := by decide +kernel
theorem dX4_reasonAgainst_45 : decode cX4_reasonAgainst 45 = .ok (.goto 5, 3) := by decide +kernel
theorem dX4_reasonAgainst_48 : decode cX4_reasonAgainst 48 = .ok (.bipush (-6), 2) := by decide +kernel
theorem dX4_reasonAgainst_50 : decode cX4_reasonAgainst 50 = .ok (.ireturn, 1) := by decide +kernel
theorem dX4_reasonAgainst_51 : decode cX4_reasonAgainst 51 = .ok (.aload_n 0, 1) := by decide +kernel
theorem dX4_reasonAgainst_52 : decode cX4_reasonAgainst 52 = .ok (.getfield 22, 3) := by decide +kernel
theorem dX4_reasonAgainst_55 : decode cX4_reasonAgainst 55 = .ok (.iload_n 2, 1) := by decide +kernel
theorem dX4_reasonAgainst_56 : decode cX4_reasonAgainst 56 = .ok (.if_icmp .ne 8, 3) := by decide +kernel
theorem dX4_reasonAgainst_59 : decode cX4_reasonAgainst 59 = .ok (.bipush (-6), 2) := by decide +kernel
theorem dX4_reasonAgainst_61 : decode cX4_reasonAgainst 61 = .ok (.goto 4, 3) := by decide +kernel
theorem dX4_reasonAgainst_64 : decode cX4_reasonAgainst 64 = .ok (.iconst 1, 1) := by decide +kernel
theorem dX4_reasonAgainst_65 : decode cX4_reasonAgainst 65 = .ok (.ireturn, 1) := by decide +kernel
theorem dX4_reasonAgainst_66 : decode cX4_reasonAgainst 66 = .ok (.aload_n 0, 1) := by decide +kernel
theorem dX4_reasonAgainst_67 : decode cX4_reasonAgainst 67 = .ok (.iload_n 3, 1) := by decide +kernel
theorem dX4_reasonAgainst_68 : decode cX4_reasonAgainst 68 = .ok (.invokevirtual 77, 3) := by decide +kernel
theorem dX4_reasonAgainst_71 : decode cX4_reasonAgainst 71 = .ok (.ireturn, 1) := by decide +kernel
theorem dX4_reasonAgainst_72 : decode cX4_reasonAgainst 72 = .ok (.aload_n 0, 1) := by decide +kernel
theorem dX4_reasonAgainst_73 : decode cX4_reasonAgainst 73 = .ok (.getfield 28, 3) := by decide +kernel
theorem dX4_reasonAgainst_76 : decode cX4_reasonAgainst 76 = .ok (.iload_n 2, 1) := by decide +kernel
theorem dX4_reasonAgainst_77 : decode cX4_reasonAgainst 77 = .ok (.if_icmp .ne 7, 3) := by decide +kernel
theorem dX4_reasonAgainst_80 : decode cX4_reasonAgainst 80 = .ok (.iconst 5, 1) := by decide +kernel
theorem dX4_reasonAgainst_81 : decode cX4_reasonAgainst 81 = .ok (.goto 5, 3) := by decide +kernel
theorem dX4_reasonAgainst_84 : decode cX4_reasonAgainst 84 = .ok (.bipush (-6), 2) := by decide +kernel
theorem dX4_reasonAgainst_86 : decode cX4_reasonAgainst 86 = .ok (.ireturn, 1) := by decide +kernel
theorem dX4_reasonAgainst_87 : decode cX4_reasonAgainst 87 = .ok (.aload_n 0, 1) := by decide +kernel
theorem dX4_reasonAgainst_88 : decode cX4_reasonAgainst 88 = .ok (.getfield 22, 3) := by decide +kernel
theorem dX4_reasonAgainst_91 : decode cX4_reasonAgainst 91 = .ok (.bipush (-6), 2) := by decide +kernel
theorem dX4_reasonAgainst_93 : decode cX4_reasonAgainst 93 = .ok (.if_icmp .ne 7, 3) := by decide +kernel
theorem dX4_reasonAgainst_96 : decode cX4_reasonAgainst 96 = .ok (.iconst 2, 1) := by decide +kernel
theorem dX4_reasonAgainst_97 : decode cX4_reasonAgainst 97 = .ok (.goto 5, 3) := by decide +kernel
theorem dX4_reasonAgainst_100 : decode cX4_reasonAgainst 100 = .ok (.bipush (-6), 2) := by decide +kernel
theorem dX4_reasonAgainst_102 : decode cX4_reasonAgainst 102 = .ok (.ireturn, 1) := by decide +kernel
theorem dX4_reasonAgainst_103 : decode cX4_reasonAgainst 103 = .ok (.aload_n 0, 1) := by decide +kernel
theorem dX4_reasonAgainst_104 : decode cX4_reasonAgainst 104 = .ok (.getfield 31, 3) := by decide +kernel
theorem dX4_reasonAgainst_107 : decode cX4_reasonAgainst 107 = .ok (.bipush 99, 2) := by decide +kernel
theorem dX4_reasonAgainst_109 : decode cX4_reasonAgainst 109 = .ok (.if_icmp .lt 8, 3) := by decide +kernel
theorem dX4_reasonAgainst_112 : decode cX4_reasonAgainst 112 = .ok (.bipush 6, 2) := by decide +kernel
theorem dX4_reasonAgainst_114 : decode cX4_reasonAgainst 114 = .ok (.goto 5, 3) := by decide +kernel
theorem dX4_reasonAgainst_117 : decode cX4_reasonAgainst 117 = .ok (.bipush (-6), 2) := by decide +kernel
theorem dX4_reasonAgainst_119 : decode cX4_reasonAgainst 119 = .ok (.ireturn, 1) := by decide +kernel
theorem dX4_reasonAgainstSailing_0 : decode cX4_reasonAgainstSailing 0 = .ok (.aload_n 0, 1) := by decide +kernel
theorem dX4_reasonAgainstSailing_1 : decode cX4_reasonAgainstSailing 1 = .ok (.getfield 22, 3) := by decide +kernel
theorem dX4_reasonAgainstSailing_4 : decode cX4_reasonAgainstSailing 4 = .ok (.bipush (-6), 2) := by decide +kernel
theorem dX4_reasonAgainstSailing_6 : decode cX4_reasonAgainstSailing 6 = .ok (.if_icmp .ne 5, 3) := by decide +kernel
theorem dX4_reasonAgainstSailing_9 : decode cX4_reasonAgainstSailing 9 = .ok (.iconst 2, 1) := by decide +kernel
theorem dX4_reasonAgainstSailing_10 : decode cX4_reasonAgainstSailing 10 = .ok (.ireturn, 1) := by decide +kernel
theorem dX4_reasonAgainstSailing_11 : decode cX4_reasonAgainstSailing 11 = .ok (.aload_n 0, 1) := by decide +kernel
theorem dX4_reasonAgainstSailing_12 : decode cX4_reasonAgainstSailing 12 = .ok (.getfield 19, 3) := by decide +kernel
theorem dX4_reasonAgainstSailing_15 : decode cX4_reasonAgainstSailing 15 = .ok (.ifCond .gt 5, 3) := by decide +kernel
theorem dX4_reasonAgainstSailing_18 : decode cX4_reasonAgainstSailing 18 = .ok (.iconst 3, 1) := by decide +kernel
theorem dX4_reasonAgainstSailing_19 : decode cX4_reasonAgainstSailing 19 = .ok (.ireturn, 1) := by decide +kernel
theorem dX4_reasonAgainstSailing_20 : decode cX4_reasonAgainstSailing 20 = .ok (.iload_n 1, 1) := by decide +kernel
theorem dX4_reasonAgainstSailing_21 : decode cX4_reasonAgainstSailing 21 = .ok (.bipush (-6), 2) := by decide +kernel
theorem dX4_reasonAgainstSailing_23 : decode cX4_reasonAgainstSailing 23 = .ok (.if_icmp .ne 7, 3) := by decide +kernel
theorem dX4_reasonAgainstSailing_26 : decode cX4_reasonAgainstSailing 26 = .ok (.iconst 4, 1) := by decide +kernel
theorem dX4_reasonAgainstSailing_27 : decode cX4_reasonAgainstSailing 27 = .ok (.goto 5, 3) := by decide +kernel
theorem dX4_reasonAgainstSailing_30 : decode cX4_reasonAgainstSailing 30 = .ok (.bipush (-6), 2) := by decide +kernel
theorem dX4_reasonAgainstSailing_32 : decode cX4_reasonAgainstSailing 32 = .ok (.ireturn, 1) := by decide +kernel
set_option maxRecDepth 20000 in
theorem ggX4_perform_X4_goOrStrike : GoodIn wsX4_perform wsX4_goOrStrike := goodIn_r _ [8, 9, 10, 11, 12, 13, 14, 15, 25, 26, 27, 28, 29, 30, 31, 32, 33, 34] (by decide +kernel) (by decide +kernel)
set_option maxRecDepth 20000 in
theorem gX4_perform_X4_goOrStrike : GoodIn wsX4_perform (wsV RX4 81 RX4 yX4_goOrStrike wsX4_goOrStrike) := goodIn_app (goodIn_of _ (by decide +kernel)) ggX4_perform_X4_goOrStrike
set_option maxRecDepth 20000 in
theorem ggX4_perform_X4_passAnHour : GoodIn wsX4_perform wsX4_passAnHour := goodIn_r _ [19, 20, 3, 21, 22, 23, 24, 1, 2, 25, 26, 27, 28, 29, 30, 31, 32, 33, 34] (by decide +kernel) (by decide +kernel)
set_option maxRecDepth 20000 in
theorem gX4_perform_X4_passAnHour : GoodIn wsX4_perform (wsV RX4 85 RX4 yX4_passAnHour wsX4_passAnHour) := goodIn_app (goodIn_of _ (by decide +kernel)) ggX4_perform_X4_passAnHour
theorem dX4_perform_0 : decode cX4_perform 0 = .ok (.iload_n 1, 1) := by decide +kernel
theorem dX4_perform_1 : decode cX4_perform 1 = .ok (.tableswitch 89 0 5 #[39, 52, 66, 74, 89, 82], 39) := by decide +kernel
theorem dX4_perform_40 : decode cX4_perform 40 = .ok (.aload_n 0, 1) := by decide +kernel
theorem dX4_perform_41 : decode cX4_perform 41 = .ok (.iload_n 2, 1) := by decide +kernel
theorem dX4_perform_42 : decode cX4_perform 42 = .ok (.putfield 22, 3) := by decide +kernel
theorem dX4_perform_45 : decode cX4_perform 45 = .ok (.aload_n 0, 1) := by decide +kernel
theorem dX4_perform_46 : decode cX4_perform 46 = .ok (.iconst 0, 1) := by decide +kernel
theorem dX4_perform_47 : decode cX4_perform 47 = .ok (.putfield 25, 3) := by decide +kernel
theorem dX4_perform_50 : decode cX4_perform 50 = .ok (.goto 40, 3) := by decide +kernel
theorem dX4_perform_53 : decode cX4_perform 53 = .ok (.aload_n 0, 1) := by decide +kernel
theorem dX4_perform_54 : decode cX4_perform 54 = .ok (.bipush (-6), 2) := by decide +kernel
theorem dX4_perform_56 : decode cX4_perform 56 = .ok (.putfield 22, 3) := by decide +kernel
theorem dX4_perform_59 : decode cX4_perform 59 = .ok (.aload_n 0, 1) := by decide +kernel
theorem dX4_perform_60 : decode cX4_perform 60 = .ok (.iconst 0, 1) := by decide +kernel
theorem dX4_perform_61 : decode cX4_perform 61 = .ok (.putfield 25, 3) := by decide +kernel
theorem dX4_perform_64 : decode cX4_perform 64 = .ok (.goto 26, 3) := by decide +kernel
theorem dX4_perform_67 : decode cX4_perform 67 = .ok (.aload_n 0, 1) := by decide +kernel
theorem dX4_perform_68 : decode cX4_perform 68 = .ok (.iload_n 3, 1) := by decide +kernel
theorem dX4_perform_69 : decode cX4_perform 69 = .ok (.invokevirtual 81, 3) := by decide +kernel
theorem dX4_perform_72 : decode cX4_perform 72 = .ok (.goto 18, 3) := by decide +kernel
theorem dX4_perform_75 : decode cX4_perform 75 = .ok (.aload_n 0, 1) := by decide +kernel
theorem dX4_perform_76 : decode cX4_perform 76 = .ok (.iload_n 2, 1) := by decide +kernel
theorem dX4_perform_77 : decode cX4_perform 77 = .ok (.putfield 28, 3) := by decide +kernel
theorem dX4_perform_80 : decode cX4_perform 80 = .ok (.goto 10, 3) := by decide +kernel
theorem dX4_perform_83 : decode cX4_perform 83 = .ok (.aload_n 0, 1) := by decide +kernel
theorem dX4_perform_84 : decode cX4_perform 84 = .ok (.invokevirtual 85, 3) := by decide +kernel
theorem dX4_perform_87 : decode cX4_perform 87 = .ok (.goto 3, 3) := by decide +kernel
theorem dX4_perform_90 : decode cX4_perform 90 = .ok (.return_, 1) := by decide +kernel
set_option maxRecDepth 20000 in
theorem ggX4_goOrStrike_X0_holds : GoodIn wsX4_goOrStrike wsX0_holds := goodIn_r _ [7] (by decide +kernel) (by decide +kernel)
set_option maxRecDepth 20000 in
theorem gX4_goOrStrike_X0_holds : GoodIn wsX4_goOrStrike (va_wsS RX4 48 yX0_holds wsX0_holds) := goodIn_app (goodIn_of _ (by decide +kernel)) ggX4_goOrStrike_X0_holds
theorem dX4_goOrStrike_0 : decode cX4_goOrStrike 0 = .ok (.aload_n 0, 1) := by decide +kernel
theorem dX4_goOrStrike_1 : decode cX4_goOrStrike 1 = .ok (.getfield 9, 3) := by decide +kernel
theorem dX4_goOrStrike_4 : decode cX4_goOrStrike 4 = .ok (.iload_n 1, 1) := by decide +kernel
theorem dX4_goOrStrike_5 : decode cX4_goOrStrike 5 = .ok (.invokestatic 48, 3) := by decide +kernel
theorem dX4_goOrStrike_8 : decode cX4_goOrStrike 8 = .ok (.ifCond .eq 16, 3) := by decide +kernel
theorem dX4_goOrStrike_11 : decode cX4_goOrStrike 11 = .ok (.aload_n 0, 1) := by decide +kernel
theorem dX4_goOrStrike_12 : decode cX4_goOrStrike 12 = .ok (.dup, 1) := by decide +kernel
theorem dX4_goOrStrike_13 : decode cX4_goOrStrike 13 = .ok (.getfield 19, 3) := by decide +kernel
theorem dX4_goOrStrike_16 : decode cX4_goOrStrike 16 = .ok (.iconst 1, 1) := by decide +kernel
theorem dX4_goOrStrike_17 : decode cX4_goOrStrike 17 = .ok (.isub, 1) := by decide +kernel
theorem dX4_goOrStrike_18 : decode cX4_goOrStrike 18 = .ok (.putfield 19, 3) := by decide +kernel
theorem dX4_goOrStrike_21 : decode cX4_goOrStrike 21 = .ok (.goto 8, 3) := by decide +kernel
theorem dX4_goOrStrike_24 : decode cX4_goOrStrike 24 = .ok (.aload_n 0, 1) := by decide +kernel
theorem dX4_goOrStrike_25 : decode cX4_goOrStrike 25 = .ok (.iload_n 1, 1) := by decide +kernel
theorem dX4_goOrStrike_26 : decode cX4_goOrStrike 26 = .ok (.putfield 15, 3) := by decide +kernel
theorem dX4_goOrStrike_29 : decode cX4_goOrStrike 29 = .ok (.return_, 1) := by decide +kernel
theorem dX4_passAnHour_0 : decode cX4_passAnHour 0 = .ok (.aload_n 0, 1) := by decide +kernel
theorem dX4_passAnHour_1 : decode cX4_passAnHour 1 = .ok (.dup, 1) := by decide +kernel
theorem dX4_passAnHour_2 : decode cX4_passAnHour 2 = .ok (.getfield 31, 3) := by decide +kernel
theorem dX4_passAnHour_5 : decode cX4_passAnHour 5 = .ok (.iconst 1, 1) := by decide +kernel
theorem dX4_passAnHour_6 : decode cX4_passAnHour 6 = .ok (.iadd, 1) := by decide +kernel
theorem dX4_passAnHour_7 : decode cX4_passAnHour 7 = .ok (.putfield 31, 3) := by decide +kernel
theorem dX4_passAnHour_10 : decode cX4_passAnHour 10 = .ok (.aload_n 0, 1) := by decide +kernel
theorem dX4_passAnHour_11 : decode cX4_passAnHour 11 = .ok (.iconst 0, 1) := by decide +kernel
theorem dX4_passAnHour_12 : decode cX4_passAnHour 12 = .ok (.aload_n 0, 1) := by decide +kernel
theorem dX4_passAnHour_13 : decode cX4_passAnHour 13 = .ok (.getfield 28, 3) := by decide +kernel
theorem dX4_passAnHour_16 : decode cX4_passAnHour 16 = .ok (.iconst 1, 1) := by decide +kernel
theorem dX4_passAnHour_17 : decode cX4_passAnHour 17 = .ok (.isub, 1) := by decide +kernel
theorem dX4_passAnHour_18 : decode cX4_passAnHour 18 = .ok (.invokestatic 52, 3) := by decide +kernel
theorem dX4_passAnHour_21 : decode cX4_passAnHour 21 = .ok (.putfield 28, 3) := by decide +kernel
theorem dX4_passAnHour_24 : decode cX4_passAnHour 24 = .ok (.aload_n 0, 1) := by decide +kernel
theorem dX4_passAnHour_25 : decode cX4_passAnHour 25 = .ok (.getfield 22, 3) := by decide +kernel
theorem dX4_passAnHour_28 : decode cX4_passAnHour 28 = .ok (.bipush (-6), 2) := by decide +kernel
theorem dX4_passAnHour_30 : decode cX4_passAnHour 30 = .ok (.if_icmp .eq 13, 3) := by decide +kernel
theorem dX4_passAnHour_33 : decode cX4_passAnHour 33 = .ok (.aload_n 0, 1) := by decide +kernel
theorem dX4_passAnHour_34 : decode cX4_passAnHour 34 = .ok (.dup, 1) := by decide +kernel
theorem dX4_passAnHour_35 : decode cX4_passAnHour 35 = .ok (.getfield 25, 3) := by decide +kernel
theorem dX4_passAnHour_38 : decode cX4_passAnHour 38 = .ok (.iconst 1, 1) := by decide +kernel
theorem dX4_passAnHour_39 : decode cX4_passAnHour 39 = .ok (.iadd, 1) := by decide +kernel
theorem dX4_passAnHour_40 : decode cX4_passAnHour 40 = .ok (.putfield 25, 3) := by decide +kernel
theorem dX4_passAnHour_43 : decode cX4_passAnHour 43 = .ok (.return_, 1) := by decide +kernel
set_option maxRecDepth 20000 in
theorem ggX5_init_X4_init : GoodIn wsX5_init wsX4_init := goodIn_r _ [9, 10, 2, 3, 11, 12, 13, 14, 15, 16, 17, 18, 19, 20, 21, 22, 23, 24, 25, 26, 27, 28, 29, 30, 31, 32] (by decide +kernel) (by decide +kernel)
set_option maxRecDepth 20000 in
theorem gX5_init_X4_init_n11 : GoodIn wsX5_init (wsX4_init) := ggX5_init_X4_init
theorem dX5_init_0 : decode cX5_init 0 = .ok (.aload_n 0, 1) := by decide +kernel
theorem dX5_init_1 : decode cX5_init 1 = .ok (.invokespecial 3, 3) := by decide +kernel
theorem dX5_init_4 : decode cX5_init 4 = .ok (.aload_n 0, 1) := by decide +kernel
theorem dX5_init_5 : decode cX5_init 5 = .ok (.new 9, 3) := by decide +kernel
theorem dX5_init_8 : decode cX5_init 8 = .ok (.dup, 1) := by decide +kernel
theorem dX5_init_9 : decode cX5_init 9 = .ok (.invokespecial 11, 3) := by decide +kernel
theorem dX5_init_12 : decode cX5_init 12 = .ok (.putfield 12, 3) := by decide +kernel
theorem dX5_init_15 : decode cX5_init 15 = .ok (.return_, 1) := by decide +kernel
set_option maxRecDepth 20000 in
theorem ggX5_setOut_X4_takeOver : GoodIn wsX5_setOut wsX4_takeOver := goodIn_r _ [13, 14, 15, 16, 17, 18, 19, 20, 21, 22, 23, 32, 33, 34, 35, 36, 37, 38, 39, 40, 41] (by decide +kernel) (by decide +kernel)
set_option maxRecDepth 20000 in
theorem gX5_setOut_X4_takeOver : GoodIn wsX5_setOut (wsV RX5 18 RX4 yX4_takeOver wsX4_takeOver) := goodIn_app (goodIn_of _ (by decide +kernel)) ggX5_setOut_X4_takeOver
theorem dX5_setOut_0 : decode cX5_setOut 0 = .ok (.aload_n 0, 1) := by decide +kernel
theorem dX5_setOut_1 : decode cX5_setOut 1 = .ok (.getfield 12, 3) := by decide +kernel
theorem dX5_setOut_4 : decode cX5_setOut 4 = .ok (.aload_n 1, 1) := by decide +kernel
theorem dX5_setOut_5 : decode cX5_setOut 5 = .ok (.invokevirtual 18, 3) := by decide +kernel
theorem dX5_setOut_8 : decode cX5_setOut 8 = .ok (.aload_n 0, 1) := by decide +kernel
theorem dX5_setOut_9 : decode cX5_setOut 9 = .ok (.iconst 0, 1) := by decide +kernel
theorem dX5_setOut_10 : decode cX5_setOut 10 = .ok (.putfield 22, 3) := by decide +kernel
theorem dX5_setOut_13 : decode cX5_setOut 13 = .ok (.aload_n 0, 1) := by decide +kernel
theorem dX5_setOut_14 : decode cX5_setOut 14 = .ok (.bipush (-6), 2) := by decide +kernel
theorem dX5_setOut_16 : decode cX5_setOut 16 = .ok (.putfield 26, 3) := by decide +kernel
theorem dX5_setOut_19 : decode cX5_setOut 19 = .ok (.aload_n 0, 1) := by decide +kernel
theorem dX5_setOut_20 : decode cX5_setOut 20 = .ok (.bipush (-6), 2) := by decide +kernel
theorem dX5_setOut_22 : decode cX5_setOut 22 = .ok (.putfield 29, 3) := by decide +kernel
theorem dX5_setOut_25 : decode cX5_setOut 25 = .ok (.aload_n 0, 1) := by decide +kernel
theorem dX5_setOut_26 : decode cX5_setOut 26 = .ok (.iconst 0, 1) := by decide +kernel
theorem dX5_setOut_27 : decode cX5_setOut 27 = .ok (.putfield 32, 3) := by decide +kernel
theorem dX5_setOut_30 : decode cX5_setOut 30 = .ok (.aload_n 0, 1) := by decide +kernel
theorem dX5_setOut_31 : decode cX5_setOut 31 = .ok (.iconst 0, 1) := by decide +kernel
theorem dX5_setOut_32 : decode cX5_setOut 32 = .ok (.putfield 35, 3) := by decide +kernel
theorem dX5_setOut_35 : decode cX5_setOut 35 = .ok (.aload_n 0, 1) := by decide +kernel
theorem dX5_setOut_36 : decode cX5_setOut 36 = .ok (.iconst 0, 1) := by decide +kernel
theorem dX5_setOut_37 : decode cX5_setOut 37 = .ok (.putfield 38, 3) := by decide +kernel
theorem dX5_setOut_40 : decode cX5_setOut 40 = .ok (.aload_n 0, 1) := by decide +kernel
theorem dX5_setOut_41 : decode cX5_setOut 41 = .ok (.bipush (-6), 2) := by decide +kernel
theorem dX5_setOut_43 : decode cX5_setOut 43 = .ok (.putfield 41, 3) := by decide +kernel
theorem dX5_setOut_46 : decode cX5_setOut 46 = .ok (.return_, 1) := by decide +kernel
set_option maxRecDepth 20000 in
theorem ggX5_sailByText_X5_setOut : GoodIn wsX5_sailByText wsX5_setOut := goodIn_r _ [9, 10, 3, 4, 2, 11, 12, 13, 14, 15, 16, 17, 18, 19, 20, 21, 22, 23, 24, 25, 26, 27, 28, 29, 126, 127, 128, 129, 130, 131, 132, 133, 134, 135, 136, 137, 138, 139, 140, 141, 142, 143] (by decide +kernel) (by decide +kernel)
set_option maxRecDepth 20000 in
theorem gX5_sailByText_X5_setOut : GoodIn wsX5_sailByText (wsV RX5 44 RX5 yX5_setOut wsX5_setOut) := goodIn_app (goodIn_of _ (by decide +kernel)) ggX5_sailByText_X5_setOut
set_option maxRecDepth 20000 in
theorem ggX5_sailByText_X2_actAt : GoodIn wsX5_sailByText wsX2_actAt := goodIn_r _ [34, 35, 36, 37, 33, 38, 39, 40, 41, 42, 43, 44, 45, 46, 124, 125] (by decide +kernel) (by decide +kernel)
set_option maxRecDepth 20000 in
theorem gX5_sailByText_X2_actAt : GoodIn wsX5_sailByText (wsV RX5 52 RX2 yX2_actAt wsX2_actAt) := goodIn_app (goodIn_of _ (by decide +kernel)) ggX5_sailByText_X2_actAt
set_option maxRecDepth 20000 in
theorem ggX5_sailByText_X2_withAt : GoodIn wsX5_sailByText wsX2_withAt := goodIn_r _ [50, 35, 36, 37, 33, 38, 39, 40, 41, 42, 43, 124, 125] (by decide +kernel) (by decide +kernel)
set_option maxRecDepth 20000 in
theorem gX5_sailByText_X2_withAt : GoodIn wsX5_sailByText (wsV RX5 56 RX2 yX2_withAt wsX2_withAt) := goodIn_app (goodIn_of _ (by decide +kernel)) ggX5_sailByText_X2_withAt
set_option maxRecDepth 20000 in
theorem ggX5_sailByText_X5_tryAct : GoodIn wsX5_sailByText wsX5_tryAct := goodIn_r _ [54, 10, 55, 11, 3, 56, 57, 58, 59, 60, 61, 62, 63, 64, 65, 66, 67, 68, 69, 70, 18, 71, 23, 25, 26, 72, 73, 74, 75, 22, 76, 77, 78, 79, 20, 21, 80, 81, 82, 83, 29, 84, 85, 86, 87, 24, 88, 89, 90, 91, 92, 93, 94, 95, 96, 97, 98, 99, 100, 8, 101, 12, 13, 14, 102, 103, 104, 105, 106, 107, 108, 109, 110, 111, 112, 113, 114, 115, 116, 117, 118, 119, 120, 126, 127, 128, 129, 130, 131, 132, 133, 134, 135, 136, 137, 138, 139, 140, 141, 142, 143] (by decide +kernel) (by decide +kernel)
set_option maxRecDepth 20000 in
theorem gX5_sailByText_X5_tryAct : GoodIn wsX5_sailByText (wsV RX5 59 RX5 yX5_tryAct wsX5_tryAct) := goodIn_app (goodIn_of _ (by decide +kernel)) ggX5_sailByText_X5_tryAct
set_option maxRecDepth 20000 in
theorem ggX5_sailByText_X2_signsOf : GoodIn wsX5_sailByText wsX2_signsOf := goodIn_r _ [123] (by decide +kernel) (by decide +kernel)
set_option maxRecDepth 20000 in
theorem gX5_sailByText_X2_signsOf : GoodIn wsX5_sailByText (va_wsS RX5 63 yX2_signsOf wsX2_signsOf) := goodIn_app (goodIn_of _ (by decide +kernel)) ggX5_sailByText_X2_signsOf
theorem dX5_sailByText_0 : decode cX5_sailByText 0 = .ok (.aload_n 0, 1) := by decide +kernel
theorem dX5_sailByText_1 : decode cX5_sailByText 1 = .ok (.aload_n 1, 1) := by decide +kernel
theorem dX5_sailByText_2 : decode cX5_sailByText 2 = .ok (.invokevirtual 44, 3) := by decide +kernel
theorem dX5_sailByText_5 : decode cX5_sailByText 5 = .ok (.iconst 0, 1) := by decide +kernel
theorem dX5_sailByText_6 : decode cX5_sailByText 6 = .ok (.istore_n 3, 1) := by decide +kernel
theorem dX5_sailByText_7 : decode cX5_sailByText 7 = .ok (.iconst 0, 1) := by decide +kernel
theorem dX5_sailByText_8 : decode cX5_sailByText 8 = .ok (.istore 4, 2) := by decide +kernel
theorem dX5_sailByText_10 : decode cX5_sailByText 10 = .ok (.iload 4, 2) := by decide +kernel
theorem dX5_sailByText_12 : decode cX5_sailByText 12 = .ok (.aload_n 2, 1) := by decide +kernel
theorem dX5_sailByText_13 : decode cX5_sailByText 13 = .ok (.getfield 47, 3) := by decide +kernel
theorem dX5_sailByText_16 : decode cX5_sailByText 16 = .ok (.if_icmp .ge 65, 3) := by decide +kernel
theorem dX5_sailByText_19 : decode cX5_sailByText 19 = .ok (.iload_n 3, 1) := by decide +kernel
theorem dX5_sailByText_20 : decode cX5_sailByText 20 = .ok (.aload_n 2, 1) := by decide +kernel
theorem dX5_sailByText_21 : decode cX5_sailByText 21 = .ok (.getfield 47, 3) := by decide +kernel
theorem dX5_sailByText_24 : decode cX5_sailByText 24 = .ok (.if_icmp .ge 57, 3) := by decide +kernel
theorem dX5_sailByText_27 : decode cX5_sailByText 27 = .ok (.aload_n 2, 1) := by decide +kernel
theorem dX5_sailByText_28 : decode cX5_sailByText 28 = .ok (.iload_n 3, 1) := by decide +kernel
theorem dX5_sailByText_29 : decode cX5_sailByText 29 = .ok (.invokevirtual 52, 3) := by decide +kernel
theorem dX5_sailByText_32 : decode cX5_sailByText 32 = .ok (.istore 5, 2) := by decide +kernel
theorem dX5_sailByText_34 : decode cX5_sailByText 34 = .ok (.aload_n 0, 1) := by decide +kernel
theorem dX5_sailByText_35 : decode cX5_sailByText 35 = .ok (.aload_n 0, 1) := by decide +kernel
theorem dX5_sailByText_36 : decode cX5_sailByText 36 = .ok (.iload 5, 2) := by decide +kernel
theorem dX5_sailByText_38 : decode cX5_sailByText 38 = .ok (.aload_n 2, 1) := by decide +kernel
theorem dX5_sailByText_39 : decode cX5_sailByText 39 = .ok (.iload_n 3, 1) := by decide +kernel
theorem dX5_sailByText_40 : decode cX5_sailByText 40 = .ok (.invokevirtual 56, 3) := by decide +kernel
theorem dX5_sailByText_43 : decode cX5_sailByText 43 = .ok (.invokevirtual 59, 3) := by decide +kernel
theorem dX5_sailByText_46 : decode cX5_sailByText 46 = .ok (.putfield 29, 3) := by decide +kernel
theorem dX5_sailByText_49 : decode cX5_sailByText 49 = .ok (.aload_n 0, 1) := by decide +kernel
theorem dX5_sailByText_50 : decode cX5_sailByText 50 = .ok (.getfield 29, 3) := by decide +kernel
theorem dX5_sailByText_53 : decode cX5_sailByText 53 = .ok (.bipush (-6), 2) := by decide +kernel
theorem dX5_sailByText_55 : decode cX5_sailByText 55 = .ok (.if_icmp .eq 12, 3) := by decide +kernel
theorem dX5_sailByText_58 : decode cX5_sailByText 58 = .ok (.aload_n 0, 1) := by decide +kernel
theorem dX5_sailByText_59 : decode cX5_sailByText 59 = .ok (.aload_n 0, 1) := by decide +kernel
theorem dX5_sailByText_60 : decode cX5_sailByText 60 = .ok (.getfield 22, 3) := by decide +kernel
theorem dX5_sailByText_63 : decode cX5_sailByText 63 = .ok (.putfield 26, 3) := by decide +kernel
theorem dX5_sailByText_66 : decode cX5_sailByText 66 = .ok (.return_, 1) := by decide +kernel
theorem dX5_sailByText_67 : decode cX5_sailByText 67 = .ok (.iload_n 3, 1) := by decide +kernel
theorem dX5_sailByText_68 : decode cX5_sailByText 68 = .ok (.iload 5, 2) := by decide +kernel
theorem dX5_sailByText_70 : decode cX5_sailByText 70 = .ok (.invokestatic 63, 3) := by decide +kernel
theorem dX5_sailByText_73 : decode cX5_sailByText 73 = .ok (.iadd, 1) := by decide +kernel
theorem dX5_sailByText_74 : decode cX5_sailByText 74 = .ok (.istore_n 3, 1) := by decide +kernel
theorem dX5_sailByText_75 : decode cX5_sailByText 75 = .ok (.iinc 4 1, 3) := by decide +kernel
theorem dX5_sailByText_78 : decode cX5_sailByText 78 = .ok (.goto (-68), 3) := by decide +kernel
theorem dX5_sailByText_81 : decode cX5_sailByText 81 = .ok (.return_, 1) := by decide +kernel
set_option maxRecDepth 20000 in
theorem ggX5_sailByDraws_X5_setOut : GoodIn wsX5_sailByDraws wsX5_setOut := goodIn_r _ [6, 7, 8, 9, 10, 11, 12, 13, 14, 15, 16, 17, 18, 19, 20, 21, 22, 23, 24, 25, 26, 27, 28, 29, 103, 104, 105, 106, 107, 108, 109, 110, 111, 112, 113, 114, 115, 116, 117, 118, 119, 120] (by decide +kernel) (by decide +kernel)
set_option maxRecDepth 20000 in
theorem gX5_sailByDraws_X5_setOut : GoodIn wsX5_sailByDraws (wsV RX5 44 RX5 yX5_setOut wsX5_setOut) := goodIn_app (goodIn_of _ (by decide +kernel)) ggX5_sailByDraws_X5_setOut
set_option maxRecDepth 20000 in
theorem ggX5_sailByDraws_X5_drawnAct : GoodIn wsX5_sailByDraws wsX5_drawnAct := goodIn_r _ [32] (by decide +kernel) (by decide +kernel)
set_option maxRecDepth 20000 in
theorem gX5_sailByDraws_X5_drawnAct : GoodIn wsX5_sailByDraws (va_wsS RX5 67 yX5_drawnAct wsX5_drawnAct) := goodIn_app (goodIn_of _ (by decide +kernel)) ggX5_sailByDraws_X5_drawnAct
set_option maxRecDepth 20000 in
theorem ggX5_sailByDraws_X5_tryAct : GoodIn wsX5_sailByDraws wsX5_tryAct := goodIn_r _ [36, 7, 37, 11, 8, 38, 39, 40, 41, 42, 43, 44, 45, 46, 47, 48, 49, 50, 51, 52, 18, 53, 23, 25, 26, 54, 55, 56, 57, 22, 58, 59, 60, 61, 20, 21, 62, 63, 64, 65, 29, 66, 67, 68, 69, 24, 70, 71, 72, 73, 74, 75, 76, 77, 78, 79, 80, 81, 82, 5, 83, 12, 13, 14, 84, 85, 86, 87, 88, 89, 90, 91, 92, 93, 94, 95, 96, 97, 98, 99, 100, 101, 102, 103, 104, 105, 106, 107, 108, 109, 110, 111, 112, 113, 114, 115, 116, 117, 118, 119, 120] (by decide +kernel) (by decide +kernel)
set_option maxRecDepth 20000 in
theorem gX5_sailByDraws_X5_tryAct : GoodIn wsX5_sailByDraws (wsV RX5 59 RX5 yX5_tryAct wsX5_tryAct) := goodIn_app (goodIn_of _ (by decide +kernel)) ggX5_sailByDraws_X5_tryAct
theorem dX5_sailByDraws_0 : decode cX5_sailByDraws 0 = .ok (.aload_n 0, 1) := by decide +kernel
theorem dX5_sailByDraws_1 : decode cX5_sailByDraws 1 = .ok (.aload_n 1, 1) := by decide +kernel
theorem dX5_sailByDraws_2 : decode cX5_sailByDraws 2 = .ok (.invokevirtual 44, 3) := by decide +kernel
theorem dX5_sailByDraws_5 : decode cX5_sailByDraws 5 = .ok (.iload_n 2, 1) := by decide +kernel
theorem dX5_sailByDraws_6 : decode cX5_sailByDraws 6 = .ok (.istore 4, 2) := by decide +kernel
theorem dX5_sailByDraws_8 : decode cX5_sailByDraws 8 = .ok (.iconst 0, 1) := by decide +kernel
theorem dX5_sailByDraws_9 : decode cX5_sailByDraws 9 = .ok (.istore 5, 2) := by decide +kernel
theorem dX5_sailByDraws_11 : decode cX5_sailByDraws 11 = .ok (.iload 5, 2) := by decide +kernel
theorem dX5_sailByDraws_13 : decode cX5_sailByDraws 13 = .ok (.iload_n 3, 1) := by decide +kernel
theorem dX5_sailByDraws_14 : decode cX5_sailByDraws 14 = .ok (.if_icmp .ge 64, 3) := by decide +kernel
theorem dX5_sailByDraws_17 : decode cX5_sailByDraws 17 = .ok (.bipush 75, 2) := by decide +kernel
theorem dX5_sailByDraws_19 : decode cX5_sailByDraws 19 = .ok (.iload 4, 2) := by decide +kernel
theorem dX5_sailByDraws_21 : decode cX5_sailByDraws 21 = .ok (.imul, 1) := by decide +kernel
theorem dX5_sailByDraws_22 : decode cX5_sailByDraws 22 = .ok (.bipush 74, 2) := by decide +kernel
theorem dX5_sailByDraws_24 : decode cX5_sailByDraws 24 = .ok (.iadd, 1) := by decide +kernel
theorem dX5_sailByDraws_25 : decode cX5_sailByDraws 25 = .ok (.ldc 66, 2) := by decide +kernel
theorem dX5_sailByDraws_27 : decode cX5_sailByDraws 27 = .ok (.irem, 1) := by decide +kernel
theorem dX5_sailByDraws_28 : decode cX5_sailByDraws 28 = .ok (.istore 4, 2) := by decide +kernel
theorem dX5_sailByDraws_30 : decode cX5_sailByDraws 30 = .ok (.iload 4, 2) := by decide +kernel
theorem dX5_sailByDraws_32 : decode cX5_sailByDraws 32 = .ok (.bipush 8, 2) := by decide +kernel
theorem dX5_sailByDraws_34 : decode cX5_sailByDraws 34 = .ok (.irem, 1) := by decide +kernel
theorem dX5_sailByDraws_35 : decode cX5_sailByDraws 35 = .ok (.invokestatic 67, 3) := by decide +kernel
theorem dX5_sailByDraws_38 : decode cX5_sailByDraws 38 = .ok (.istore 6, 2) := by decide +kernel
theorem dX5_sailByDraws_40 : decode cX5_sailByDraws 40 = .ok (.iload 4, 2) := by decide +kernel
theorem dX5_sailByDraws_42 : decode cX5_sailByDraws 42 = .ok (.bipush 8, 2) := by decide +kernel
theorem dX5_sailByDraws_44 : decode cX5_sailByDraws 44 = .ok (.idiv, 1) := by decide +kernel
theorem dX5_sailByDraws_45 : decode cX5_sailByDraws 45 = .ok (.istore 7, 2) := by decide +kernel
theorem dX5_sailByDraws_47 : decode cX5_sailByDraws 47 = .ok (.aload_n 0, 1) := by decide +kernel
theorem dX5_sailByDraws_48 : decode cX5_sailByDraws 48 = .ok (.iload 6, 2) := by decide +kernel
theorem dX5_sailByDraws_50 : decode cX5_sailByDraws 50 = .ok (.iload 6, 2) := by decide +kernel
theorem dX5_sailByDraws_52 : decode cX5_sailByDraws 52 = .ok (.ifCond .ne 11, 3) := by decide +kernel
theorem dX5_sailByDraws_55 : decode cX5_sailByDraws 55 = .ok (.iload 7, 2) := by decide +kernel
theorem dX5_sailByDraws_57 : decode cX5_sailByDraws 57 = .ok (.bipush 6, 2) := by decide +kernel
theorem dX5_sailByDraws_59 : decode cX5_sailByDraws 59 = .ok (.irem, 1) := by decide +kernel
theorem dX5_sailByDraws_60 : decode cX5_sailByDraws 60 = .ok (.goto 8, 3) := by decide +kernel
theorem dX5_sailByDraws_63 : decode cX5_sailByDraws 63 = .ok (.iload 7, 2) := by decide +kernel
theorem dX5_sailByDraws_65 : decode cX5_sailByDraws 65 = .ok (.bipush 8, 2) := by decide +kernel
theorem dX5_sailByDraws_67 : decode cX5_sailByDraws 67 = .ok (.irem, 1) := by decide +kernel
theorem dX5_sailByDraws_68 : decode cX5_sailByDraws 68 = .ok (.invokevirtual 59, 3) := by decide +kernel
theorem dX5_sailByDraws_71 : decode cX5_sailByDraws 71 = .ok (.pop, 1) := by decide +kernel
theorem dX5_sailByDraws_72 : decode cX5_sailByDraws 72 = .ok (.iinc 5 1, 3) := by decide +kernel
theorem dX5_sailByDraws_75 : decode cX5_sailByDraws 75 = .ok (.goto (-64), 3) := by decide +kernel
theorem dX5_sailByDraws_78 : decode cX5_sailByDraws 78 = .ok (.return_, 1) := by decide +kernel
theorem dX5_drawnAct_0 : decode cX5_drawnAct 0 = .ok (.iload_n 0, 1) := by decide +kernel
theorem dX5_drawnAct_1 : decode cX5_drawnAct 1 = .ok (.tableswitch 55 0 7 #[47, 55, 55, 55, 55, 49, 51, 53], 47) := by decide +kernel
theorem dX5_drawnAct_48 : decode cX5_drawnAct 48 = .ok (.iconst 0, 1) := by decide +kernel
theorem dX5_drawnAct_49 : decode cX5_drawnAct 49 = .ok (.ireturn, 1) := by decide +kernel
theorem dX5_drawnAct_50 : decode cX5_drawnAct 50 = .ok (.iconst 3, 1) := by decide +kernel
theorem dX5_drawnAct_51 : decode cX5_drawnAct 51 = .ok (.ireturn, 1) := by decide +kernel
theorem dX5_drawnAct_52 : decode cX5_drawnAct 52 = .ok (.iconst 4, 1) := by decide +kernel
theorem dX5_drawnAct_53 : decode cX5_drawnAct 53 = .ok (.ireturn, 1) := by decide +kernel
theorem dX5_drawnAct_54 : decode cX5_drawnAct 54 = .ok (.iconst 5, 1) := by decide +kernel
theorem dX5_drawnAct_55 : decode cX5_drawnAct 55 = .ok (.ireturn, 1) := by decide +kernel
theorem dX5_drawnAct_56 : decode cX5_drawnAct 56 = .ok (.iconst 2, 1) := by decide +kernel
theorem dX5_drawnAct_57 : decode cX5_drawnAct 57 = .ok (.ireturn, 1) := by decide +kernel
set_option maxRecDepth 20000 in
theorem ggX5_tryAct_X0_next : GoodIn wsX5_tryAct wsX0_next := goodIn_r _ [8, 9, 10, 11, 12, 7, 13, 14, 15, 16] (by decide +kernel) (by decide +kernel)
set_option maxRecDepth 20000 in
theorem gX5_tryAct_X0_next : GoodIn wsX5_tryAct (va_wsS RX5 73 yX0_next wsX0_next) := goodIn_app (goodIn_of _ (by decide +kernel)) ggX5_tryAct_X0_next
set_option maxRecDepth 20000 in
theorem ggX5_tryAct_X4_reasonAgainst : GoodIn wsX5_tryAct wsX4_reasonAgainst := goodIn_r _ [21, 22, 23, 24, 25, 26, 27, 20, 28, 29, 91, 92, 93, 94, 95, 96, 97, 98, 99, 100] (by decide +kernel) (by decide +kernel)
set_option maxRecDepth 20000 in
theorem gX5_tryAct_X4_reasonAgainst : GoodIn wsX5_tryAct (wsV RX5 78 RX4 yX4_reasonAgainst wsX4_reasonAgainst) := goodIn_app (goodIn_of _ (by decide +kernel)) ggX5_tryAct_X4_reasonAgainst
set_option maxRecDepth 20000 in
theorem ggX5_tryAct_X4_sighted : GoodIn wsX5_tryAct wsX4_sighted := goodIn_r _ [33, 22, 34, 35, 36, 37, 38, 20, 39, 40, 23, 41, 42, 43, 44, 45, 46, 47, 7, 48, 49, 50, 51, 52, 53, 54, 55, 91, 92, 93, 94, 95, 96, 97, 98, 99, 100] (by decide +kernel) (by decide +kernel)
set_option maxRecDepth 20000 in
theorem gX5_tryAct_X4_sighted : GoodIn wsX5_tryAct (wsV RX5 82 RX4 yX4_sighted wsX4_sighted) := goodIn_app (goodIn_of _ (by decide +kernel)) ggX5_tryAct_X4_sighted
set_option maxRecDepth 20000 in
theorem ggX5_tryAct_X5_countCall : GoodIn wsX5_tryAct wsX5_countCall := goodIn_r _ [60, 61, 62, 63, 4, 83, 84, 85, 86, 87, 88, 89, 90] (by decide +kernel) (by decide +kernel)
set_option maxRecDepth 20000 in
theorem gX5_tryAct_X5_countCall : GoodIn wsX5_tryAct (wsV RX5 86 RX5 yX5_countCall wsX5_countCall) := goodIn_app (goodIn_of _ (by decide +kernel)) ggX5_tryAct_X5_countCall
set_option maxRecDepth 20000 in
theorem ggX5_tryAct_X4_isLand : GoodIn wsX5_tryAct wsX4_isLand := goodIn_r _ [67, 34, 68, 69, 7, 70, 91, 92, 93, 94, 95, 96, 97, 98, 99, 100] (by decide +kernel) (by decide +kernel)
set_option maxRecDepth 20000 in
theorem gX5_tryAct_X4_isLand : GoodIn wsX5_tryAct (wsV RX5 90 RX4 yX4_isLand wsX4_isLand) := goodIn_app (goodIn_of _ (by decide +kernel)) ggX5_tryAct_X4_isLand
set_option maxRecDepth 20000 in
theorem ggX5_tryAct_X4_perform : GoodIn wsX5_tryAct wsX4_perform := goodIn_r _ [74, 22, 45, 23, 75, 76, 77, 20, 78, 34, 29, 35, 68, 69, 7, 70, 79, 80, 81, 82, 24, 41, 42, 43, 44, 91, 92, 93, 94, 95, 96, 97, 98, 99, 100] (by decide +kernel) (by decide +kernel)
set_option maxRecDepth 20000 in
theorem gX5_tryAct_X4_perform : GoodIn wsX5_tryAct (wsV RX5 94 RX4 yX4_perform wsX4_perform) := goodIn_app (goodIn_of _ (by decide +kernel)) ggX5_tryAct_X4_perform
theorem dX5_tryAct_0 : decode cX5_tryAct 0 = .ok (.iload_n 1, 1) := by decide +kernel
theorem dX5_tryAct_1 : decode cX5_tryAct 1 = .ok (.iconst 2, 1) := by decide +kernel
theorem dX5_tryAct_2 : decode cX5_tryAct 2 = .ok (.if_icmp .ne 17, 3) := by decide +kernel
theorem dX5_tryAct_5 : decode cX5_tryAct 5 = .ok (.aload_n 0, 1) := by decide +kernel
theorem dX5_tryAct_6 : decode cX5_tryAct 6 = .ok (.getfield 12, 3) := by decide +kernel
theorem dX5_tryAct_9 : decode cX5_tryAct 9 = .ok (.getfield 70, 3) := by decide +kernel
theorem dX5_tryAct_12 : decode cX5_tryAct 12 = .ok (.iload_n 2, 1) := by decide +kernel
theorem dX5_tryAct_13 : decode cX5_tryAct 13 = .ok (.invokestatic 73, 3) := by decide +kernel
theorem dX5_tryAct_16 : decode cX5_tryAct 16 = .ok (.goto 5, 3) := by decide +kernel
theorem dX5_tryAct_19 : decode cX5_tryAct 19 = .ok (.bipush (-6), 2) := by decide +kernel
theorem dX5_tryAct_21 : decode cX5_tryAct 21 = .ok (.istore_n 3, 1) := by decide +kernel
theorem dX5_tryAct_22 : decode cX5_tryAct 22 = .ok (.aload_n 0, 1) := by decide +kernel
theorem dX5_tryAct_23 : decode cX5_tryAct 23 = .ok (.getfield 12, 3) := by decide +kernel
theorem dX5_tryAct_26 : decode cX5_tryAct 26 = .ok (.iload_n 1, 1) := by decide +kernel
theorem dX5_tryAct_27 : decode cX5_tryAct 27 = .ok (.iload_n 2, 1) := by decide +kernel
theorem dX5_tryAct_28 : decode cX5_tryAct 28 = .ok (.iload_n 3, 1) := by decide +kernel
theorem dX5_tryAct_29 : decode cX5_tryAct 29 = .ok (.invokevirtual 78, 3) := by decide +kernel
theorem dX5_tryAct_32 : decode cX5_tryAct 32 = .ok (.istore 4, 2) := by decide +kernel
theorem dX5_tryAct_34 : decode cX5_tryAct 34 = .ok (.iload 4, 2) := by decide +kernel
theorem dX5_tryAct_36 : decode cX5_tryAct 36 = .ok (.bipush (-6), 2) := by decide +kernel
theorem dX5_tryAct_38 : decode cX5_tryAct 38 = .ok (.if_icmp .eq 6, 3) := by decide +kernel
theorem dX5_tryAct_41 : decode cX5_tryAct 41 = .ok (.iload 4, 2) := by decide +kernel
theorem dX5_tryAct_43 : decode cX5_tryAct 43 = .ok (.ireturn, 1) := by decide +kernel
theorem dX5_tryAct_44 : decode cX5_tryAct 44 = .ok (.iload_n 1, 1) := by decide +kernel
theorem dX5_tryAct_45 : decode cX5_tryAct 45 = .ok (.iconst 4, 1) := by decide +kernel
theorem dX5_tryAct_46 : decode cX5_tryAct 46 = .ok (.if_icmp .ne 14, 3) := by decide +kernel
theorem dX5_tryAct_49 : decode cX5_tryAct 49 = .ok (.aload_n 0, 1) := by decide +kernel
theorem dX5_tryAct_50 : decode cX5_tryAct 50 = .ok (.aload_n 0, 1) := by decide +kernel
theorem dX5_tryAct_51 : decode cX5_tryAct 51 = .ok (.getfield 12, 3) := by decide +kernel
theorem dX5_tryAct_54 : decode cX5_tryAct 54 = .ok (.invokevirtual 82, 3) := by decide +kernel
theorem dX5_tryAct_57 : decode cX5_tryAct 57 = .ok (.invokevirtual 86, 3) := by decide +kernel
theorem dX5_tryAct_60 : decode cX5_tryAct 60 = .ok (.iload_n 1, 1) := by decide +kernel
theorem dX5_tryAct_61 : decode cX5_tryAct 61 = .ok (.iconst 2, 1) := by decide +kernel
theorem dX5_tryAct_62 : decode cX5_tryAct 62 = .ok (.if_icmp .ne 24, 3) := by decide +kernel
theorem dX5_tryAct_65 : decode cX5_tryAct 65 = .ok (.aload_n 0, 1) := by decide +kernel
theorem dX5_tryAct_66 : decode cX5_tryAct 66 = .ok (.getfield 12, 3) := by decide +kernel
theorem dX5_tryAct_69 : decode cX5_tryAct 69 = .ok (.iload_n 3, 1) := by decide +kernel
theorem dX5_tryAct_70 : decode cX5_tryAct 70 = .ok (.invokevirtual 90, 3) := by decide +kernel
theorem dX5_tryAct_73 : decode cX5_tryAct 73 = .ok (.ifCond .eq 13, 3) := by decide +kernel
theorem dX5_tryAct_76 : decode cX5_tryAct 76 = .ok (.aload_n 0, 1) := by decide +kernel
theorem dX5_tryAct_77 : decode cX5_tryAct 77 = .ok (.dup, 1) := by decide +kernel
theorem dX5_tryAct_78 : decode cX5_tryAct 78 = .ok (.getfield 32, 3) := by decide +kernel
theorem dX5_tryAct_81 : decode cX5_tryAct 81 = .ok (.iconst 1, 1) := by decide +kernel
theorem dX5_tryAct_82 : decode cX5_tryAct 82 = .ok (.iadd, 1) := by decide +kernel
theorem dX5_tryAct_83 : decode cX5_tryAct 83 = .ok (.putfield 32, 3) := by decide +kernel
theorem dX5_tryAct_86 : decode cX5_tryAct 86 = .ok (.aload_n 0, 1) := by decide +kernel
theorem dX5_tryAct_87 : decode cX5_tryAct 87 = .ok (.getfield 12, 3) := by decide +kernel
theorem dX5_tryAct_90 : decode cX5_tryAct 90 = .ok (.iload_n 1, 1) := by decide +kernel
theorem dX5_tryAct_91 : decode cX5_tryAct 91 = .ok (.iload_n 2, 1) := by decide +kernel
theorem dX5_tryAct_92 : decode cX5_tryAct 92 = .ok (.iload_n 3, 1) := by decide +kernel
theorem dX5_tryAct_93 : decode cX5_tryAct 93 = .ok (.invokevirtual 94, 3) := by decide +kernel
theorem dX5_tryAct_96 : decode cX5_tryAct 96 = .ok (.aload_n 0, 1) := by decide +kernel
theorem dX5_tryAct_97 : decode cX5_tryAct 97 = .ok (.dup, 1) := by decide +kernel
theorem dX5_tryAct_98 : decode cX5_tryAct 98 = .ok (.getfield 22, 3) := by decide +kernel
theorem dX5_tryAct_101 : decode cX5_tryAct 101 = .ok (.iconst 1, 1) := by decide +kernel
theorem dX5_tryAct_102 : decode cX5_tryAct 102 = .ok (.iadd, 1) := by decide +kernel
theorem dX5_tryAct_103 : decode cX5_tryAct 103 = .ok (.putfield 22, 3) := by decide +kernel
theorem dX5_tryAct_106 : decode cX5_tryAct 106 = .ok (.bipush (-6), 2) := by decide +kernel
theorem dX5_tryAct_108 : decode cX5_tryAct 108 = .ok (.ireturn, 1) := by decide +kernel
theorem dX5_countCall_0 : decode cX5_countCall 0 = .ok (.aload_n 0, 1) := by decide +kernel
theorem dX5_countCall_1 : decode cX5_countCall 1 = .ok (.dup, 1) := by decide +kernel
theorem dX5_countCall_2 : decode cX5_countCall 2 = .ok (.getfield 35, 3) := by decide +kernel
theorem dX5_countCall_5 : decode cX5_countCall 5 = .ok (.iconst 1, 1) := by decide +kernel
theorem dX5_countCall_6 : decode cX5_countCall 6 = .ok (.iadd, 1) := by decide +kernel
theorem dX5_countCall_7 : decode cX5_countCall 7 = .ok (.putfield 35, 3) := by decide +kernel
theorem dX5_countCall_10 : decode cX5_countCall 10 = .ok (.lload_n 1, 1) := by decide +kernel
theorem dX5_countCall_11 : decode cX5_countCall 11 = .ok (.lconst 0, 1) := by decide +kernel
theorem dX5_countCall_12 : decode cX5_countCall 12 = .ok (.lcmp, 1) := by decide +kernel
theorem dX5_countCall_13 : decode cX5_countCall 13 = .ok (.ifCond .eq 4, 3) := by decide +kernel
theorem dX5_countCall_16 : decode cX5_countCall 16 = .ok (.return_, 1) := by decide +kernel
theorem dX5_countCall_17 : decode cX5_countCall 17 = .ok (.aload_n 0, 1) := by decide +kernel
theorem dX5_countCall_18 : decode cX5_countCall 18 = .ok (.dup, 1) := by decide +kernel
theorem dX5_countCall_19 : decode cX5_countCall 19 = .ok (.getfield 38, 3) := by decide +kernel
theorem dX5_countCall_22 : decode cX5_countCall 22 = .ok (.iconst 1, 1) := by decide +kernel
theorem dX5_countCall_23 : decode cX5_countCall 23 = .ok (.iadd, 1) := by decide +kernel
theorem dX5_countCall_24 : decode cX5_countCall 24 = .ok (.putfield 38, 3) := by decide +kernel
theorem dX5_countCall_27 : decode cX5_countCall 27 = .ok (.aload_n 0, 1) := by decide +kernel
theorem dX5_countCall_28 : decode cX5_countCall 28 = .ok (.getfield 41, 3) := by decide +kernel
theorem dX5_countCall_31 : decode cX5_countCall 31 = .ok (.bipush (-6), 2) := by decide +kernel
theorem dX5_countCall_33 : decode cX5_countCall 33 = .ok (.if_icmp .ne 11, 3) := by decide +kernel
theorem dX5_countCall_36 : decode cX5_countCall 36 = .ok (.aload_n 0, 1) := by decide +kernel
theorem dX5_countCall_37 : decode cX5_countCall 37 = .ok (.aload_n 0, 1) := by decide +kernel
theorem dX5_countCall_38 : decode cX5_countCall 38 = .ok (.getfield 22, 3) := by decide +kernel
theorem dX5_countCall_41 : decode cX5_countCall 41 = .ok (.putfield 41, 3) := by decide +kernel
theorem dX5_countCall_44 : decode cX5_countCall 44 = .ok (.return_, 1) := by decide +kernel
set_option maxRecDepth 20000 in
theorem ggX6_init_X4_init : GoodIn wsX6_init wsX4_init := goodIn_r _ [28, 29, 2, 3, 30, 31, 32, 33, 34, 35, 36, 37, 38, 39, 40, 41, 61, 62, 63, 64, 65, 66, 67, 68, 69, 70] (by decide +kernel) (by decide +kernel)
set_option maxRecDepth 20000 in
theorem gX6_init_X4_init_n9 : GoodIn wsX6_init (wsX4_init) := ggX6_init_X4_init
set_option maxRecDepth 20000 in
theorem ggX6_init_X2_init : GoodIn wsX6_init wsX2_init := goodIn_r _ [43, 44, 2, 3, 40, 45, 46, 78, 79] (by decide +kernel) (by decide +kernel)
set_option maxRecDepth 20000 in
theorem gX6_init_X2_init_n18 : GoodIn wsX6_init (wsX2_init) := ggX6_init_X2_init
set_option maxRecDepth 20000 in
theorem ggX6_init_X5_init : GoodIn wsX6_init wsX5_init := goodIn_r _ [48, 49, 2, 3, 50, 5, 6, 51, 27, 28, 29, 30, 31, 32, 33, 34, 35, 36, 37, 38, 39, 40, 41, 61, 62, 63, 64, 65, 66, 67, 68, 69, 70, 80, 81, 82, 83, 84, 85, 86, 87] (by decide +kernel) (by decide +kernel)
set_option maxRecDepth 20000 in
theorem gX6_init_X5_init_n25 : GoodIn wsX6_init (wsX5_init) := ggX6_init_X5_init
set_option maxRecDepth 20000 in
theorem ggX6_init_X3_init : GoodIn wsX6_init wsX3_init := goodIn_r _ [53, 54, 2, 3, 40, 55, 56, 57, 88, 89, 90] (by decide +kernel) (by decide +kernel)
set_option maxRecDepth 20000 in
theorem gX6_init_X3_init_n32 : GoodIn wsX6_init (wsX3_init) := ggX6_init_X3_init
set_option maxRecDepth 20000 in
theorem ggX6_init_X1_init : GoodIn wsX6_init wsX1_init := goodIn_r _ [59, 60, 2, 3] (by decide +kernel) (by decide +kernel)
set_option maxRecDepth 20000 in
theorem gX6_init_X1_init_n39 : GoodIn wsX6_init (wsX1_init) := ggX6_init_X1_init
theorem dX6_init_0 : decode cX6_init 0 = .ok (.aload_n 0, 1) := by decide +kernel
theorem dX6_init_1 : decode cX6_init 1 = .ok (.invokespecial 1, 3) := by decide +kernel
theorem dX6_init_4 : decode cX6_init 4 = .ok (.aload_n 0, 1) := by decide +kernel
theorem dX6_init_5 : decode cX6_init 5 = .ok (.new 7, 3) := by decide +kernel
theorem dX6_init_8 : decode cX6_init 8 = .ok (.dup, 1) := by decide +kernel
theorem dX6_init_9 : decode cX6_init 9 = .ok (.invokespecial 9, 3) := by decide +kernel
theorem dX6_init_12 : decode cX6_init 12 = .ok (.putfield 10, 3) := by decide +kernel
theorem dX6_init_15 : decode cX6_init 15 = .ok (.aload_n 0, 1) := by decide +kernel
theorem dX6_init_16 : decode cX6_init 16 = .ok (.new 16, 3) := by decide +kernel
theorem dX6_init_19 : decode cX6_init 19 = .ok (.dup, 1) := by decide +kernel
theorem dX6_init_20 : decode cX6_init 20 = .ok (.invokespecial 18, 3) := by decide +kernel
theorem dX6_init_23 : decode cX6_init 23 = .ok (.putfield 19, 3) := by decide +kernel
theorem dX6_init_26 : decode cX6_init 26 = .ok (.aload_n 0, 1) := by decide +kernel
theorem dX6_init_27 : decode cX6_init 27 = .ok (.new 23, 3) := by decide +kernel
theorem dX6_init_30 : decode cX6_init 30 = .ok (.dup, 1) := by decide +kernel
theorem dX6_init_31 : decode cX6_init 31 = .ok (.invokespecial 25, 3) := by decide +kernel
theorem dX6_init_34 : decode cX6_init 34 = .ok (.putfield 26, 3) := by decide +kernel
theorem dX6_init_37 : decode cX6_init 37 = .ok (.aload_n 0, 1) := by decide +kernel
theorem dX6_init_38 : decode cX6_init 38 = .ok (.new 30, 3) := by decide +kernel
theorem dX6_init_41 : decode cX6_init 41 = .ok (.dup, 1) := by decide +kernel
theorem dX6_init_42 : decode cX6_init 42 = .ok (.invokespecial 32, 3) := by decide +kernel
theorem dX6_init_45 : decode cX6_init 45 = .ok (.putfield 33, 3) := by decide +kernel
theorem dX6_init_48 : decode cX6_init 48 = .ok (.aload_n 0, 1) := by decide +kernel
theorem dX6_init_49 : decode cX6_init 49 = .ok (.new 37, 3) := by decide +kernel
theorem dX6_init_52 : decode cX6_init 52 = .ok (.dup, 1) := by decide +kernel
theorem dX6_init_53 : decode cX6_init 53 = .ok (.invokespecial 39, 3) := by decide +kernel
theorem dX6_init_56 : decode cX6_init 56 = .ok (.putfield 40, 3) := by decide +kernel
theorem dX6_init_59 : decode cX6_init 59 = .ok (.aload_n 0, 1) := by decide +kernel
theorem dX6_init_60 : decode cX6_init 60 = .ok (.iconst 2, 1) := by decide +kernel
theorem dX6_init_61 : decode cX6_init 61 = .ok (.anewarray 7, 3) := by decide +kernel
theorem dX6_init_64 : decode cX6_init 64 = .ok (.dup, 1) := by decide +kernel
theorem dX6_init_65 : decode cX6_init 65 = .ok (.iconst 0, 1) := by decide +kernel
theorem dX6_init_66 : decode cX6_init 66 = .ok (.new 7, 3) := by decide +kernel
theorem dX6_init_69 : decode cX6_init 69 = .ok (.dup, 1) := by decide +kernel
theorem dX6_init_70 : decode cX6_init 70 = .ok (.invokespecial 9, 3) := by decide +kernel
theorem dX6_init_73 : decode cX6_init 73 = .ok (.aastore, 1) := by decide +kernel
theorem dX6_init_74 : decode cX6_init 74 = .ok (.dup, 1) := by decide +kernel
theorem dX6_init_75 : decode cX6_init 75 = .ok (.iconst 1, 1) := by decide +kernel
theorem dX6_init_76 : decode cX6_init 76 = .ok (.new 7, 3) := by decide +kernel
theorem dX6_init_79 : decode cX6_init 79 = .ok (.dup, 1) := by decide +kernel
theorem dX6_init_80 : decode cX6_init 80 = .ok (.invokespecial 9, 3) := by decide +kernel
theorem dX6_init_83 : decode cX6_init 83 = .ok (.aastore, 1) := by decide +kernel
theorem dX6_init_84 : decode cX6_init 84 = .ok (.putfield 44, 3) := by decide +kernel
theorem dX6_init_87 : decode cX6_init 87 = .ok (.aload_n 0, 1) := by decide +kernel
theorem dX6_init_88 : decode cX6_init 88 = .ok (.iconst 2, 1) := by decide +kernel
theorem dX6_init_89 : decode cX6_init 89 = .ok (.newarray .boolean, 2) := by decide +kernel
theorem dX6_init_91 : decode cX6_init 91 = .ok (.dup, 1) := by decide +kernel
theorem dX6_init_92 : decode cX6_init 92 = .ok (.iconst 0, 1) := by decide +kernel
theorem dX6_init_93 : decode cX6_init 93 = .ok (.iconst 0, 1) := by decide +kernel
theorem dX6_init_94 : decode cX6_init 94 = .ok (.bastore, 1) := by decide +kernel
theorem dX6_init_95 : decode cX6_init 95 = .ok (.dup, 1) := by decide +kernel
theorem dX6_init_96 : decode cX6_init 96 = .ok (.iconst 1, 1) := by decide +kernel
theorem dX6_init_97 : decode cX6_init 97 = .ok (.iconst 0, 1) := by decide +kernel
theorem dX6_init_98 : decode cX6_init 98 = .ok (.bastore, 1) := by decide +kernel
theorem dX6_init_99 : decode cX6_init 99 = .ok (.putfield 48, 3) := by decide +kernel
theorem dX6_init_102 : decode cX6_init 102 = .ok (.return_, 1) := by decide +kernel
set_option maxRecDepth 20000 in
theorem ggX6_land_X0_isCell : GoodIn wsX6_land wsX0_isCell := goodIn_r _ [8] (by decide +kernel) (by decide +kernel)
set_option maxRecDepth 20000 in
theorem gX6_land_X0_isCell : GoodIn wsX6_land (va_wsS RX6 52 yX0_isCell wsX0_isCell) := goodIn_app (goodIn_of _ (by decide +kernel)) ggX6_land_X0_isCell
set_option maxRecDepth 20000 in
theorem ggX6_land_X6_within : GoodIn wsX6_land wsX6_within := goodIn_r _ [12] (by decide +kernel) (by decide +kernel)
set_option maxRecDepth 20000 in
theorem gX6_land_X6_within : GoodIn wsX6_land (va_wsS RX6 58 yX6_within wsX6_within) := goodIn_app (goodIn_of _ (by decide +kernel)) ggX6_land_X6_within
set_option maxRecDepth 20000 in
theorem ggX6_land_X0_only : GoodIn wsX6_land wsX0_only := goodIn_r _ [15] (by decide +kernel) (by decide +kernel)
set_option maxRecDepth 20000 in
theorem gX6_land_X0_only : GoodIn wsX6_land (va_wsS RX6 66 yX0_only wsX0_only) := goodIn_app (goodIn_of _ (by decide +kernel)) ggX6_land_X0_only
set_option maxRecDepth 20000 in
theorem ggX6_land_J13_bitCount_95d88 : GoodIn wsX6_land wsJ13_bitCount_95d88 := goodIn_r _ [19, 20, 21, 22] (by decide +kernel) (by decide +kernel)
set_option maxRecDepth 20000 in
theorem gX6_land_J13_bitCount_95d88 : GoodIn wsX6_land (va_wsS RX6 76 yJ13_bitCount_95d88 wsJ13_bitCount_95d88) := goodIn_app (goodIn_of _ (by decide +kernel)) ggX6_land_J13_bitCount_95d88
theorem dX6_land_0 : decode cX6_land 0 = .ok (.iload_n 1, 1) := by decide +kernel
theorem dX6_land_1 : decode cX6_land 1 = .ok (.invokestatic 52, 3) := by decide +kernel
theorem dX6_land_4 : decode cX6_land 4 = .ok (.ifCond .ne 5, 3) := by decide +kernel
theorem dX6_land_7 : decode cX6_land 7 = .ok (.iconst (-1), 1) := by decide +kernel
theorem dX6_land_8 : decode cX6_land 8 = .ok (.ireturn, 1) := by decide +kernel
theorem dX6_land_9 : decode cX6_land 9 = .ok (.iload_n 2, 1) := by decide +kernel
theorem dX6_land_10 : decode cX6_land 10 = .ok (.iconst 0, 1) := by decide +kernel
theorem dX6_land_11 : decode cX6_land 11 = .ok (.iconst 1, 1) := by decide +kernel
theorem dX6_land_12 : decode cX6_land 12 = .ok (.invokestatic 58, 3) := by decide +kernel
theorem dX6_land_15 : decode cX6_land 15 = .ok (.ifCond .ne 6, 3) := by decide +kernel
theorem dX6_land_18 : decode cX6_land 18 = .ok (.bipush (-2), 2) := by decide +kernel
theorem dX6_land_20 : decode cX6_land 20 = .ok (.ireturn, 1) := by decide +kernel
theorem dX6_land_21 : decode cX6_land 21 = .ok (.iload_n 2, 1) := by decide +kernel
theorem dX6_land_22 : decode cX6_land 22 = .ok (.iconst 1, 1) := by decide +kernel
theorem dX6_land_23 : decode cX6_land 23 = .ok (.if_icmp .ne 17, 3) := by decide +kernel
theorem dX6_land_26 : decode cX6_land 26 = .ok (.iload_n 1, 1) := by decide +kernel
theorem dX6_land_27 : decode cX6_land 27 = .ok (.aload_n 0, 1) := by decide +kernel
theorem dX6_land_28 : decode cX6_land 28 = .ok (.getfield 10, 3) := by decide +kernel
theorem dX6_land_31 : decode cX6_land 31 = .ok (.getfield 62, 3) := by decide +kernel
theorem dX6_land_34 : decode cX6_land 34 = .ok (.if_icmp .ne 6, 3) := by decide +kernel
theorem dX6_land_37 : decode cX6_land 37 = .ok (.bipush (-3), 2) := by decide +kernel
theorem dX6_land_39 : decode cX6_land 39 = .ok (.ireturn, 1) := by decide +kernel
theorem dX6_land_40 : decode cX6_land 40 = .ok (.iload_n 1, 1) := by decide +kernel
theorem dX6_land_41 : decode cX6_land 41 = .ok (.invokestatic 66, 3) := by decide +kernel
theorem dX6_land_44 : decode cX6_land 44 = .ok (.lstore_n 3, 1) := by decide +kernel
theorem dX6_land_45 : decode cX6_land 45 = .ok (.aload_n 0, 1) := by decide +kernel
theorem dX6_land_46 : decode cX6_land 46 = .ok (.getfield 10, 3) := by decide +kernel
theorem dX6_land_49 : decode cX6_land 49 = .ok (.iload_n 2, 1) := by decide +kernel
theorem dX6_land_50 : decode cX6_land 50 = .ok (.iconst 1, 1) := by decide +kernel
theorem dX6_land_51 : decode cX6_land 51 = .ok (.if_icmp .ne 15, 3) := by decide +kernel
theorem dX6_land_54 : decode cX6_land 54 = .ok (.aload_n 0, 1) := by decide +kernel
theorem dX6_land_55 : decode cX6_land 55 = .ok (.getfield 10, 3) := by decide +kernel
theorem dX6_land_58 : decode cX6_land 58 = .ok (.getfield 70, 3) := by decide +kernel
theorem dX6_land_61 : decode cX6_land 61 = .ok (.lload_n 3, 1) := by decide +kernel
theorem dX6_land_62 : decode cX6_land 62 = .ok (.lor, 1) := by decide +kernel
theorem dX6_land_63 : decode cX6_land 63 = .ok (.goto 16, 3) := by decide +kernel
theorem dX6_land_66 : decode cX6_land 66 = .ok (.aload_n 0, 1) := by decide +kernel
theorem dX6_land_67 : decode cX6_land 67 = .ok (.getfield 10, 3) := by decide +kernel
theorem dX6_land_70 : decode cX6_land 70 = .ok (.getfield 70, 3) := by decide +kernel
theorem dX6_land_73 : decode cX6_land 73 = .ok (.lload_n 3, 1) := by decide +kernel
theorem dX6_land_74 : decode cX6_land 74 = .ok (.ldc2_w 74, 3) := by decide +kernel
theorem dX6_land_77 : decode cX6_land 77 = .ok (.lxor, 1) := by decide +kernel
theorem dX6_land_78 : decode cX6_land 78 = .ok (.land, 1) := by decide +kernel
theorem dX6_land_79 : decode cX6_land 79 = .ok (.putfield 70, 3) := by decide +kernel
theorem dX6_land_82 : decode cX6_land 82 = .ok (.aload_n 0, 1) := by decide +kernel
theorem dX6_land_83 : decode cX6_land 83 = .ok (.getfield 10, 3) := by decide +kernel
theorem dX6_land_86 : decode cX6_land 86 = .ok (.getfield 70, 3) := by decide +kernel
theorem dX6_land_89 : decode cX6_land 89 = .ok (.invokestatic 76, 3) := by decide +kernel
theorem dX6_land_92 : decode cX6_land 92 = .ok (.ireturn, 1) := by decide +kernel
set_option maxRecDepth 20000 in
theorem ggX6_ship_X0_isCell : GoodIn wsX6_ship wsX0_isCell := goodIn_r _ [7] (by decide +kernel) (by decide +kernel)
set_option maxRecDepth 20000 in
theorem gX6_ship_X0_isCell : GoodIn wsX6_ship (va_wsS RX6 52 yX0_isCell wsX0_isCell) := goodIn_app (goodIn_of _ (by decide +kernel)) ggX6_ship_X0_isCell
set_option maxRecDepth 20000 in
theorem ggX6_ship_X6_within : GoodIn wsX6_ship wsX6_within := goodIn_r _ [11] (by decide +kernel) (by decide +kernel)
set_option maxRecDepth 20000 in
theorem gX6_ship_X6_within : GoodIn wsX6_ship (va_wsS RX6 58 yX6_within wsX6_within) := goodIn_app (goodIn_of _ (by decide +kernel)) ggX6_ship_X6_within
set_option maxRecDepth 20000 in
theorem ggX6_ship_X4_isLand : GoodIn wsX6_ship wsX4_isLand := goodIn_r _ [16, 17, 18, 19, 6, 20, 28, 29, 30, 31, 32, 33, 34, 35, 36, 37] (by decide +kernel) (by decide +kernel)
set_option maxRecDepth 20000 in
theorem gX6_ship_X4_isLand : GoodIn wsX6_ship (wsV RX6 82 RX4 yX4_isLand wsX4_isLand) := goodIn_app (goodIn_of _ (by decide +kernel)) ggX6_ship_X4_isLand
theorem dX6_ship_0 : decode cX6_ship 0 = .ok (.iload_n 1, 1) := by decide +kernel
theorem dX6_ship_1 : decode cX6_ship 1 = .ok (.invokestatic 52, 3) := by decide +kernel
theorem dX6_ship_4 : decode cX6_ship 4 = .ok (.ifCond .ne 5, 3) := by decide +kernel
theorem dX6_ship_7 : decode cX6_ship 7 = .ok (.iconst (-1), 1) := by decide +kernel
theorem dX6_ship_8 : decode cX6_ship 8 = .ok (.ireturn, 1) := by decide +kernel
theorem dX6_ship_9 : decode cX6_ship 9 = .ok (.iload_n 2, 1) := by decide +kernel
theorem dX6_ship_10 : decode cX6_ship 10 = .ok (.iconst 0, 1) := by decide +kernel
theorem dX6_ship_11 : decode cX6_ship 11 = .ok (.bipush 9, 2) := by decide +kernel
theorem dX6_ship_13 : decode cX6_ship 13 = .ok (.invokestatic 58, 3) := by decide +kernel
theorem dX6_ship_16 : decode cX6_ship 16 = .ok (.ifCond .ne 6, 3) := by decide +kernel
theorem dX6_ship_19 : decode cX6_ship 19 = .ok (.bipush (-2), 2) := by decide +kernel
theorem dX6_ship_21 : decode cX6_ship 21 = .ok (.ireturn, 1) := by decide +kernel
theorem dX6_ship_22 : decode cX6_ship 22 = .ok (.aload_n 0, 1) := by decide +kernel
theorem dX6_ship_23 : decode cX6_ship 23 = .ok (.getfield 10, 3) := by decide +kernel
theorem dX6_ship_26 : decode cX6_ship 26 = .ok (.iload_n 1, 1) := by decide +kernel
theorem dX6_ship_27 : decode cX6_ship 27 = .ok (.invokevirtual 82, 3) := by decide +kernel
theorem dX6_ship_30 : decode cX6_ship 30 = .ok (.ifCond .eq 6, 3) := by decide +kernel
theorem dX6_ship_33 : decode cX6_ship 33 = .ok (.bipush (-3), 2) := by decide +kernel
theorem dX6_ship_35 : decode cX6_ship 35 = .ok (.ireturn, 1) := by decide +kernel
theorem dX6_ship_36 : decode cX6_ship 36 = .ok (.aload_n 0, 1) := by decide +kernel
theorem dX6_ship_37 : decode cX6_ship 37 = .ok (.getfield 10, 3) := by decide +kernel
theorem dX6_ship_40 : decode cX6_ship 40 = .ok (.getfield 62, 3) := by decide +kernel
theorem dX6_ship_43 : decode cX6_ship 43 = .ok (.istore_n 3, 1) := by decide +kernel
theorem dX6_ship_44 : decode cX6_ship 44 = .ok (.aload_n 0, 1) := by decide +kernel
theorem dX6_ship_45 : decode cX6_ship 45 = .ok (.getfield 10, 3) := by decide +kernel
theorem dX6_ship_48 : decode cX6_ship 48 = .ok (.iload_n 1, 1) := by decide +kernel
theorem dX6_ship_49 : decode cX6_ship 49 = .ok (.putfield 62, 3) := by decide +kernel
theorem dX6_ship_52 : decode cX6_ship 52 = .ok (.aload_n 0, 1) := by decide +kernel
theorem dX6_ship_53 : decode cX6_ship 53 = .ok (.getfield 10, 3) := by decide +kernel
theorem dX6_ship_56 : decode cX6_ship 56 = .ok (.iload_n 2, 1) := by decide +kernel
theorem dX6_ship_57 : decode cX6_ship 57 = .ok (.putfield 85, 3) := by decide +kernel
theorem dX6_ship_60 : decode cX6_ship 60 = .ok (.iload_n 3, 1) := by decide +kernel
theorem dX6_ship_61 : decode cX6_ship 61 = .ok (.ireturn, 1) := by decide +kernel
set_option maxRecDepth 20000 in
theorem ggX6_watcher_X4_isWatcher : GoodIn wsX6_watcher wsX4_isWatcher := goodIn_r _ [6, 7, 27, 28, 29, 30, 31, 32, 33, 34, 35, 36] (by decide +kernel) (by decide +kernel)
set_option maxRecDepth 20000 in
theorem gX6_watcher_X4_isWatcher : GoodIn wsX6_watcher (wsV RX6 88 RX4 yX4_isWatcher wsX4_isWatcher) := goodIn_app (goodIn_of _ (by decide +kernel)) ggX6_watcher_X4_isWatcher
set_option maxRecDepth 20000 in
theorem ggX6_watcher_X6_within : GoodIn wsX6_watcher wsX6_within := goodIn_r _ [11] (by decide +kernel) (by decide +kernel)
set_option maxRecDepth 20000 in
theorem gX6_watcher_X6_within : GoodIn wsX6_watcher (va_wsS RX6 58 yX6_within wsX6_within) := goodIn_app (goodIn_of _ (by decide +kernel)) ggX6_watcher_X6_within
set_option maxRecDepth 20000 in
theorem ggX6_watcher_X4_eyesOf : GoodIn wsX6_watcher wsX4_eyesOf := goodIn_r _ [15, 7, 27, 28, 29, 30, 31, 32, 33, 34, 35, 36] (by decide +kernel) (by decide +kernel)
set_option maxRecDepth 20000 in
theorem gX6_watcher_X4_eyesOf : GoodIn wsX6_watcher (wsV RX6 91 RX4 yX4_eyesOf wsX4_eyesOf) := goodIn_app (goodIn_of _ (by decide +kernel)) ggX6_watcher_X4_eyesOf
set_option maxRecDepth 20000 in
theorem ggX6_watcher_X4_giveEyes : GoodIn wsX6_watcher wsX4_giveEyes := goodIn_r _ [19, 7, 27, 28, 29, 30, 31, 32, 33, 34, 35, 36] (by decide +kernel) (by decide +kernel)
set_option maxRecDepth 20000 in
theorem gX6_watcher_X4_giveEyes : GoodIn wsX6_watcher (wsV RX6 95 RX4 yX4_giveEyes wsX4_giveEyes) := goodIn_app (goodIn_of _ (by decide +kernel)) ggX6_watcher_X4_giveEyes
theorem dX6_watcher_0 : decode cX6_watcher 0 = .ok (.aload_n 0, 1) := by decide +kernel
theorem dX6_watcher_1 : decode cX6_watcher 1 = .ok (.getfield 10, 3) := by decide +kernel
theorem dX6_watcher_4 : decode cX6_watcher 4 = .ok (.iload_n 1, 1) := by decide +kernel
theorem dX6_watcher_5 : decode cX6_watcher 5 = .ok (.invokevirtual 88, 3) := by decide +kernel
theorem dX6_watcher_8 : decode cX6_watcher 8 = .ok (.ifCond .ne 5, 3) := by decide +kernel
theorem dX6_watcher_11 : decode cX6_watcher 11 = .ok (.iconst (-1), 1) := by decide +kernel
theorem dX6_watcher_12 : decode cX6_watcher 12 = .ok (.ireturn, 1) := by decide +kernel
theorem dX6_watcher_13 : decode cX6_watcher 13 = .ok (.iload_n 2, 1) := by decide +kernel
theorem dX6_watcher_14 : decode cX6_watcher 14 = .ok (.iconst 1, 1) := by decide +kernel
theorem dX6_watcher_15 : decode cX6_watcher 15 = .ok (.bipush 7, 2) := by decide +kernel
theorem dX6_watcher_17 : decode cX6_watcher 17 = .ok (.invokestatic 58, 3) := by decide +kernel
theorem dX6_watcher_20 : decode cX6_watcher 20 = .ok (.ifCond .ne 6, 3) := by decide +kernel
theorem dX6_watcher_23 : decode cX6_watcher 23 = .ok (.bipush (-2), 2) := by decide +kernel
theorem dX6_watcher_25 : decode cX6_watcher 25 = .ok (.ireturn, 1) := by decide +kernel
theorem dX6_watcher_26 : decode cX6_watcher 26 = .ok (.aload_n 0, 1) := by decide +kernel
theorem dX6_watcher_27 : decode cX6_watcher 27 = .ok (.getfield 10, 3) := by decide +kernel
theorem dX6_watcher_30 : decode cX6_watcher 30 = .ok (.iload_n 1, 1) := by decide +kernel
theorem dX6_watcher_31 : decode cX6_watcher 31 = .ok (.invokevirtual 91, 3) := by decide +kernel
theorem dX6_watcher_34 : decode cX6_watcher 34 = .ok (.istore_n 3, 1) := by decide +kernel
theorem dX6_watcher_35 : decode cX6_watcher 35 = .ok (.aload_n 0, 1) := by decide +kernel
theorem dX6_watcher_36 : decode cX6_watcher 36 = .ok (.getfield 10, 3) := by decide +kernel
theorem dX6_watcher_39 : decode cX6_watcher 39 = .ok (.iload_n 1, 1) := by decide +kernel
theorem dX6_watcher_40 : decode cX6_watcher 40 = .ok (.iload_n 2, 1) := by decide +kernel
theorem dX6_watcher_41 : decode cX6_watcher 41 = .ok (.invokevirtual 95, 3) := by decide +kernel
theorem dX6_watcher_44 : decode cX6_watcher 44 = .ok (.iload_n 3, 1) := by decide +kernel
theorem dX6_watcher_45 : decode cX6_watcher 45 = .ok (.ireturn, 1) := by decide +kernel
set_option maxRecDepth 20000 in
theorem ggX6_fog_X6_within : GoodIn wsX6_fog wsX6_within := goodIn_r _ [6] (by decide +kernel) (by decide +kernel)
set_option maxRecDepth 20000 in
theorem gX6_fog_X6_within : GoodIn wsX6_fog (va_wsS RX6 58 yX6_within wsX6_within) := goodIn_app (goodIn_of _ (by decide +kernel)) ggX6_fog_X6_within
theorem dX6_fog_0 : decode cX6_fog 0 = .ok (.iload_n 1, 1) := by decide +kernel
theorem dX6_fog_1 : decode cX6_fog 1 = .ok (.iconst 0, 1) := by decide +kernel
theorem dX6_fog_2 : decode cX6_fog 2 = .ok (.bipush 7, 2) := by decide +kernel
theorem dX6_fog_4 : decode cX6_fog 4 = .ok (.invokestatic 58, 3) := by decide +kernel
theorem dX6_fog_7 : decode cX6_fog 7 = .ok (.ifCond .ne 6, 3) := by decide +kernel
theorem dX6_fog_10 : decode cX6_fog 10 = .ok (.bipush (-2), 2) := by decide +kernel
theorem dX6_fog_12 : decode cX6_fog 12 = .ok (.ireturn, 1) := by decide +kernel
theorem dX6_fog_13 : decode cX6_fog 13 = .ok (.aload_n 0, 1) := by decide +kernel
theorem dX6_fog_14 : decode cX6_fog 14 = .ok (.getfield 10, 3) := by decide +kernel
theorem dX6_fog_17 : decode cX6_fog 17 = .ok (.getfield 99, 3) := by decide +kernel
theorem dX6_fog_20 : decode cX6_fog 20 = .ok (.istore_n 2, 1) := by decide +kernel
theorem dX6_fog_21 : decode cX6_fog 21 = .ok (.aload_n 0, 1) := by decide +kernel
theorem dX6_fog_22 : decode cX6_fog 22 = .ok (.getfield 10, 3) := by decide +kernel
theorem dX6_fog_25 : decode cX6_fog 25 = .ok (.iload_n 1, 1) := by decide +kernel
theorem dX6_fog_26 : decode cX6_fog 26 = .ok (.putfield 99, 3) := by decide +kernel
theorem dX6_fog_29 : decode cX6_fog 29 = .ok (.iload_n 2, 1) := by decide +kernel
theorem dX6_fog_30 : decode cX6_fog 30 = .ok (.ireturn, 1) := by decide +kernel
set_option maxRecDepth 20000 in
theorem ggX6_say_X6_within : GoodIn wsX6_say wsX6_within := goodIn_r _ [6] (by decide +kernel) (by decide +kernel)
set_option maxRecDepth 20000 in
theorem gX6_say_X6_within : GoodIn wsX6_say (va_wsS RX6 58 yX6_within wsX6_within) := goodIn_app (goodIn_of _ (by decide +kernel)) ggX6_say_X6_within
set_option maxRecDepth 20000 in
theorem ggX6_say_X2_write : GoodIn wsX6_say wsX2_write := goodIn_r _ [11, 12, 13, 21, 22] (by decide +kernel) (by decide +kernel)
set_option maxRecDepth 20000 in
theorem gX6_say_X2_write : GoodIn wsX6_say (wsV RX6 102 RX2 yX2_write wsX2_write) := goodIn_app (goodIn_of _ (by decide +kernel)) ggX6_say_X2_write
theorem dX6_say_0 : decode cX6_say 0 = .ok (.iload_n 1, 1) := by decide +kernel
theorem dX6_say_1 : decode cX6_say 1 = .ok (.bipush 33, 2) := by decide +kernel
theorem dX6_say_3 : decode cX6_say 3 = .ok (.bipush 126, 2) := by decide +kernel
theorem dX6_say_5 : decode cX6_say 5 = .ok (.invokestatic 58, 3) := by decide +kernel
theorem dX6_say_8 : decode cX6_say 8 = .ok (.ifCond .ne 6, 3) := by decide +kernel
theorem dX6_say_11 : decode cX6_say 11 = .ok (.bipush (-2), 2) := by decide +kernel
theorem dX6_say_13 : decode cX6_say 13 = .ok (.ireturn, 1) := by decide +kernel
theorem dX6_say_14 : decode cX6_say 14 = .ok (.aload_n 0, 1) := by decide +kernel
theorem dX6_say_15 : decode cX6_say 15 = .ok (.getfield 19, 3) := by decide +kernel
theorem dX6_say_18 : decode cX6_say 18 = .ok (.iload_n 1, 1) := by decide +kernel
theorem dX6_say_19 : decode cX6_say 19 = .ok (.invokevirtual 102, 3) := by decide +kernel
theorem dX6_say_22 : decode cX6_say 22 = .ok (.ifCond .eq 13, 3) := by decide +kernel
theorem dX6_say_25 : decode cX6_say 25 = .ok (.aload_n 0, 1) := by decide +kernel
theorem dX6_say_26 : decode cX6_say 26 = .ok (.getfield 19, 3) := by decide +kernel
theorem dX6_say_29 : decode cX6_say 29 = .ok (.getfield 105, 3) := by decide +kernel
theorem dX6_say_32 : decode cX6_say 32 = .ok (.goto 5, 3) := by decide +kernel
theorem dX6_say_35 : decode cX6_say 35 = .ok (.bipush (-4), 2) := by decide +kernel
theorem dX6_say_37 : decode cX6_say 37 = .ok (.ireturn, 1) := by decide +kernel
theorem dX6_wipe_0 : decode cX6_wipe 0 = .ok (.aload_n 0, 1) := by decide +kernel
theorem dX6_wipe_1 : decode cX6_wipe 1 = .ok (.getfield 19, 3) := by decide +kernel
theorem dX6_wipe_4 : decode cX6_wipe 4 = .ok (.getfield 105, 3) := by decide +kernel
theorem dX6_wipe_7 : decode cX6_wipe 7 = .ok (.istore_n 1, 1) := by decide +kernel
theorem dX6_wipe_8 : decode cX6_wipe 8 = .ok (.aload_n 0, 1) := by decide +kernel
theorem dX6_wipe_9 : decode cX6_wipe 9 = .ok (.getfield 19, 3) := by decide +kernel
theorem dX6_wipe_12 : decode cX6_wipe 12 = .ok (.iconst 0, 1) := by decide +kernel
theorem dX6_wipe_13 : decode cX6_wipe 13 = .ok (.putfield 105, 3) := by decide +kernel
theorem dX6_wipe_16 : decode cX6_wipe 16 = .ok (.iload_n 1, 1) := by decide +kernel
theorem dX6_wipe_17 : decode cX6_wipe 17 = .ok (.ireturn, 1) := by decide +kernel
set_option maxRecDepth 20000 in
theorem ggX6_fault_X2_firstFault : GoodIn wsX6_fault wsX2_firstFault := goodIn_r _ [6, 7, 8, 9, 10, 5, 11, 12, 13, 14, 15, 16, 17, 18, 19, 20, 21, 22, 23, 24, 25, 26, 27, 28, 36, 37] (by decide +kernel) (by decide +kernel)
set_option maxRecDepth 20000 in
theorem gX6_fault_X2_firstFault : GoodIn wsX6_fault (wsV RX6 108 RX2 yX2_firstFault wsX2_firstFault) := goodIn_app (goodIn_of _ (by decide +kernel)) ggX6_fault_X2_firstFault
theorem dX6_fault_0 : decode cX6_fault 0 = .ok (.aload_n 0, 1) := by decide +kernel
theorem dX6_fault_1 : decode cX6_fault 1 = .ok (.getfield 19, 3) := by decide +kernel
theorem dX6_fault_4 : decode cX6_fault 4 = .ok (.invokevirtual 108, 3) := by decide +kernel
theorem dX6_fault_7 : decode cX6_fault 7 = .ok (.ireturn, 1) := by decide +kernel
set_option maxRecDepth 20000 in
theorem ggX6_judge_X6_sailTheText : GoodIn wsX6_judge wsX6_sailTheText := goodIn_r _ [9, 10, 1, 11, 2, 12, 13, 8, 14, 15, 16, 17, 18, 19, 20, 21, 22, 23, 24, 25, 26, 27, 28, 29, 30, 31, 32, 33, 34, 35, 36, 37, 38, 39, 40, 41, 42, 43, 44, 45, 46, 47, 48, 49, 50, 51, 52, 53, 54, 55, 56, 57, 58, 59, 60, 61, 62, 63, 64, 65, 66, 67, 68, 69, 70, 71, 72, 73, 74, 75, 76, 77, 78, 79, 80, 81, 82, 83, 84, 85, 86, 87, 88, 89, 90, 91, 92, 93, 94, 95, 96, 97, 98, 99, 100, 101, 102, 103, 104, 105, 106, 107, 108, 109, 110, 111, 112, 113, 114, 115, 116, 117, 118, 119, 120, 121, 122, 123, 124, 125, 126, 127, 128, 129, 130, 131, 132, 133, 134, 135, 136, 137, 138, 139, 140, 141, 142, 143, 144, 145, 146, 147, 148, 149, 150, 151, 152, 153, 154, 155, 156, 157, 158, 159, 160, 161, 162, 163, 164, 165, 166, 167, 168, 169, 170, 171, 172, 173, 174, 175, 176, 177] (by decide +kernel) (by decide +kernel)
set_option maxRecDepth 20000 in
theorem gX6_judge_X6_sailTheText : GoodIn wsX6_judge (wsV RX6 112 RX6 yX6_sailTheText wsX6_sailTheText) := goodIn_app (goodIn_of _ (by decide +kernel)) ggX6_judge_X6_sailTheText
theorem dX6_judge_0 : decode cX6_judge 0 = .ok (.aload_n 0, 1) := by decide +kernel
theorem dX6_judge_1 : decode cX6_judge 1 = .ok (.iload_n 1, 1) := by decide +kernel
theorem dX6_judge_2 : decode cX6_judge 2 = .ok (.iconst 2, 1) := by decide +kernel
theorem dX6_judge_3 : decode cX6_judge 3 = .ok (.iload_n 1, 1) := by decide +kernel
theorem dX6_judge_4 : decode cX6_judge 4 = .ok (.iconst 2, 1) := by decide +kernel
theorem dX6_judge_5 : decode cX6_judge 5 = .ok (.if_icmp .ne 7, 3) := by decide +kernel
theorem dX6_judge_8 : decode cX6_judge 8 = .ok (.iconst 1, 1) := by decide +kernel
theorem dX6_judge_9 : decode cX6_judge 9 = .ok (.goto 4, 3) := by decide +kernel
theorem dX6_judge_12 : decode cX6_judge 12 = .ok (.iconst 0, 1) := by decide +kernel
theorem dX6_judge_13 : decode cX6_judge 13 = .ok (.invokevirtual 112, 3) := by decide +kernel
theorem dX6_judge_16 : decode cX6_judge 16 = .ok (.istore_n 2, 1) := by decide +kernel
theorem dX6_judge_17 : decode cX6_judge 17 = .ok (.iload_n 2, 1) := by decide +kernel
theorem dX6_judge_18 : decode cX6_judge 18 = .ok (.ifCond .eq 5, 3) := by decide +kernel
theorem dX6_judge_21 : decode cX6_judge 21 = .ok (.iload_n 2, 1) := by decide +kernel
theorem dX6_judge_22 : decode cX6_judge 22 = .ok (.ireturn, 1) := by decide +kernel
theorem dX6_judge_23 : decode cX6_judge 23 = .ok (.iload_n 1, 1) := by decide +kernel
theorem dX6_judge_24 : decode cX6_judge 24 = .ok (.lookupswitch 44 #[(0, 28), (1, 36)], 28) := by decide +kernel
theorem dX6_judge_52 : decode cX6_judge 52 = .ok (.aload_n 0, 1) := by decide +kernel
theorem dX6_judge_53 : decode cX6_judge 53 = .ok (.getfield 26, 3) := by decide +kernel
theorem dX6_judge_56 : decode cX6_judge 56 = .ok (.getfield 116, 3) := by decide +kernel
theorem dX6_judge_59 : decode cX6_judge 59 = .ok (.ireturn, 1) := by decide +kernel
theorem dX6_judge_60 : decode cX6_judge 60 = .ok (.aload_n 0, 1) := by decide +kernel
theorem dX6_judge_61 : decode cX6_judge 61 = .ok (.getfield 26, 3) := by decide +kernel
theorem dX6_judge_64 : decode cX6_judge 64 = .ok (.getfield 119, 3) := by decide +kernel
theorem dX6_judge_67 : decode cX6_judge 67 = .ok (.ireturn, 1) := by decide +kernel
theorem dX6_judge_68 : decode cX6_judge 68 = .ok (.aload_n 0, 1) := by decide +kernel
theorem dX6_judge_69 : decode cX6_judge 69 = .ok (.getfield 26, 3) := by decide +kernel
theorem dX6_judge_72 : decode cX6_judge 72 = .ok (.getfield 122, 3) := by decide +kernel
theorem dX6_judge_75 : decode cX6_judge 75 = .ok (.ireturn, 1) := by decide +kernel
set_option maxRecDepth 20000 in
theorem ggX6_behind_X6_sailTheText : GoodIn wsX6_behind wsX6_sailTheText := goodIn_r _ [7, 8, 1, 9, 10, 11, 12, 6, 13, 14, 15, 16, 17, 18, 19, 20, 21, 22, 23, 24, 25, 26, 27, 28, 29, 30, 31, 32, 33, 34, 35, 36, 37, 38, 39, 40, 41, 42, 43, 44, 45, 46, 47, 48, 49, 50, 51, 52, 53, 54, 55, 56, 57, 58, 59, 60, 61, 62, 63, 64, 65, 66, 67, 68, 69, 70, 71, 72, 73, 74, 75, 76, 77, 78, 79, 80, 81, 82, 83, 84, 85, 86, 87, 88, 89, 90, 91, 92, 93, 94, 95, 96, 97, 98, 99, 100, 101, 102, 103, 104, 105, 106, 107, 108, 109, 110, 111, 112, 113, 114, 115, 116, 117, 118, 119, 120, 121, 122, 123, 124, 125, 126, 127, 128, 129, 130, 131, 132, 133, 134, 135, 136, 137, 138, 139, 140, 141, 142, 143, 144, 145, 146, 147, 148, 149, 159, 160, 161, 162, 163, 164, 165, 166, 167, 168, 169, 170, 171, 172, 173, 174, 175, 176, 177, 178, 179, 180, 181, 182, 183, 184, 185] (by decide +kernel) (by decide +kernel)
set_option maxRecDepth 20000 in
theorem gX6_behind_X6_sailTheText : GoodIn wsX6_behind (wsV RX6 112 RX6 yX6_sailTheText wsX6_sailTheText) := goodIn_app (goodIn_of _ (by decide +kernel)) ggX6_behind_X6_sailTheText
set_option maxRecDepth 20000 in
theorem ggX6_behind_X6_shipAndWatch : GoodIn wsX6_behind wsX6_shipAndWatch := goodIn_r _ [152, 153, 154, 155, 156, 157, 158, 176, 177, 178, 179, 180, 181, 182, 183, 184, 185] (by decide +kernel) (by decide +kernel)
set_option maxRecDepth 20000 in
theorem gX6_behind_X6_shipAndWatch : GoodIn wsX6_behind (va_wsS RX6 128 yX6_shipAndWatch wsX6_shipAndWatch) := goodIn_app (goodIn_of _ (by decide +kernel)) ggX6_behind_X6_shipAndWatch
theorem dX6_behind_0 : decode cX6_behind 0 = .ok (.aload_n 0, 1) := by decide +kernel
theorem dX6_behind_1 : decode cX6_behind 1 = .ok (.iload_n 1, 1) := by decide +kernel
theorem dX6_behind_2 : decode cX6_behind 2 = .ok (.iconst 5, 1) := by decide +kernel
theorem dX6_behind_3 : decode cX6_behind 3 = .ok (.iconst 1, 1) := by decide +kernel
theorem dX6_behind_4 : decode cX6_behind 4 = .ok (.invokevirtual 112, 3) := by decide +kernel
theorem dX6_behind_7 : decode cX6_behind 7 = .ok (.istore_n 2, 1) := by decide +kernel
theorem dX6_behind_8 : decode cX6_behind 8 = .ok (.iload_n 2, 1) := by decide +kernel
theorem dX6_behind_9 : decode cX6_behind 9 = .ok (.ifCond .eq 7, 3) := by decide +kernel
theorem dX6_behind_12 : decode cX6_behind 12 = .ok (.iload_n 2, 1) := by decide +kernel
theorem dX6_behind_13 : decode cX6_behind 13 = .ok (.goto 14, 3) := by decide +kernel
theorem dX6_behind_16 : decode cX6_behind 16 = .ok (.aload_n 0, 1) := by decide +kernel
theorem dX6_behind_17 : decode cX6_behind 17 = .ok (.getfield 26, 3) := by decide +kernel
theorem dX6_behind_20 : decode cX6_behind 20 = .ok (.getfield 125, 3) := by decide +kernel
theorem dX6_behind_23 : decode cX6_behind 23 = .ok (.iload_n 1, 1) := by decide +kernel
theorem dX6_behind_24 : decode cX6_behind 24 = .ok (.invokestatic 128, 3) := by decide +kernel
theorem dX6_behind_27 : decode cX6_behind 27 = .ok (.ireturn, 1) := by decide +kernel
set_option maxRecDepth 20000 in
theorem ggX6_seen_X6_sailTheText : GoodIn wsX6_seen wsX6_sailTheText := goodIn_r _ [8, 9, 1, 10, 11, 12, 13, 7, 14, 15, 16, 17, 18, 19, 20, 21, 22, 23, 24, 25, 26, 27, 28, 29, 30, 31, 32, 33, 34, 35, 36, 37, 38, 39, 40, 41, 42, 43, 44, 45, 46, 47, 48, 49, 50, 51, 52, 53, 54, 55, 56, 57, 58, 59, 60, 61, 62, 63, 64, 65, 66, 67, 68, 69, 70, 71, 72, 73, 74, 75, 76, 77, 78, 79, 80, 81, 82, 83, 84, 85, 86, 87, 88, 89, 90, 91, 92, 93, 94, 95, 96, 97, 98, 99, 100, 101, 102, 103, 104, 105, 106, 107, 108, 109, 110, 111, 112, 113, 114, 115, 116, 117, 118, 119, 120, 121, 122, 123, 124, 125, 126, 127, 128, 129, 130, 131, 132, 133, 134, 135, 136, 137, 138, 139, 140, 141, 142, 143, 144, 145, 146, 147, 148, 149, 150, 173, 174, 175, 176, 177, 178, 179, 180, 181, 182, 183, 184, 185, 186, 187, 198, 199, 188, 189, 190, 191, 192, 193, 194, 195, 196, 197] (by decide +kernel) (by decide +kernel)
set_option maxRecDepth 20000 in
theorem gX6_seen_X6_sailTheText : GoodIn wsX6_seen (wsV RX6 112 RX6 yX6_sailTheText wsX6_sailTheText) := goodIn_app (goodIn_of _ (by decide +kernel)) ggX6_seen_X6_sailTheText
set_option maxRecDepth 20000 in
theorem ggX6_seen_X4_sighted : GoodIn wsX6_seen wsX4_sighted := goodIn_r _ [108, 68, 65, 66, 109, 110, 111, 63, 112, 74, 70, 113, 114, 115, 116, 69, 117, 118, 87, 119, 120, 121, 122, 123, 124, 125, 126, 188, 189, 190, 191, 192, 193, 194, 195, 196, 197] (by decide +kernel) (by decide +kernel)
set_option maxRecDepth 20000 in
theorem gX6_seen_X4_sighted : GoodIn wsX6_seen (wsV RX6 135 RX4 yX4_sighted wsX4_sighted) := goodIn_app (goodIn_of _ (by decide +kernel)) ggX6_seen_X4_sighted
set_option maxRecDepth 20000 in
theorem ggX6_seen_J13_bitCount_95d88 : GoodIn wsX6_seen wsJ13_bitCount_95d88 := goodIn_r _ [155, 156, 157, 158] (by decide +kernel) (by decide +kernel)
set_option maxRecDepth 20000 in
theorem gX6_seen_J13_bitCount_95d88 : GoodIn wsX6_seen (va_wsS RX6 76 yJ13_bitCount_95d88 wsJ13_bitCount_95d88) := goodIn_app (goodIn_of _ (by decide +kernel)) ggX6_seen_J13_bitCount_95d88
set_option maxRecDepth 20000 in
theorem ggX6_seen_X4_nearestFar : GoodIn wsX6_seen wsX4_nearestFar := goodIn_r _ [162, 66, 163, 106, 107, 63, 108, 68, 65, 109, 110, 111, 112, 74, 70, 113, 114, 115, 116, 69, 117, 118, 87, 119, 120, 121, 122, 123, 124, 125, 126, 188, 189, 190, 191, 192, 193, 194, 195, 196, 197] (by decide +kernel) (by decide +kernel)
set_option maxRecDepth 20000 in
theorem gX6_seen_X4_nearestFar : GoodIn wsX6_seen (wsV RX6 139 RX4 yX4_nearestFar wsX4_nearestFar) := goodIn_app (goodIn_of _ (by decide +kernel)) ggX6_seen_X4_nearestFar
set_option maxRecDepth 20000 in
theorem ggX6_seen_X4_nearestLand : GoodIn wsX6_seen wsX4_nearestLand := goodIn_r _ [167, 66, 168, 160, 161, 63, 162, 163, 106, 107, 108, 68, 65, 109, 110, 111, 112, 74, 70, 113, 114, 115, 116, 69, 117, 118, 87, 119, 120, 121, 122, 123, 124, 125, 126, 169, 170, 171, 172, 153, 154, 155, 156, 157, 158, 188, 189, 190, 191, 192, 193, 194, 195, 196, 197] (by decide +kernel) (by decide +kernel)
set_option maxRecDepth 20000 in
theorem gX6_seen_X4_nearestLand : GoodIn wsX6_seen (wsV RX6 142 RX4 yX4_nearestLand wsX4_nearestLand) := goodIn_app (goodIn_of _ (by decide +kernel)) ggX6_seen_X4_nearestLand
theorem dX6_seen_0 : decode cX6_seen 0 = .ok (.aload_n 0, 1) := by decide +kernel
theorem dX6_seen_1 : decode cX6_seen 1 = .ok (.iload_n 1, 1) := by decide +kernel
theorem dX6_seen_2 : decode cX6_seen 2 = .ok (.iconst 2, 1) := by decide +kernel
theorem dX6_seen_3 : decode cX6_seen 3 = .ok (.iconst 1, 1) := by decide +kernel
theorem dX6_seen_4 : decode cX6_seen 4 = .ok (.invokevirtual 112, 3) := by decide +kernel
theorem dX6_seen_7 : decode cX6_seen 7 = .ok (.istore_n 2, 1) := by decide +kernel
theorem dX6_seen_8 : decode cX6_seen 8 = .ok (.iload_n 2, 1) := by decide +kernel
theorem dX6_seen_9 : decode cX6_seen 9 = .ok (.ifCond .eq 5, 3) := by decide +kernel
theorem dX6_seen_12 : decode cX6_seen 12 = .ok (.iload_n 2, 1) := by decide +kernel
theorem dX6_seen_13 : decode cX6_seen 13 = .ok (.ireturn, 1) := by decide +kernel
theorem dX6_seen_14 : decode cX6_seen 14 = .ok (.aload_n 0, 1) := by decide +kernel
theorem dX6_seen_15 : decode cX6_seen 15 = .ok (.getfield 26, 3) := by decide +kernel
theorem dX6_seen_18 : decode cX6_seen 18 = .ok (.getfield 125, 3) := by decide +kernel
theorem dX6_seen_21 : decode cX6_seen 21 = .ok (.astore_n 3, 1) := by decide +kernel
theorem dX6_seen_22 : decode cX6_seen 22 = .ok (.aload_n 3, 1) := by decide +kernel
theorem dX6_seen_23 : decode cX6_seen 23 = .ok (.getfield 132, 3) := by decide +kernel
theorem dX6_seen_26 : decode cX6_seen 26 = .ok (.bipush (-6), 2) := by decide +kernel
theorem dX6_seen_28 : decode cX6_seen 28 = .ok (.if_icmp .ne 6, 3) := by decide +kernel
theorem dX6_seen_31 : decode cX6_seen 31 = .ok (.bipush (-6), 2) := by decide +kernel
theorem dX6_seen_33 : decode cX6_seen 33 = .ok (.ireturn, 1) := by decide +kernel
theorem dX6_seen_34 : decode cX6_seen 34 = .ok (.iload_n 1, 1) := by decide +kernel
theorem dX6_seen_35 : decode cX6_seen 35 = .ok (.lookupswitch 38 #[(0, 25), (1, 33)], 25) := by decide +kernel
theorem dX6_seen_60 : decode cX6_seen 60 = .ok (.aload_n 3, 1) := by decide +kernel
theorem dX6_seen_61 : decode cX6_seen 61 = .ok (.invokevirtual 135, 3) := by decide +kernel
theorem dX6_seen_64 : decode cX6_seen 64 = .ok (.invokestatic 76, 3) := by decide +kernel
theorem dX6_seen_67 : decode cX6_seen 67 = .ok (.ireturn, 1) := by decide +kernel
theorem dX6_seen_68 : decode cX6_seen 68 = .ok (.aload_n 3, 1) := by decide +kernel
theorem dX6_seen_69 : decode cX6_seen 69 = .ok (.invokevirtual 139, 3) := by decide +kernel
theorem dX6_seen_72 : decode cX6_seen 72 = .ok (.ireturn, 1) := by decide +kernel
theorem dX6_seen_73 : decode cX6_seen 73 = .ok (.aload_n 3, 1) := by decide +kernel
theorem dX6_seen_74 : decode cX6_seen 74 = .ok (.invokevirtual 142, 3) := by decide +kernel
theorem dX6_seen_77 : decode cX6_seen 77 = .ok (.ireturn, 1) := by decide +kernel
set_option maxRecDepth 20000 in
theorem ggX6_silence_X6_sailTheText : GoodIn wsX6_silence wsX6_sailTheText := goodIn_r _ [8, 9, 1, 10, 11, 12, 13, 7, 14, 15, 16, 17, 18, 19, 20, 21, 22, 23, 24, 25, 26, 27, 28, 29, 30, 31, 32, 33, 34, 35, 36, 37, 38, 39, 40, 41, 42, 43, 44, 45, 46, 47, 48, 49, 50, 51, 52, 53, 54, 55, 56, 57, 58, 59, 60, 61, 62, 63, 64, 65, 66, 67, 68, 69, 70, 71, 72, 73, 74, 75, 76, 77, 78, 79, 80, 81, 82, 83, 84, 85, 86, 87, 88, 89, 90, 91, 92, 93, 94, 95, 96, 97, 98, 99, 100, 101, 102, 103, 104, 105, 106, 107, 108, 109, 110, 111, 112, 113, 114, 115, 116, 117, 118, 119, 120, 121, 122, 123, 124, 125, 126, 127, 128, 129, 130, 131, 132, 133, 134, 135, 136, 137, 138, 139, 140, 141, 142, 143, 144, 145, 146, 147, 148, 149, 150, 151, 152, 153, 154, 155, 156, 157, 158, 159, 160, 161, 162, 163, 164, 165, 166, 167, 168, 169, 170, 171, 172, 173, 174, 175, 176, 177] (by decide +kernel) (by decide +kernel)
set_option maxRecDepth 20000 in
theorem gX6_silence_X6_sailTheText : GoodIn wsX6_silence (wsV RX6 112 RX6 yX6_sailTheText wsX6_sailTheText) := goodIn_app (goodIn_of _ (by decide +kernel)) ggX6_silence_X6_sailTheText
theorem dX6_silence_0 : decode cX6_silence 0 = .ok (.aload_n 0, 1) := by decide +kernel
theorem dX6_silence_1 : decode cX6_silence 1 = .ok (.iload_n 1, 1) := by decide +kernel
theorem dX6_silence_2 : decode cX6_silence 2 = .ok (.iconst 1, 1) := by decide +kernel
theorem dX6_silence_3 : decode cX6_silence 3 = .ok (.iconst 1, 1) := by decide +kernel
theorem dX6_silence_4 : decode cX6_silence 4 = .ok (.invokevirtual 112, 3) := by decide +kernel
theorem dX6_silence_7 : decode cX6_silence 7 = .ok (.istore_n 2, 1) := by decide +kernel
theorem dX6_silence_8 : decode cX6_silence 8 = .ok (.iload_n 2, 1) := by decide +kernel
theorem dX6_silence_9 : decode cX6_silence 9 = .ok (.ifCond .eq 5, 3) := by decide +kernel
theorem dX6_silence_12 : decode cX6_silence 12 = .ok (.iload_n 2, 1) := by decide +kernel
theorem dX6_silence_13 : decode cX6_silence 13 = .ok (.ireturn, 1) := by decide +kernel
theorem dX6_silence_14 : decode cX6_silence 14 = .ok (.iload_n 1, 1) := by decide +kernel
theorem dX6_silence_15 : decode cX6_silence 15 = .ok (.ifCond .ne 13, 3) := by decide +kernel
theorem dX6_silence_18 : decode cX6_silence 18 = .ok (.aload_n 0, 1) := by decide +kernel
theorem dX6_silence_19 : decode cX6_silence 19 = .ok (.getfield 26, 3) := by decide +kernel
theorem dX6_silence_22 : decode cX6_silence 22 = .ok (.getfield 145, 3) := by decide +kernel
theorem dX6_silence_25 : decode cX6_silence 25 = .ok (.goto 10, 3) := by decide +kernel
theorem dX6_silence_28 : decode cX6_silence 28 = .ok (.aload_n 0, 1) := by decide +kernel
theorem dX6_silence_29 : decode cX6_silence 29 = .ok (.getfield 26, 3) := by decide +kernel
theorem dX6_silence_32 : decode cX6_silence 32 = .ok (.getfield 148, 3) := by decide +kernel
theorem dX6_silence_35 : decode cX6_silence 35 = .ok (.ireturn, 1) := by decide +kernel
set_option maxRecDepth 20000 in
theorem ggX6_done_X6_sailTheText : GoodIn wsX6_done wsX6_sailTheText := goodIn_r _ [11, 4, 2, 1, 12, 13, 14, 10, 15, 16, 17, 18, 19, 20, 21, 22, 23, 24, 25, 26, 27, 28, 29, 30, 31, 32, 33, 34, 35, 36, 37, 38, 39, 40, 41, 42, 43, 44, 45, 46, 47, 48, 49, 50, 51, 52, 53, 54, 55, 56, 57, 58, 59, 60, 61, 62, 63, 64, 65, 66, 67, 68, 69, 70, 71, 72, 73, 74, 75, 76, 77, 78, 79, 80, 81, 82, 83, 84, 85, 86, 87, 88, 89, 90, 91, 92, 93, 94, 95, 96, 97, 98, 99, 100, 101, 102, 103, 104, 105, 106, 107, 108, 109, 110, 111, 112, 113, 114, 115, 116, 117, 118, 119, 120, 121, 122, 123, 124, 125, 126, 127, 128, 129, 130, 131, 132, 133, 134, 135, 136, 137, 138, 139, 140, 141, 142, 143, 144, 145, 146, 147, 148, 149, 150, 151, 153, 154, 155, 156, 157, 158, 159, 160, 161, 162, 163, 164, 165, 166, 167, 168, 169, 170, 171, 172, 173, 174, 175, 176, 177, 178, 179] (by decide +kernel) (by decide +kernel)
set_option maxRecDepth 20000 in
theorem gX6_done_X6_sailTheText : GoodIn wsX6_done (wsV RX6 112 RX6 yX6_sailTheText wsX6_sailTheText) := goodIn_app (goodIn_of _ (by decide +kernel)) ggX6_done_X6_sailTheText
set_option maxRecDepth 20000 in
theorem ggX6_done_X4_takeOver : GoodIn wsX6_done wsX4_takeOver := goodIn_r _ [65, 66, 67, 68, 69, 70, 71, 72, 73, 74, 75, 170, 171, 172, 173, 174, 175, 176, 177, 178, 179] (by decide +kernel) (by decide +kernel)
set_option maxRecDepth 20000 in
theorem gX6_done_X4_takeOver : GoodIn wsX6_done (wsV RX6 151 RX4 yX4_takeOver wsX4_takeOver) := goodIn_app (goodIn_of _ (by decide +kernel)) ggX6_done_X4_takeOver
theorem dX6_done_0 : decode cX6_done 0 = .ok (.aload_n 0, 1) := by decide +kernel
theorem dX6_done_1 : decode cX6_done 1 = .ok (.iconst 0, 1) := by decide +kernel
theorem dX6_done_2 : decode cX6_done 2 = .ok (.iconst 0, 1) := by decide +kernel
theorem dX6_done_3 : decode cX6_done 3 = .ok (.iconst 1, 1) := by decide +kernel
theorem dX6_done_4 : decode cX6_done 4 = .ok (.invokevirtual 112, 3) := by decide +kernel
theorem dX6_done_7 : decode cX6_done 7 = .ok (.istore_n 1, 1) := by decide +kernel
theorem dX6_done_8 : decode cX6_done 8 = .ok (.iload_n 1, 1) := by decide +kernel
theorem dX6_done_9 : decode cX6_done 9 = .ok (.ifCond .eq 5, 3) := by decide +kernel
theorem dX6_done_12 : decode cX6_done 12 = .ok (.iload_n 1, 1) := by decide +kernel
theorem dX6_done_13 : decode cX6_done 13 = .ok (.ireturn, 1) := by decide +kernel
theorem dX6_done_14 : decode cX6_done 14 = .ok (.aload_n 0, 1) := by decide +kernel
theorem dX6_done_15 : decode cX6_done 15 = .ok (.getfield 10, 3) := by decide +kernel
theorem dX6_done_18 : decode cX6_done 18 = .ok (.aload_n 0, 1) := by decide +kernel
theorem dX6_done_19 : decode cX6_done 19 = .ok (.getfield 26, 3) := by decide +kernel
theorem dX6_done_22 : decode cX6_done 22 = .ok (.getfield 125, 3) := by decide +kernel
theorem dX6_done_25 : decode cX6_done 25 = .ok (.invokevirtual 151, 3) := by decide +kernel
theorem dX6_done_28 : decode cX6_done 28 = .ok (.aload_n 0, 1) := by decide +kernel
theorem dX6_done_29 : decode cX6_done 29 = .ok (.getfield 19, 3) := by decide +kernel
theorem dX6_done_32 : decode cX6_done 32 = .ok (.iconst 0, 1) := by decide +kernel
theorem dX6_done_33 : decode cX6_done 33 = .ok (.putfield 105, 3) := by decide +kernel
theorem dX6_done_36 : decode cX6_done 36 = .ok (.aload_n 0, 1) := by decide +kernel
theorem dX6_done_37 : decode cX6_done 37 = .ok (.getfield 26, 3) := by decide +kernel
theorem dX6_done_40 : decode cX6_done 40 = .ok (.getfield 155, 3) := by decide +kernel
theorem dX6_done_43 : decode cX6_done 43 = .ok (.ireturn, 1) := by decide +kernel
set_option maxRecDepth 20000 in
theorem ggX6_course_X0_isCell : GoodIn wsX6_course wsX0_isCell := goodIn_r _ [4] (by decide +kernel) (by decide +kernel)
set_option maxRecDepth 20000 in
theorem gX6_course_X0_isCell : GoodIn wsX6_course (va_wsS RX6 52 yX0_isCell wsX0_isCell) := goodIn_app (goodIn_of _ (by decide +kernel)) ggX6_course_X0_isCell
set_option maxRecDepth 20000 in
theorem ggX6_course_X6_within : GoodIn wsX6_course wsX6_within := goodIn_r _ [8] (by decide +kernel) (by decide +kernel)
set_option maxRecDepth 20000 in
theorem gX6_course_X6_within : GoodIn wsX6_course (va_wsS RX6 58 yX6_within wsX6_within) := goodIn_app (goodIn_of _ (by decide +kernel)) ggX6_course_X6_within
set_option maxRecDepth 20000 in
theorem ggX6_course_X6_fewestSteps : GoodIn wsX6_course wsX6_fewestSteps := goodIn_r _ [12, 13, 14, 15, 16, 17, 18, 19, 20, 21, 22, 23, 3, 24, 25, 26, 27, 28, 29, 30, 31, 32, 33, 34, 35, 36, 37, 38, 39, 40, 41, 2, 4, 42, 43, 44, 45, 46, 47, 48, 49, 50, 51, 52, 53, 54, 55, 56, 57, 58, 59, 60, 61, 62] (by decide +kernel) (by decide +kernel)
set_option maxRecDepth 20000 in
theorem gX6_course_X6_fewestSteps : GoodIn wsX6_course (wsV RX6 158 RX6 yX6_fewestSteps wsX6_fewestSteps) := goodIn_app (goodIn_of _ (by decide +kernel)) ggX6_course_X6_fewestSteps
theorem dX6_course_0 : decode cX6_course 0 = .ok (.iload_n 1, 1) := by decide +kernel
theorem dX6_course_1 : decode cX6_course 1 = .ok (.invokestatic 52, 3) := by decide +kernel
theorem dX6_course_4 : decode cX6_course 4 = .ok (.ifCond .eq 10, 3) := by decide +kernel
theorem dX6_course_7 : decode cX6_course 7 = .ok (.iload_n 2, 1) := by decide +kernel
theorem dX6_course_8 : decode cX6_course 8 = .ok (.invokestatic 52, 3) := by decide +kernel
theorem dX6_course_11 : decode cX6_course 11 = .ok (.ifCond .ne 5, 3) := by decide +kernel
theorem dX6_course_14 : decode cX6_course 14 = .ok (.iconst (-1), 1) := by decide +kernel
theorem dX6_course_15 : decode cX6_course 15 = .ok (.ireturn, 1) := by decide +kernel
theorem dX6_course_16 : decode cX6_course 16 = .ok (.iload_n 3, 1) := by decide +kernel
theorem dX6_course_17 : decode cX6_course 17 = .ok (.iconst 0, 1) := by decide +kernel
theorem dX6_course_18 : decode cX6_course 18 = .ok (.iconst 1, 1) := by decide +kernel
theorem dX6_course_19 : decode cX6_course 19 = .ok (.invokestatic 58, 3) := by decide +kernel
theorem dX6_course_22 : decode cX6_course 22 = .ok (.ifCond .ne 6, 3) := by decide +kernel
theorem dX6_course_25 : decode cX6_course 25 = .ok (.bipush (-2), 2) := by decide +kernel
theorem dX6_course_27 : decode cX6_course 27 = .ok (.ireturn, 1) := by decide +kernel
theorem dX6_course_28 : decode cX6_course 28 = .ok (.aload_n 0, 1) := by decide +kernel
theorem dX6_course_29 : decode cX6_course 29 = .ok (.iload_n 1, 1) := by decide +kernel
theorem dX6_course_30 : decode cX6_course 30 = .ok (.iload_n 2, 1) := by decide +kernel
theorem dX6_course_31 : decode cX6_course 31 = .ok (.iload_n 3, 1) := by decide +kernel
theorem dX6_course_32 : decode cX6_course 32 = .ok (.invokevirtual 158, 3) := by decide +kernel
theorem dX6_course_35 : decode cX6_course 35 = .ok (.ireturn, 1) := by decide +kernel
set_option maxRecDepth 20000 in
theorem ggX6_cross_X0_isCell : GoodIn wsX6_cross wsX0_isCell := goodIn_r _ [4] (by decide +kernel) (by decide +kernel)
set_option maxRecDepth 20000 in
theorem gX6_cross_X0_isCell : GoodIn wsX6_cross (va_wsS RX6 52 yX0_isCell wsX0_isCell) := goodIn_app (goodIn_of _ (by decide +kernel)) ggX6_cross_X0_isCell
set_option maxRecDepth 20000 in
theorem ggX6_cross_X0_isWay : GoodIn wsX6_cross wsX0_isWay := goodIn_r _ [7] (by decide +kernel) (by decide +kernel)
set_option maxRecDepth 20000 in
theorem gX6_cross_X0_isWay : GoodIn wsX6_cross (va_wsS RX6 162 yX0_isWay wsX0_isWay) := goodIn_app (goodIn_of _ (by decide +kernel)) ggX6_cross_X0_isWay
set_option maxRecDepth 20000 in
theorem ggX6_cross_X6_within : GoodIn wsX6_cross wsX6_within := goodIn_r _ [11] (by decide +kernel) (by decide +kernel)
set_option maxRecDepth 20000 in
theorem gX6_cross_X6_within : GoodIn wsX6_cross (va_wsS RX6 58 yX6_within wsX6_within) := goodIn_app (goodIn_of _ (by decide +kernel)) ggX6_cross_X6_within
set_option maxRecDepth 20000 in
theorem ggX6_cross_X0_ray : GoodIn wsX6_cross wsX0_ray := goodIn_r _ [14, 15, 16, 3, 17, 18, 19, 20, 2, 4, 21, 22, 23, 24, 25, 26] (by decide +kernel) (by decide +kernel)
set_option maxRecDepth 20000 in
theorem gX6_cross_X0_ray : GoodIn wsX6_cross (va_wsS RX6 165 yX0_ray wsX0_ray) := goodIn_app (goodIn_of _ (by decide +kernel)) ggX6_cross_X0_ray
set_option maxRecDepth 20000 in
theorem ggX6_cross_J13_bitCount_95d88 : GoodIn wsX6_cross wsJ13_bitCount_95d88 := goodIn_r _ [30, 31, 32, 33] (by decide +kernel) (by decide +kernel)
set_option maxRecDepth 20000 in
theorem gX6_cross_J13_bitCount_95d88 : GoodIn wsX6_cross (va_wsS RX6 76 yJ13_bitCount_95d88 wsJ13_bitCount_95d88) := goodIn_app (goodIn_of _ (by decide +kernel)) ggX6_cross_J13_bitCount_95d88
set_option maxRecDepth 20000 in
theorem ggX6_cross_X0_least : GoodIn wsX6_cross wsX0_least := goodIn_r _ [36, 37, 28, 29, 30, 31, 32, 33] (by decide +kernel) (by decide +kernel)
set_option maxRecDepth 20000 in
theorem gX6_cross_X0_least : GoodIn wsX6_cross (va_wsS RX6 169 yX0_least wsX0_least) := goodIn_app (goodIn_of _ (by decide +kernel)) ggX6_cross_X0_least
theorem dX6_cross_0 : decode cX6_cross 0 = .ok (.iload_n 1, 1) := by decide +kernel
theorem dX6_cross_1 : decode cX6_cross 1 = .ok (.invokestatic 52, 3) := by decide +kernel
theorem dX6_cross_4 : decode cX6_cross 4 = .ok (.ifCond .eq 10, 3) := by decide +kernel
theorem dX6_cross_7 : decode cX6_cross 7 = .ok (.iload_n 3, 1) := by decide +kernel
theorem dX6_cross_8 : decode cX6_cross 8 = .ok (.invokestatic 52, 3) := by decide +kernel
theorem dX6_cross_11 : decode cX6_cross 11 = .ok (.ifCond .ne 5, 3) := by decide +kernel
theorem dX6_cross_14 : decode cX6_cross 14 = .ok (.iconst (-1), 1) := by decide +kernel
theorem dX6_cross_15 : decode cX6_cross 15 = .ok (.ireturn, 1) := by decide +kernel
theorem dX6_cross_16 : decode cX6_cross 16 = .ok (.iload_n 2, 1) := by decide +kernel
theorem dX6_cross_17 : decode cX6_cross 17 = .ok (.invokestatic 162, 3) := by decide +kernel
theorem dX6_cross_20 : decode cX6_cross 20 = .ok (.ifCond .eq 21, 3) := by decide +kernel
theorem dX6_cross_23 : decode cX6_cross 23 = .ok (.iload 4, 2) := by decide +kernel
theorem dX6_cross_25 : decode cX6_cross 25 = .ok (.invokestatic 162, 3) := by decide +kernel
theorem dX6_cross_28 : decode cX6_cross 28 = .ok (.ifCond .eq 13, 3) := by decide +kernel
theorem dX6_cross_31 : decode cX6_cross 31 = .ok (.iload 5, 2) := by decide +kernel
theorem dX6_cross_33 : decode cX6_cross 33 = .ok (.iconst 0, 1) := by decide +kernel
theorem dX6_cross_34 : decode cX6_cross 34 = .ok (.iconst 1, 1) := by decide +kernel
theorem dX6_cross_35 : decode cX6_cross 35 = .ok (.invokestatic 58, 3) := by decide +kernel
theorem dX6_cross_38 : decode cX6_cross 38 = .ok (.ifCond .ne 6, 3) := by decide +kernel
theorem dX6_cross_41 : decode cX6_cross 41 = .ok (.bipush (-2), 2) := by decide +kernel
theorem dX6_cross_43 : decode cX6_cross 43 = .ok (.ireturn, 1) := by decide +kernel
theorem dX6_cross_44 : decode cX6_cross 44 = .ok (.iload_n 1, 1) := by decide +kernel
theorem dX6_cross_45 : decode cX6_cross 45 = .ok (.iload_n 2, 1) := by decide +kernel
theorem dX6_cross_46 : decode cX6_cross 46 = .ok (.invokestatic 165, 3) := by decide +kernel
theorem dX6_cross_49 : decode cX6_cross 49 = .ok (.iload_n 3, 1) := by decide +kernel
theorem dX6_cross_50 : decode cX6_cross 50 = .ok (.iload 4, 2) := by decide +kernel
theorem dX6_cross_52 : decode cX6_cross 52 = .ok (.invokestatic 165, 3) := by decide +kernel
theorem dX6_cross_55 : decode cX6_cross 55 = .ok (.land, 1) := by decide +kernel
theorem dX6_cross_56 : decode cX6_cross 56 = .ok (.lstore 6, 2) := by decide +kernel
theorem dX6_cross_58 : decode cX6_cross 58 = .ok (.iload 5, 2) := by decide +kernel
theorem dX6_cross_60 : decode cX6_cross 60 = .ok (.ifCond .ne 11, 3) := by decide +kernel
theorem dX6_cross_63 : decode cX6_cross 63 = .ok (.lload 6, 2) := by decide +kernel
theorem dX6_cross_65 : decode cX6_cross 65 = .ok (.invokestatic 76, 3) := by decide +kernel
theorem dX6_cross_68 : decode cX6_cross 68 = .ok (.goto 8, 3) := by decide +kernel
theorem dX6_cross_71 : decode cX6_cross 71 = .ok (.lload 6, 2) := by decide +kernel
theorem dX6_cross_73 : decode cX6_cross 73 = .ok (.invokestatic 169, 3) := by decide +kernel
theorem dX6_cross_76 : decode cX6_cross 76 = .ok (.ireturn, 1) := by decide +kernel
set_option maxRecDepth 20000 in
theorem ggX6_ropes_X6_within : GoodIn wsX6_ropes wsX6_within := goodIn_r _ [5] (by decide +kernel) (by decide +kernel)
set_option maxRecDepth 20000 in
theorem gX6_ropes_X6_within : GoodIn wsX6_ropes (va_wsS RX6 58 yX6_within wsX6_within) := goodIn_app (goodIn_of _ (by decide +kernel)) ggX6_ropes_X6_within
set_option maxRecDepth 20000 in
theorem ggX6_ropes_X3_takePieces : GoodIn wsX6_ropes wsX3_takePieces := goodIn_r _ [10, 11, 12, 40, 41, 42] (by decide +kernel) (by decide +kernel)
set_option maxRecDepth 20000 in
theorem gX6_ropes_X3_takePieces : GoodIn wsX6_ropes (wsV RX6 172 RX3 yX3_takePieces wsX3_takePieces) := goodIn_app (goodIn_of _ (by decide +kernel)) ggX6_ropes_X3_takePieces
set_option maxRecDepth 20000 in
theorem ggX6_ropes_X3_fewestRopes : GoodIn wsX6_ropes wsX3_fewestRopes := goodIn_r _ [16, 17, 11, 18, 19, 20, 9, 21, 12, 22, 23, 24, 25, 26, 27, 28, 40, 41, 42] (by decide +kernel) (by decide +kernel)
set_option maxRecDepth 20000 in
theorem gX6_ropes_X3_fewestRopes : GoodIn wsX6_ropes (wsV RX6 176 RX3 yX3_fewestRopes wsX3_fewestRopes) := goodIn_app (goodIn_of _ (by decide +kernel)) ggX6_ropes_X3_fewestRopes
set_option maxRecDepth 20000 in
theorem ggX6_ropes_X3_mostFromOne : GoodIn wsX6_ropes wsX3_mostFromOne := goodIn_r _ [32, 11, 12, 40, 41, 42] (by decide +kernel) (by decide +kernel)
set_option maxRecDepth 20000 in
theorem gX6_ropes_X3_mostFromOne : GoodIn wsX6_ropes (wsV RX6 179 RX3 yX3_mostFromOne wsX3_mostFromOne) := goodIn_app (goodIn_of _ (by decide +kernel)) ggX6_ropes_X3_mostFromOne
theorem dX6_ropes_0 : decode cX6_ropes 0 = .ok (.iload_n 2, 1) := by decide +kernel
theorem dX6_ropes_1 : decode cX6_ropes 1 = .ok (.iconst 1, 1) := by decide +kernel
theorem dX6_ropes_2 : decode cX6_ropes 2 = .ok (.bipush 9, 2) := by decide +kernel
theorem dX6_ropes_4 : decode cX6_ropes 4 = .ok (.invokestatic 58, 3) := by decide +kernel
theorem dX6_ropes_7 : decode cX6_ropes 7 = .ok (.ifCond .eq 15, 3) := by decide +kernel
theorem dX6_ropes_10 : decode cX6_ropes 10 = .ok (.aload_n 0, 1) := by decide +kernel
theorem dX6_ropes_11 : decode cX6_ropes 11 = .ok (.getfield 33, 3) := by decide +kernel
theorem dX6_ropes_14 : decode cX6_ropes 14 = .ok (.iload_n 1, 1) := by decide +kernel
theorem dX6_ropes_15 : decode cX6_ropes 15 = .ok (.iload_n 2, 1) := by decide +kernel
theorem dX6_ropes_16 : decode cX6_ropes 16 = .ok (.invokevirtual 172, 3) := by decide +kernel
theorem dX6_ropes_19 : decode cX6_ropes 19 = .ok (.ifCond .ne 6, 3) := by decide +kernel
theorem dX6_ropes_22 : decode cX6_ropes 22 = .ok (.bipush (-2), 2) := by decide +kernel
theorem dX6_ropes_24 : decode cX6_ropes 24 = .ok (.ireturn, 1) := by decide +kernel
theorem dX6_ropes_25 : decode cX6_ropes 25 = .ok (.iload_n 3, 1) := by decide +kernel
theorem dX6_ropes_26 : decode cX6_ropes 26 = .ok (.bipush 9, 2) := by decide +kernel
theorem dX6_ropes_28 : decode cX6_ropes 28 = .ok (.bipush 30, 2) := by decide +kernel
theorem dX6_ropes_30 : decode cX6_ropes 30 = .ok (.invokestatic 58, 3) := by decide +kernel
theorem dX6_ropes_33 : decode cX6_ropes 33 = .ok (.ifCond .eq 13, 3) := by decide +kernel
theorem dX6_ropes_36 : decode cX6_ropes 36 = .ok (.iload 4, 2) := by decide +kernel
theorem dX6_ropes_38 : decode cX6_ropes 38 = .ok (.iconst 0, 1) := by decide +kernel
theorem dX6_ropes_39 : decode cX6_ropes 39 = .ok (.iconst 1, 1) := by decide +kernel
theorem dX6_ropes_40 : decode cX6_ropes 40 = .ok (.invokestatic 58, 3) := by decide +kernel
theorem dX6_ropes_43 : decode cX6_ropes 43 = .ok (.ifCond .ne 6, 3) := by decide +kernel
theorem dX6_ropes_46 : decode cX6_ropes 46 = .ok (.bipush (-2), 2) := by decide +kernel
theorem dX6_ropes_48 : decode cX6_ropes 48 = .ok (.ireturn, 1) := by decide +kernel
theorem dX6_ropes_49 : decode cX6_ropes 49 = .ok (.iload 4, 2) := by decide +kernel
theorem dX6_ropes_51 : decode cX6_ropes 51 = .ok (.ifCond .ne 14, 3) := by decide +kernel
theorem dX6_ropes_54 : decode cX6_ropes 54 = .ok (.aload_n 0, 1) := by decide +kernel
theorem dX6_ropes_55 : decode cX6_ropes 55 = .ok (.getfield 33, 3) := by decide +kernel
theorem dX6_ropes_58 : decode cX6_ropes 58 = .ok (.iload_n 3, 1) := by decide +kernel
theorem dX6_ropes_59 : decode cX6_ropes 59 = .ok (.invokevirtual 176, 3) := by decide +kernel
theorem dX6_ropes_62 : decode cX6_ropes 62 = .ok (.goto 11, 3) := by decide +kernel
theorem dX6_ropes_65 : decode cX6_ropes 65 = .ok (.aload_n 0, 1) := by decide +kernel
theorem dX6_ropes_66 : decode cX6_ropes 66 = .ok (.getfield 33, 3) := by decide +kernel
theorem dX6_ropes_69 : decode cX6_ropes 69 = .ok (.iload_n 3, 1) := by decide +kernel
theorem dX6_ropes_70 : decode cX6_ropes 70 = .ok (.invokevirtual 179, 3) := by decide +kernel
theorem dX6_ropes_73 : decode cX6_ropes 73 = .ok (.ireturn, 1) := by decide +kernel
set_option maxRecDepth 20000 in
theorem ggX6_look_X0_isCell : GoodIn wsX6_look wsX0_isCell := goodIn_r _ [8] (by decide +kernel) (by decide +kernel)
set_option maxRecDepth 20000 in
theorem gX6_look_X0_isCell : GoodIn wsX6_look (va_wsS RX6 52 yX0_isCell wsX0_isCell) := goodIn_app (goodIn_of _ (by decide +kernel)) ggX6_look_X0_isCell
set_option maxRecDepth 20000 in
theorem ggX6_look_X6_within : GoodIn wsX6_look wsX6_within := goodIn_r _ [12] (by decide +kernel) (by decide +kernel)
set_option maxRecDepth 20000 in
theorem gX6_look_X6_within : GoodIn wsX6_look (va_wsS RX6 58 yX6_within wsX6_within) := goodIn_app (goodIn_of _ (by decide +kernel)) ggX6_look_X6_within
set_option maxRecDepth 20000 in
theorem ggX6_look_X0_around : GoodIn wsX6_look wsX0_around := goodIn_r _ [15, 16, 17, 18, 19, 20, 21, 22, 23, 24, 25] (by decide +kernel) (by decide +kernel)
set_option maxRecDepth 20000 in
theorem gX6_look_X0_around : GoodIn wsX6_look (va_wsS RX6 185 yX0_around wsX0_around) := goodIn_app (goodIn_of _ (by decide +kernel)) ggX6_look_X0_around
theorem dX6_look_0 : decode cX6_look 0 = .ok (.iload_n 1, 1) := by decide +kernel
theorem dX6_look_1 : decode cX6_look 1 = .ok (.invokestatic 52, 3) := by decide +kernel
theorem dX6_look_4 : decode cX6_look 4 = .ok (.ifCond .ne 5, 3) := by decide +kernel
theorem dX6_look_7 : decode cX6_look 7 = .ok (.iconst (-1), 1) := by decide +kernel
theorem dX6_look_8 : decode cX6_look 8 = .ok (.ireturn, 1) := by decide +kernel
theorem dX6_look_9 : decode cX6_look 9 = .ok (.iload_n 2, 1) := by decide +kernel
theorem dX6_look_10 : decode cX6_look 10 = .ok (.iconst 0, 1) := by decide +kernel
theorem dX6_look_11 : decode cX6_look 11 = .ok (.bipush 7, 2) := by decide +kernel
theorem dX6_look_13 : decode cX6_look 13 = .ok (.invokestatic 58, 3) := by decide +kernel
theorem dX6_look_16 : decode cX6_look 16 = .ok (.ifCond .ne 6, 3) := by decide +kernel
theorem dX6_look_19 : decode cX6_look 19 = .ok (.bipush (-2), 2) := by decide +kernel
theorem dX6_look_21 : decode cX6_look 21 = .ok (.ireturn, 1) := by decide +kernel
theorem dX6_look_22 : decode cX6_look 22 = .ok (.aload_n 0, 1) := by decide +kernel
theorem dX6_look_23 : decode cX6_look 23 = .ok (.getfield 10, 3) := by decide +kernel
theorem dX6_look_26 : decode cX6_look 26 = .ok (.getfield 182, 3) := by decide +kernel
theorem dX6_look_29 : decode cX6_look 29 = .ok (.bipush 8, 2) := by decide +kernel
theorem dX6_look_31 : decode cX6_look 31 = .ok (.if_icmp .lt 6, 3) := by decide +kernel
theorem dX6_look_34 : decode cX6_look 34 = .ok (.bipush (-4), 2) := by decide +kernel
theorem dX6_look_36 : decode cX6_look 36 = .ok (.ireturn, 1) := by decide +kernel
theorem dX6_look_37 : decode cX6_look 37 = .ok (.iload_n 1, 1) := by decide +kernel
theorem dX6_look_38 : decode cX6_look 38 = .ok (.iload_n 2, 1) := by decide +kernel
theorem dX6_look_39 : decode cX6_look 39 = .ok (.invokestatic 185, 3) := by decide +kernel
theorem dX6_look_42 : decode cX6_look 42 = .ok (.lstore 4, 2) := by decide +kernel
theorem dX6_look_44 : decode cX6_look 44 = .ok (.aload_n 0, 1) := by decide +kernel
theorem dX6_look_45 : decode cX6_look 45 = .ok (.getfield 10, 3) := by decide +kernel
theorem dX6_look_48 : decode cX6_look 48 = .ok (.dup, 1) := by decide +kernel
theorem dX6_look_49 : decode cX6_look 49 = .ok (.getfield 188, 3) := by decide +kernel
theorem dX6_look_52 : decode cX6_look 52 = .ok (.iload_n 3, 1) := by decide +kernel
theorem dX6_look_53 : decode cX6_look 53 = .ok (.ifCond .eq 8, 3) := by decide +kernel
theorem dX6_look_56 : decode cX6_look 56 = .ok (.lload 4, 2) := by decide +kernel
theorem dX6_look_58 : decode cX6_look 58 = .ok (.goto 9, 3) := by decide +kernel
theorem dX6_look_61 : decode cX6_look 61 = .ok (.lload 4, 2) := by decide +kernel
theorem dX6_look_63 : decode cX6_look 63 = .ok (.ldc2_w 74, 3) := by decide +kernel
theorem dX6_look_66 : decode cX6_look 66 = .ok (.lxor, 1) := by decide +kernel
theorem dX6_look_67 : decode cX6_look 67 = .ok (.land, 1) := by decide +kernel
theorem dX6_look_68 : decode cX6_look 68 = .ok (.putfield 188, 3) := by decide +kernel
theorem dX6_look_71 : decode cX6_look 71 = .ok (.aload_n 0, 1) := by decide +kernel
theorem dX6_look_72 : decode cX6_look 72 = .ok (.getfield 10, 3) := by decide +kernel
theorem dX6_look_75 : decode cX6_look 75 = .ok (.dup, 1) := by decide +kernel
theorem dX6_look_76 : decode cX6_look 76 = .ok (.getfield 182, 3) := by decide +kernel
theorem dX6_look_79 : decode cX6_look 79 = .ok (.iconst 1, 1) := by decide +kernel
theorem dX6_look_80 : decode cX6_look 80 = .ok (.iadd, 1) := by decide +kernel
theorem dX6_look_81 : decode cX6_look 81 = .ok (.putfield 182, 3) := by decide +kernel
theorem dX6_look_84 : decode cX6_look 84 = .ok (.aload_n 0, 1) := by decide +kernel
theorem dX6_look_85 : decode cX6_look 85 = .ok (.getfield 10, 3) := by decide +kernel
theorem dX6_look_88 : decode cX6_look 88 = .ok (.getfield 182, 3) := by decide +kernel
theorem dX6_look_91 : decode cX6_look 91 = .ok (.ireturn, 1) := by decide +kernel
theorem dX6_forget_0 : decode cX6_forget 0 = .ok (.aload_n 0, 1) := by decide +kernel
theorem dX6_forget_1 : decode cX6_forget 1 = .ok (.getfield 10, 3) := by decide +kernel
theorem dX6_forget_4 : decode cX6_forget 4 = .ok (.getfield 182, 3) := by decide +kernel
theorem dX6_forget_7 : decode cX6_forget 7 = .ok (.istore_n 1, 1) := by decide +kernel
theorem dX6_forget_8 : decode cX6_forget 8 = .ok (.aload_n 0, 1) := by decide +kernel
theorem dX6_forget_9 : decode cX6_forget 9 = .ok (.getfield 10, 3) := by decide +kernel
theorem dX6_forget_12 : decode cX6_forget 12 = .ok (.iconst 0, 1) := by decide +kernel
theorem dX6_forget_13 : decode cX6_forget 13 = .ok (.putfield 182, 3) := by decide +kernel
theorem dX6_forget_16 : decode cX6_forget 16 = .ok (.aload_n 0, 1) := by decide +kernel
theorem dX6_forget_17 : decode cX6_forget 17 = .ok (.getfield 10, 3) := by decide +kernel
theorem dX6_forget_20 : decode cX6_forget 20 = .ok (.ldc2_w 74, 3) := by decide +kernel
theorem dX6_forget_23 : decode cX6_forget 23 = .ok (.putfield 188, 3) := by decide +kernel
theorem dX6_forget_26 : decode cX6_forget 26 = .ok (.iload_n 1, 1) := by decide +kernel
theorem dX6_forget_27 : decode cX6_forget 27 = .ok (.ireturn, 1) := by decide +kernel
set_option maxRecDepth 20000 in
theorem ggX6_light_J13_bitCount_95d88 : GoodIn wsX6_light wsJ13_bitCount_95d88 := goodIn_r _ [6, 7, 8, 9] (by decide +kernel) (by decide +kernel)
set_option maxRecDepth 20000 in
theorem gX6_light_J13_bitCount_95d88 : GoodIn wsX6_light (va_wsS RX6 76 yJ13_bitCount_95d88 wsJ13_bitCount_95d88) := goodIn_app (goodIn_of _ (by decide +kernel)) ggX6_light_J13_bitCount_95d88
set_option maxRecDepth 20000 in
theorem ggX6_light_X6_within : GoodIn wsX6_light wsX6_within := goodIn_r _ [13] (by decide +kernel) (by decide +kernel)
set_option maxRecDepth 20000 in
theorem gX6_light_X6_within : GoodIn wsX6_light (va_wsS RX6 58 yX6_within wsX6_within) := goodIn_app (goodIn_of _ (by decide +kernel)) ggX6_light_X6_within
set_option maxRecDepth 20000 in
theorem ggX6_light_X0_least : GoodIn wsX6_light wsX0_least := goodIn_r _ [17, 18, 4, 5, 6, 7, 8, 9] (by decide +kernel) (by decide +kernel)
set_option maxRecDepth 20000 in
theorem gX6_light_X0_least : GoodIn wsX6_light (va_wsS RX6 169 yX0_least wsX0_least) := goodIn_app (goodIn_of _ (by decide +kernel)) ggX6_light_X0_least
theorem dX6_light_0 : decode cX6_light 0 = .ok (.aload_n 0, 1) := by decide +kernel
theorem dX6_light_1 : decode cX6_light 1 = .ok (.getfield 10, 3) := by decide +kernel
theorem dX6_light_4 : decode cX6_light 4 = .ok (.getfield 188, 3) := by decide +kernel
theorem dX6_light_7 : decode cX6_light 7 = .ok (.invokestatic 76, 3) := by decide +kernel
theorem dX6_light_10 : decode cX6_light 10 = .ok (.istore_n 2, 1) := by decide +kernel
theorem dX6_light_11 : decode cX6_light 11 = .ok (.iload_n 1, 1) := by decide +kernel
theorem dX6_light_12 : decode cX6_light 12 = .ok (.iconst (-1), 1) := by decide +kernel
theorem dX6_light_13 : decode cX6_light 13 = .ok (.if_icmp .ne 5, 3) := by decide +kernel
theorem dX6_light_16 : decode cX6_light 16 = .ok (.iload_n 2, 1) := by decide +kernel
theorem dX6_light_17 : decode cX6_light 17 = .ok (.ireturn, 1) := by decide +kernel
theorem dX6_light_18 : decode cX6_light 18 = .ok (.iload_n 1, 1) := by decide +kernel
theorem dX6_light_19 : decode cX6_light 19 = .ok (.iconst 0, 1) := by decide +kernel
theorem dX6_light_20 : decode cX6_light 20 = .ok (.iload_n 2, 1) := by decide +kernel
theorem dX6_light_21 : decode cX6_light 21 = .ok (.iconst 1, 1) := by decide +kernel
theorem dX6_light_22 : decode cX6_light 22 = .ok (.isub, 1) := by decide +kernel
theorem dX6_light_23 : decode cX6_light 23 = .ok (.invokestatic 58, 3) := by decide +kernel
theorem dX6_light_26 : decode cX6_light 26 = .ok (.ifCond .ne 6, 3) := by decide +kernel
theorem dX6_light_29 : decode cX6_light 29 = .ok (.bipush (-6), 2) := by decide +kernel
theorem dX6_light_31 : decode cX6_light 31 = .ok (.ireturn, 1) := by decide +kernel
theorem dX6_light_32 : decode cX6_light 32 = .ok (.aload_n 0, 1) := by decide +kernel
theorem dX6_light_33 : decode cX6_light 33 = .ok (.getfield 10, 3) := by decide +kernel
theorem dX6_light_36 : decode cX6_light 36 = .ok (.getfield 188, 3) := by decide +kernel
theorem dX6_light_39 : decode cX6_light 39 = .ok (.lstore_n 3, 1) := by decide +kernel
theorem dX6_light_40 : decode cX6_light 40 = .ok (.iconst 0, 1) := by decide +kernel
theorem dX6_light_41 : decode cX6_light 41 = .ok (.istore 5, 2) := by decide +kernel
theorem dX6_light_43 : decode cX6_light 43 = .ok (.iload 5, 2) := by decide +kernel
theorem dX6_light_45 : decode cX6_light 45 = .ok (.iload_n 1, 1) := by decide +kernel
theorem dX6_light_46 : decode cX6_light 46 = .ok (.if_icmp .ge 15, 3) := by decide +kernel
theorem dX6_light_49 : decode cX6_light 49 = .ok (.lload_n 3, 1) := by decide +kernel
theorem dX6_light_50 : decode cX6_light 50 = .ok (.lload_n 3, 1) := by decide +kernel
theorem dX6_light_51 : decode cX6_light 51 = .ok (.lconst 1, 1) := by decide +kernel
theorem dX6_light_52 : decode cX6_light 52 = .ok (.lsub, 1) := by decide +kernel
theorem dX6_light_53 : decode cX6_light 53 = .ok (.land, 1) := by decide +kernel
theorem dX6_light_54 : decode cX6_light 54 = .ok (.lstore_n 3, 1) := by decide +kernel
theorem dX6_light_55 : decode cX6_light 55 = .ok (.iinc 5 1, 3) := by decide +kernel
theorem dX6_light_58 : decode cX6_light 58 = .ok (.goto (-15), 3) := by decide +kernel
theorem dX6_light_61 : decode cX6_light 61 = .ok (.lload_n 3, 1) := by decide +kernel
theorem dX6_light_62 : decode cX6_light 62 = .ok (.invokestatic 169, 3) := by decide +kernel
theorem dX6_light_65 : decode cX6_light 65 = .ok (.ireturn, 1) := by decide +kernel
set_option maxRecDepth 20000 in
theorem ggX6_ask_X6_within : GoodIn wsX6_ask wsX6_within := goodIn_r _ [6] (by decide +kernel) (by decide +kernel)
set_option maxRecDepth 20000 in
theorem gX6_ask_X6_within : GoodIn wsX6_ask (va_wsS RX6 58 yX6_within wsX6_within) := goodIn_app (goodIn_of _ (by decide +kernel)) ggX6_ask_X6_within
set_option maxRecDepth 20000 in
theorem ggX6_ask_X6_bestNextLook : GoodIn wsX6_ask wsX6_bestNextLook := goodIn_r _ [9, 10, 11, 12, 13, 14, 15, 16, 17, 18, 19, 20, 21, 22, 23, 24, 25, 26, 27, 28, 29, 30, 31] (by decide +kernel) (by decide +kernel)
set_option maxRecDepth 20000 in
theorem gX6_ask_X6_bestNextLook : GoodIn wsX6_ask (va_wsS RX6 191 yX6_bestNextLook wsX6_bestNextLook) := goodIn_app (goodIn_of _ (by decide +kernel)) ggX6_ask_X6_bestNextLook
theorem dX6_ask_0 : decode cX6_ask 0 = .ok (.iload_n 1, 1) := by decide +kernel
theorem dX6_ask_1 : decode cX6_ask 1 = .ok (.iconst 0, 1) := by decide +kernel
theorem dX6_ask_2 : decode cX6_ask 2 = .ok (.iconst 1, 1) := by decide +kernel
theorem dX6_ask_3 : decode cX6_ask 3 = .ok (.invokestatic 58, 3) := by decide +kernel
theorem dX6_ask_6 : decode cX6_ask 6 = .ok (.ifCond .ne 6, 3) := by decide +kernel
theorem dX6_ask_9 : decode cX6_ask 9 = .ok (.bipush (-2), 2) := by decide +kernel
theorem dX6_ask_11 : decode cX6_ask 11 = .ok (.ireturn, 1) := by decide +kernel
theorem dX6_ask_12 : decode cX6_ask 12 = .ok (.aload_n 0, 1) := by decide +kernel
theorem dX6_ask_13 : decode cX6_ask 13 = .ok (.getfield 10, 3) := by decide +kernel
theorem dX6_ask_16 : decode cX6_ask 16 = .ok (.getfield 188, 3) := by decide +kernel
theorem dX6_ask_19 : decode cX6_ask 19 = .ok (.lconst 0, 1) := by decide +kernel
theorem dX6_ask_20 : decode cX6_ask 20 = .ok (.lcmp, 1) := by decide +kernel
theorem dX6_ask_21 : decode cX6_ask 21 = .ok (.ifCond .ne 8, 3) := by decide +kernel
theorem dX6_ask_24 : decode cX6_ask 24 = .ok (.bipush (-6), 2) := by decide +kernel
theorem dX6_ask_26 : decode cX6_ask 26 = .ok (.goto 14, 3) := by decide +kernel
theorem dX6_ask_29 : decode cX6_ask 29 = .ok (.aload_n 0, 1) := by decide +kernel
theorem dX6_ask_30 : decode cX6_ask 30 = .ok (.getfield 10, 3) := by decide +kernel
theorem dX6_ask_33 : decode cX6_ask 33 = .ok (.getfield 188, 3) := by decide +kernel
theorem dX6_ask_36 : decode cX6_ask 36 = .ok (.iload_n 1, 1) := by decide +kernel
theorem dX6_ask_37 : decode cX6_ask 37 = .ok (.invokestatic 191, 3) := by decide +kernel
theorem dX6_ask_40 : decode cX6_ask 40 = .ok (.ireturn, 1) := by decide +kernel
set_option maxRecDepth 20000 in
theorem ggX6_tack_X0_isCell : GoodIn wsX6_tack wsX0_isCell := goodIn_r _ [4] (by decide +kernel) (by decide +kernel)
set_option maxRecDepth 20000 in
theorem gX6_tack_X0_isCell : GoodIn wsX6_tack (va_wsS RX6 52 yX0_isCell wsX0_isCell) := goodIn_app (goodIn_of _ (by decide +kernel)) ggX6_tack_X0_isCell
set_option maxRecDepth 20000 in
theorem ggX6_tack_X6_within : GoodIn wsX6_tack wsX6_within := goodIn_r _ [8] (by decide +kernel) (by decide +kernel)
set_option maxRecDepth 20000 in
theorem gX6_tack_X6_within : GoodIn wsX6_tack (va_wsS RX6 58 yX6_within wsX6_within) := goodIn_app (goodIn_of _ (by decide +kernel)) ggX6_tack_X6_within
set_option maxRecDepth 20000 in
theorem ggX6_tack_X0_tacksFrom : GoodIn wsX6_tack wsX0_tacksFrom := goodIn_r _ [11, 12, 13, 3, 14, 15, 16, 17] (by decide +kernel) (by decide +kernel)
set_option maxRecDepth 20000 in
theorem gX6_tack_X0_tacksFrom : GoodIn wsX6_tack (va_wsS RX6 195 yX0_tacksFrom wsX0_tacksFrom) := goodIn_app (goodIn_of _ (by decide +kernel)) ggX6_tack_X0_tacksFrom
set_option maxRecDepth 20000 in
theorem ggX6_tack_X0_cellsWhereTackingLoses : GoodIn wsX6_tack wsX0_cellsWhereTackingLoses := goodIn_r _ [20, 21, 22, 23, 24, 25, 26, 27, 28, 10, 3, 11, 12, 13, 14, 15, 16, 17] (by decide +kernel) (by decide +kernel)
set_option maxRecDepth 20000 in
theorem gX6_tack_X0_cellsWhereTackingLoses : GoodIn wsX6_tack (va_wsS RX6 198 yX0_cellsWhereTackingLoses wsX0_cellsWhereTackingLoses) := goodIn_app (goodIn_of _ (by decide +kernel)) ggX6_tack_X0_cellsWhereTackingLoses
set_option maxRecDepth 20000 in
theorem ggX6_tack_X0_least : GoodIn wsX6_tack wsX0_least := goodIn_r _ [31, 32, 33, 34, 35, 36, 37, 38] (by decide +kernel) (by decide +kernel)
set_option maxRecDepth 20000 in
theorem gX6_tack_X0_least : GoodIn wsX6_tack (va_wsS RX6 169 yX0_least wsX0_least) := goodIn_app (goodIn_of _ (by decide +kernel)) ggX6_tack_X0_least
theorem dX6_tack_0 : decode cX6_tack 0 = .ok (.iload_n 1, 1) := by decide +kernel
theorem dX6_tack_1 : decode cX6_tack 1 = .ok (.invokestatic 52, 3) := by decide +kernel
theorem dX6_tack_4 : decode cX6_tack 4 = .ok (.ifCond .ne 5, 3) := by decide +kernel
theorem dX6_tack_7 : decode cX6_tack 7 = .ok (.iconst (-1), 1) := by decide +kernel
theorem dX6_tack_8 : decode cX6_tack 8 = .ok (.ireturn, 1) := by decide +kernel
theorem dX6_tack_9 : decode cX6_tack 9 = .ok (.iload_n 2, 1) := by decide +kernel
theorem dX6_tack_10 : decode cX6_tack 10 = .ok (.iconst 0, 1) := by decide +kernel
theorem dX6_tack_11 : decode cX6_tack 11 = .ok (.iconst 1, 1) := by decide +kernel
theorem dX6_tack_12 : decode cX6_tack 12 = .ok (.invokestatic 58, 3) := by decide +kernel
theorem dX6_tack_15 : decode cX6_tack 15 = .ok (.ifCond .ne 6, 3) := by decide +kernel
theorem dX6_tack_18 : decode cX6_tack 18 = .ok (.bipush (-2), 2) := by decide +kernel
theorem dX6_tack_20 : decode cX6_tack 20 = .ok (.ireturn, 1) := by decide +kernel
theorem dX6_tack_21 : decode cX6_tack 21 = .ok (.iload_n 1, 1) := by decide +kernel
theorem dX6_tack_22 : decode cX6_tack 22 = .ok (.invokestatic 195, 3) := by decide +kernel
theorem dX6_tack_25 : decode cX6_tack 25 = .ok (.invokestatic 198, 3) := by decide +kernel
theorem dX6_tack_28 : decode cX6_tack 28 = .ok (.land, 1) := by decide +kernel
theorem dX6_tack_29 : decode cX6_tack 29 = .ok (.invokestatic 169, 3) := by decide +kernel
theorem dX6_tack_32 : decode cX6_tack 32 = .ok (.istore_n 3, 1) := by decide +kernel
theorem dX6_tack_33 : decode cX6_tack 33 = .ok (.iload_n 2, 1) := by decide +kernel
theorem dX6_tack_34 : decode cX6_tack 34 = .ok (.iconst 1, 1) := by decide +kernel
theorem dX6_tack_35 : decode cX6_tack 35 = .ok (.if_icmp .ne 5, 3) := by decide +kernel
theorem dX6_tack_38 : decode cX6_tack 38 = .ok (.iload_n 3, 1) := by decide +kernel
theorem dX6_tack_39 : decode cX6_tack 39 = .ok (.ireturn, 1) := by decide +kernel
theorem dX6_tack_40 : decode cX6_tack 40 = .ok (.iload_n 3, 1) := by decide +kernel
theorem dX6_tack_41 : decode cX6_tack 41 = .ok (.bipush (-6), 2) := by decide +kernel
theorem dX6_tack_43 : decode cX6_tack 43 = .ok (.if_icmp .ne 7, 3) := by decide +kernel
theorem dX6_tack_46 : decode cX6_tack 46 = .ok (.iconst 0, 1) := by decide +kernel
theorem dX6_tack_47 : decode cX6_tack 47 = .ok (.goto 4, 3) := by decide +kernel
theorem dX6_tack_50 : decode cX6_tack 50 = .ok (.iconst 1, 1) := by decide +kernel
theorem dX6_tack_51 : decode cX6_tack 51 = .ok (.ireturn, 1) := by decide +kernel
set_option maxRecDepth 20000 in
theorem ggX6_first_X6_within : GoodIn wsX6_first wsX6_within := goodIn_r _ [6] (by decide +kernel) (by decide +kernel)
set_option maxRecDepth 20000 in
theorem gX6_first_X6_within : GoodIn wsX6_first (va_wsS RX6 58 yX6_within wsX6_within) := goodIn_app (goodIn_of _ (by decide +kernel)) ggX6_first_X6_within
set_option maxRecDepth 20000 in
theorem ggX6_first_X1_watchByTurns : GoodIn wsX6_first wsX1_watchByTurns := goodIn_r _ [11, 12, 13, 14, 15, 16, 34, 35, 36, 37] (by decide +kernel) (by decide +kernel)
set_option maxRecDepth 20000 in
theorem gX6_first_X1_watchByTurns : GoodIn wsX6_first (wsV RX6 203 RX1 yX1_watchByTurns wsX1_watchByTurns) := goodIn_app (goodIn_of _ (by decide +kernel)) ggX6_first_X1_watchByTurns
set_option maxRecDepth 20000 in
theorem ggX6_first_X1_chance : GoodIn wsX6_first wsX1_chance := goodIn_r _ [20, 12, 13, 14, 21, 22, 23, 10, 24, 15, 25, 26, 34, 35, 36, 37] (by decide +kernel) (by decide +kernel)
set_option maxRecDepth 20000 in
theorem gX6_first_X1_chance : GoodIn wsX6_first (wsV RX6 207 RX1 yX1_chance wsX1_chance) := goodIn_app (goodIn_of _ (by decide +kernel)) ggX6_first_X1_chance
theorem dX6_first_0 : decode cX6_first 0 = .ok (.iload_n 1, 1) := by decide +kernel
theorem dX6_first_1 : decode cX6_first 1 = .ok (.iconst 0, 1) := by decide +kernel
theorem dX6_first_2 : decode cX6_first 2 = .ok (.bipush 10, 2) := by decide +kernel
theorem dX6_first_4 : decode cX6_first 4 = .ok (.invokestatic 58, 3) := by decide +kernel
theorem dX6_first_7 : decode cX6_first 7 = .ok (.ifCond .eq 23, 3) := by decide +kernel
theorem dX6_first_10 : decode cX6_first 10 = .ok (.iload_n 2, 1) := by decide +kernel
theorem dX6_first_11 : decode cX6_first 11 = .ok (.iconst 0, 1) := by decide +kernel
theorem dX6_first_12 : decode cX6_first 12 = .ok (.bipush 10, 2) := by decide +kernel
theorem dX6_first_14 : decode cX6_first 14 = .ok (.invokestatic 58, 3) := by decide +kernel
theorem dX6_first_17 : decode cX6_first 17 = .ok (.ifCond .eq 13, 3) := by decide +kernel
theorem dX6_first_20 : decode cX6_first 20 = .ok (.iload_n 3, 1) := by decide +kernel
theorem dX6_first_21 : decode cX6_first 21 = .ok (.iconst 0, 1) := by decide +kernel
theorem dX6_first_22 : decode cX6_first 22 = .ok (.bipush 16, 2) := by decide +kernel
theorem dX6_first_24 : decode cX6_first 24 = .ok (.invokestatic 58, 3) := by decide +kernel
theorem dX6_first_27 : decode cX6_first 27 = .ok (.ifCond .ne 7, 3) := by decide +kernel
theorem dX6_first_30 : decode cX6_first 30 = .ok (.ldc2_w 201, 3) := by decide +kernel
theorem dX6_first_33 : decode cX6_first 33 = .ok (.lreturn, 1) := by decide +kernel
theorem dX6_first_34 : decode cX6_first 34 = .ok (.iload 4, 2) := by decide +kernel
theorem dX6_first_36 : decode cX6_first 36 = .ok (.iconst 0, 1) := by decide +kernel
theorem dX6_first_37 : decode cX6_first 37 = .ok (.iconst 2, 1) := by decide +kernel
theorem dX6_first_38 : decode cX6_first 38 = .ok (.invokestatic 58, 3) := by decide +kernel
theorem dX6_first_41 : decode cX6_first 41 = .ok (.ifCond .eq 13, 3) := by decide +kernel
theorem dX6_first_44 : decode cX6_first 44 = .ok (.iload 5, 2) := by decide +kernel
theorem dX6_first_46 : decode cX6_first 46 = .ok (.iconst 0, 1) := by decide +kernel
theorem dX6_first_47 : decode cX6_first 47 = .ok (.iconst 1, 1) := by decide +kernel
theorem dX6_first_48 : decode cX6_first 48 = .ok (.invokestatic 58, 3) := by decide +kernel
theorem dX6_first_51 : decode cX6_first 51 = .ok (.ifCond .ne 7, 3) := by decide +kernel
theorem dX6_first_54 : decode cX6_first 54 = .ok (.ldc2_w 201, 3) := by decide +kernel
theorem dX6_first_57 : decode cX6_first 57 = .ok (.lreturn, 1) := by decide +kernel
theorem dX6_first_58 : decode cX6_first 58 = .ok (.aload_n 0, 1) := by decide +kernel
theorem dX6_first_59 : decode cX6_first 59 = .ok (.getfield 40, 3) := by decide +kernel
theorem dX6_first_62 : decode cX6_first 62 = .ok (.iload_n 1, 1) := by decide +kernel
theorem dX6_first_63 : decode cX6_first 63 = .ok (.iload_n 2, 1) := by decide +kernel
theorem dX6_first_64 : decode cX6_first 64 = .ok (.iload_n 3, 1) := by decide +kernel
theorem dX6_first_65 : decode cX6_first 65 = .ok (.invokevirtual 203, 3) := by decide +kernel
theorem dX6_first_68 : decode cX6_first 68 = .ok (.aload_n 0, 1) := by decide +kernel
theorem dX6_first_69 : decode cX6_first 69 = .ok (.getfield 40, 3) := by decide +kernel
theorem dX6_first_72 : decode cX6_first 72 = .ok (.iload 4, 2) := by decide +kernel
theorem dX6_first_74 : decode cX6_first 74 = .ok (.iload 5, 2) := by decide +kernel
theorem dX6_first_76 : decode cX6_first 76 = .ok (.invokevirtual 207, 3) := by decide +kernel
theorem dX6_first_79 : decode cX6_first 79 = .ok (.lreturn, 1) := by decide +kernel
set_option maxRecDepth 20000 in
theorem ggX6_year_X6_within : GoodIn wsX6_year wsX6_within := goodIn_r _ [10] (by decide +kernel) (by decide +kernel)
set_option maxRecDepth 20000 in
theorem gX6_year_X6_within : GoodIn wsX6_year (va_wsS RX6 58 yX6_within wsX6_within) := goodIn_app (goodIn_of _ (by decide +kernel)) ggX6_year_X6_within
set_option maxRecDepth 20000 in
theorem ggX6_year_X5_sailByDraws : GoodIn wsX6_year wsX5_sailByDraws := goodIn_r _ [15, 16, 17, 18, 19, 14, 20, 21, 22, 23, 24, 25, 26, 27, 28, 29, 30, 31, 32, 33, 34, 35, 36, 37, 38, 39, 40, 41, 42, 43, 44, 45, 46, 47, 48, 49, 50, 51, 52, 53, 54, 55, 56, 57, 58, 59, 60, 61, 62, 63, 64, 65, 66, 67, 68, 69, 70, 71, 72, 73, 74, 75, 76, 77, 78, 79, 80, 81, 82, 83, 84, 85, 86, 87, 88, 89, 90, 91, 92, 93, 94, 95, 96, 97, 98, 99, 100, 101, 102, 103, 104, 105, 106, 107, 108, 109, 110, 111, 112, 113, 114, 115, 116, 124, 125, 126, 127, 128, 129, 130, 131, 132, 133, 134, 135, 136, 137, 138, 139, 140, 141] (by decide +kernel) (by decide +kernel)
set_option maxRecDepth 20000 in
theorem gX6_year_X5_sailByDraws : GoodIn wsX6_year (wsV RX6 210 RX5 yX5_sailByDraws wsX5_sailByDraws) := goodIn_app (goodIn_of _ (by decide +kernel)) ggX6_year_X5_sailByDraws
theorem dX6_year_0 : decode cX6_year 0 = .ok (.iload_n 1, 1) := by decide +kernel
theorem dX6_year_1 : decode cX6_year 1 = .ok (.iconst 0, 1) := by decide +kernel
theorem dX6_year_2 : decode cX6_year 2 = .ok (.sipush 9999, 3) := by decide +kernel
theorem dX6_year_5 : decode cX6_year 5 = .ok (.invokestatic 58, 3) := by decide +kernel
theorem dX6_year_8 : decode cX6_year 8 = .ok (.ifCond .eq 22, 3) := by decide +kernel
theorem dX6_year_11 : decode cX6_year 11 = .ok (.iload_n 2, 1) := by decide +kernel
theorem dX6_year_12 : decode cX6_year 12 = .ok (.iconst 1, 1) := by decide +kernel
theorem dX6_year_13 : decode cX6_year 13 = .ok (.bipush 99, 2) := by decide +kernel
theorem dX6_year_15 : decode cX6_year 15 = .ok (.invokestatic 58, 3) := by decide +kernel
theorem dX6_year_18 : decode cX6_year 18 = .ok (.ifCond .eq 12, 3) := by decide +kernel
theorem dX6_year_21 : decode cX6_year 21 = .ok (.iload_n 3, 1) := by decide +kernel
theorem dX6_year_22 : decode cX6_year 22 = .ok (.iconst 0, 1) := by decide +kernel
theorem dX6_year_23 : decode cX6_year 23 = .ok (.iconst 2, 1) := by decide +kernel
theorem dX6_year_24 : decode cX6_year 24 = .ok (.invokestatic 58, 3) := by decide +kernel
theorem dX6_year_27 : decode cX6_year 27 = .ok (.ifCond .ne 6, 3) := by decide +kernel
theorem dX6_year_30 : decode cX6_year 30 = .ok (.bipush (-2), 2) := by decide +kernel
theorem dX6_year_32 : decode cX6_year 32 = .ok (.ireturn, 1) := by decide +kernel
theorem dX6_year_33 : decode cX6_year 33 = .ok (.aload_n 0, 1) := by decide +kernel
theorem dX6_year_34 : decode cX6_year 34 = .ok (.getfield 26, 3) := by decide +kernel
theorem dX6_year_37 : decode cX6_year 37 = .ok (.aload_n 0, 1) := by decide +kernel
theorem dX6_year_38 : decode cX6_year 38 = .ok (.getfield 10, 3) := by decide +kernel
theorem dX6_year_41 : decode cX6_year 41 = .ok (.iload_n 1, 1) := by decide +kernel
theorem dX6_year_42 : decode cX6_year 42 = .ok (.iload_n 2, 1) := by decide +kernel
theorem dX6_year_43 : decode cX6_year 43 = .ok (.invokevirtual 210, 3) := by decide +kernel
theorem dX6_year_46 : decode cX6_year 46 = .ok (.iload_n 3, 1) := by decide +kernel
theorem dX6_year_47 : decode cX6_year 47 = .ok (.lookupswitch 47 #[(0, 25), (1, 36)], 25) := by decide +kernel
theorem dX6_year_72 : decode cX6_year 72 = .ok (.aload_n 0, 1) := by decide +kernel
theorem dX6_year_73 : decode cX6_year 73 = .ok (.getfield 26, 3) := by decide +kernel
theorem dX6_year_76 : decode cX6_year 76 = .ok (.getfield 125, 3) := by decide +kernel
theorem dX6_year_79 : decode cX6_year 79 = .ok (.getfield 62, 3) := by decide +kernel
theorem dX6_year_82 : decode cX6_year 82 = .ok (.ireturn, 1) := by decide +kernel
theorem dX6_year_83 : decode cX6_year 83 = .ok (.aload_n 0, 1) := by decide +kernel
theorem dX6_year_84 : decode cX6_year 84 = .ok (.getfield 26, 3) := by decide +kernel
theorem dX6_year_87 : decode cX6_year 87 = .ok (.getfield 125, 3) := by decide +kernel
theorem dX6_year_90 : decode cX6_year 90 = .ok (.getfield 85, 3) := by decide +kernel
theorem dX6_year_93 : decode cX6_year 93 = .ok (.ireturn, 1) := by decide +kernel
theorem dX6_year_94 : decode cX6_year 94 = .ok (.aload_n 0, 1) := by decide +kernel
theorem dX6_year_95 : decode cX6_year 95 = .ok (.getfield 26, 3) := by decide +kernel
theorem dX6_year_98 : decode cX6_year 98 = .ok (.getfield 214, 3) := by decide +kernel
theorem dX6_year_101 : decode cX6_year 101 = .ok (.ireturn, 1) := by decide +kernel
set_option maxRecDepth 20000 in
theorem ggX6_image_X6_isImage : GoodIn wsX6_image wsX6_isImage := goodIn_r _ [8, 1, 3, 24, 25, 26, 27, 28, 29, 30] (by decide +kernel) (by decide +kernel)
set_option maxRecDepth 20000 in
theorem gX6_image_X6_isImage : GoodIn wsX6_image (wsV RX6 217 RX6 yX6_isImage wsX6_isImage) := goodIn_app (goodIn_of _ (by decide +kernel)) ggX6_image_X6_isImage
set_option maxRecDepth 20000 in
theorem ggX6_image_X4_takeOver : GoodIn wsX6_image wsX4_takeOver := goodIn_r _ [13, 14, 15, 16, 17, 18, 19, 20, 21, 22, 23, 31, 32, 33, 34, 35, 36, 37, 38, 39, 40] (by decide +kernel) (by decide +kernel)
set_option maxRecDepth 20000 in
theorem gX6_image_X4_takeOver : GoodIn wsX6_image (wsV RX6 151 RX4 yX4_takeOver wsX4_takeOver) := goodIn_app (goodIn_of _ (by decide +kernel)) ggX6_image_X4_takeOver
theorem dX6_image_0 : decode cX6_image 0 = .ok (.aload_n 0, 1) := by decide +kernel
theorem dX6_image_1 : decode cX6_image 1 = .ok (.iload_n 1, 1) := by decide +kernel
theorem dX6_image_2 : decode cX6_image 2 = .ok (.invokevirtual 217, 3) := by decide +kernel
theorem dX6_image_5 : decode cX6_image 5 = .ok (.ifCond .ne 6, 3) := by decide +kernel
theorem dX6_image_8 : decode cX6_image 8 = .ok (.bipush (-2), 2) := by decide +kernel
theorem dX6_image_10 : decode cX6_image 10 = .ok (.ireturn, 1) := by decide +kernel
theorem dX6_image_11 : decode cX6_image 11 = .ok (.aload_n 0, 1) := by decide +kernel
theorem dX6_image_12 : decode cX6_image 12 = .ok (.getfield 44, 3) := by decide +kernel
theorem dX6_image_15 : decode cX6_image 15 = .ok (.iload_n 1, 1) := by decide +kernel
theorem dX6_image_16 : decode cX6_image 16 = .ok (.aaload, 1) := by decide +kernel
theorem dX6_image_17 : decode cX6_image 17 = .ok (.aload_n 0, 1) := by decide +kernel
theorem dX6_image_18 : decode cX6_image 18 = .ok (.getfield 10, 3) := by decide +kernel
theorem dX6_image_21 : decode cX6_image 21 = .ok (.invokevirtual 151, 3) := by decide +kernel
theorem dX6_image_24 : decode cX6_image 24 = .ok (.aload_n 0, 1) := by decide +kernel
theorem dX6_image_25 : decode cX6_image 25 = .ok (.getfield 48, 3) := by decide +kernel
theorem dX6_image_28 : decode cX6_image 28 = .ok (.iload_n 1, 1) := by decide +kernel
theorem dX6_image_29 : decode cX6_image 29 = .ok (.iconst 1, 1) := by decide +kernel
theorem dX6_image_30 : decode cX6_image 30 = .ok (.bastore, 1) := by decide +kernel
theorem dX6_image_31 : decode cX6_image 31 = .ok (.iconst 1, 1) := by decide +kernel
theorem dX6_image_32 : decode cX6_image 32 = .ok (.ireturn, 1) := by decide +kernel
set_option maxRecDepth 20000 in
theorem ggX6_restore_X6_isImage : GoodIn wsX6_restore wsX6_isImage := goodIn_r _ [8, 3, 1, 24, 25, 26, 27, 28, 29, 30] (by decide +kernel) (by decide +kernel)
set_option maxRecDepth 20000 in
theorem gX6_restore_X6_isImage : GoodIn wsX6_restore (wsV RX6 217 RX6 yX6_isImage wsX6_isImage) := goodIn_app (goodIn_of _ (by decide +kernel)) ggX6_restore_X6_isImage
set_option maxRecDepth 20000 in
theorem ggX6_restore_X4_takeOver : GoodIn wsX6_restore wsX4_takeOver := goodIn_r _ [13, 14, 15, 16, 17, 18, 19, 20, 21, 22, 23, 31, 32, 33, 34, 35, 36, 37, 38, 39, 40] (by decide +kernel) (by decide +kernel)
set_option maxRecDepth 20000 in
theorem gX6_restore_X4_takeOver : GoodIn wsX6_restore (wsV RX6 151 RX4 yX4_takeOver wsX4_takeOver) := goodIn_app (goodIn_of _ (by decide +kernel)) ggX6_restore_X4_takeOver
theorem dX6_restore_0 : decode cX6_restore 0 = .ok (.aload_n 0, 1) := by decide +kernel
theorem dX6_restore_1 : decode cX6_restore 1 = .ok (.iload_n 1, 1) := by decide +kernel
theorem dX6_restore_2 : decode cX6_restore 2 = .ok (.invokevirtual 217, 3) := by decide +kernel
theorem dX6_restore_5 : decode cX6_restore 5 = .ok (.ifCond .ne 6, 3) := by decide +kernel
theorem dX6_restore_8 : decode cX6_restore 8 = .ok (.bipush (-2), 2) := by decide +kernel
theorem dX6_restore_10 : decode cX6_restore 10 = .ok (.ireturn, 1) := by decide +kernel
theorem dX6_restore_11 : decode cX6_restore 11 = .ok (.aload_n 0, 1) := by decide +kernel
theorem dX6_restore_12 : decode cX6_restore 12 = .ok (.getfield 48, 3) := by decide +kernel
theorem dX6_restore_15 : decode cX6_restore 15 = .ok (.iload_n 1, 1) := by decide +kernel
theorem dX6_restore_16 : decode cX6_restore 16 = .ok (.baload, 1) := by decide +kernel
theorem dX6_restore_17 : decode cX6_restore 17 = .ok (.ifCond .ne 6, 3) := by decide +kernel
theorem dX6_restore_20 : decode cX6_restore 20 = .ok (.bipush (-3), 2) := by decide +kernel
theorem dX6_restore_22 : decode cX6_restore 22 = .ok (.ireturn, 1) := by decide +kernel
theorem dX6_restore_23 : decode cX6_restore 23 = .ok (.aload_n 0, 1) := by decide +kernel
theorem dX6_restore_24 : decode cX6_restore 24 = .ok (.getfield 10, 3) := by decide +kernel
theorem dX6_restore_27 : decode cX6_restore 27 = .ok (.aload_n 0, 1) := by decide +kernel
theorem dX6_restore_28 : decode cX6_restore 28 = .ok (.getfield 44, 3) := by decide +kernel
theorem dX6_restore_31 : decode cX6_restore 31 = .ok (.iload_n 1, 1) := by decide +kernel
theorem dX6_restore_32 : decode cX6_restore 32 = .ok (.aaload, 1) := by decide +kernel
theorem dX6_restore_33 : decode cX6_restore 33 = .ok (.invokevirtual 151, 3) := by decide +kernel
theorem dX6_restore_36 : decode cX6_restore 36 = .ok (.iconst 1, 1) := by decide +kernel
theorem dX6_restore_37 : decode cX6_restore 37 = .ok (.ireturn, 1) := by decide +kernel
set_option maxRecDepth 20000 in
theorem ggX6_told_X6_within : GoodIn wsX6_told wsX6_within := goodIn_r _ [9] (by decide +kernel) (by decide +kernel)
set_option maxRecDepth 20000 in
theorem gX6_told_X6_within : GoodIn wsX6_told (va_wsS RX6 58 yX6_within wsX6_within) := goodIn_app (goodIn_of _ (by decide +kernel)) ggX6_told_X6_within
set_option maxRecDepth 20000 in
theorem ggX6_told_X6_shipAndWatch : GoodIn wsX6_told wsX6_shipAndWatch := goodIn_r _ [12, 13, 14, 15, 16, 17, 18, 57, 58, 59, 60, 61, 62, 63, 64, 65, 66] (by decide +kernel) (by decide +kernel)
set_option maxRecDepth 20000 in
theorem gX6_told_X6_shipAndWatch : GoodIn wsX6_told (va_wsS RX6 128 yX6_shipAndWatch wsX6_shipAndWatch) := goodIn_app (goodIn_of _ (by decide +kernel)) ggX6_told_X6_shipAndWatch
set_option maxRecDepth 20000 in
theorem ggX6_told_X4_isWatcher : GoodIn wsX6_told wsX4_isWatcher := goodIn_r _ [23, 24, 57, 58, 59, 60, 61, 62, 63, 64, 65, 66] (by decide +kernel) (by decide +kernel)
set_option maxRecDepth 20000 in
theorem gX6_told_X4_isWatcher : GoodIn wsX6_told (wsV RX6 88 RX4 yX4_isWatcher wsX4_isWatcher) := goodIn_app (goodIn_of _ (by decide +kernel)) ggX6_told_X4_isWatcher
set_option maxRecDepth 20000 in
theorem ggX6_told_X4_eyesOf : GoodIn wsX6_told wsX4_eyesOf := goodIn_r _ [28, 24, 57, 58, 59, 60, 61, 62, 63, 64, 65, 66] (by decide +kernel) (by decide +kernel)
set_option maxRecDepth 20000 in
theorem gX6_told_X4_eyesOf : GoodIn wsX6_told (wsV RX6 91 RX4 yX4_eyesOf wsX4_eyesOf) := goodIn_app (goodIn_of _ (by decide +kernel)) ggX6_told_X4_eyesOf
set_option maxRecDepth 20000 in
theorem ggX6_told_X0_isCell : GoodIn wsX6_told wsX0_isCell := goodIn_r _ [32] (by decide +kernel) (by decide +kernel)
set_option maxRecDepth 20000 in
theorem gX6_told_X0_isCell : GoodIn wsX6_told (va_wsS RX6 52 yX0_isCell wsX0_isCell) := goodIn_app (goodIn_of _ (by decide +kernel)) ggX6_told_X0_isCell
set_option maxRecDepth 20000 in
theorem ggX6_told_X4_isLand : GoodIn wsX6_told wsX4_isLand := goodIn_r _ [36, 37, 38, 39, 31, 40, 57, 58, 59, 60, 61, 62, 63, 64, 65, 66] (by decide +kernel) (by decide +kernel)
set_option maxRecDepth 20000 in
theorem gX6_told_X4_isLand : GoodIn wsX6_told (wsV RX6 82 RX4 yX4_isLand wsX4_isLand) := goodIn_app (goodIn_of _ (by decide +kernel)) ggX6_told_X4_isLand
set_option maxRecDepth 20000 in
theorem ggX6_told_J13_bitCount_95d88 : GoodIn wsX6_told wsJ13_bitCount_95d88 := goodIn_r _ [44, 45, 46, 47] (by decide +kernel) (by decide +kernel)
set_option maxRecDepth 20000 in
theorem gX6_told_J13_bitCount_95d88 : GoodIn wsX6_told (va_wsS RX6 76 yJ13_bitCount_95d88 wsJ13_bitCount_95d88) := goodIn_app (goodIn_of _ (by decide +kernel)) ggX6_told_J13_bitCount_95d88
theorem dX6_told_0 : decode cX6_told 0 = .ok (.iload_n 1, 1) := by decide +kernel
theorem dX6_told_1 : decode cX6_told 1 = .ok (.iconst 2, 1) := by decide +kernel
theorem dX6_told_2 : decode cX6_told 2 = .ok (.bipush 7, 2) := by decide +kernel
theorem dX6_told_4 : decode cX6_told 4 = .ok (.invokestatic 58, 3) := by decide +kernel
theorem dX6_told_7 : decode cX6_told 7 = .ok (.ifCond .eq 14, 3) := by decide +kernel
theorem dX6_told_10 : decode cX6_told 10 = .ok (.aload_n 0, 1) := by decide +kernel
theorem dX6_told_11 : decode cX6_told 11 = .ok (.getfield 10, 3) := by decide +kernel
theorem dX6_told_14 : decode cX6_told 14 = .ok (.iload_n 1, 1) := by decide +kernel
theorem dX6_told_15 : decode cX6_told 15 = .ok (.iconst 2, 1) := by decide +kernel
theorem dX6_told_16 : decode cX6_told 16 = .ok (.isub, 1) := by decide +kernel
theorem dX6_told_17 : decode cX6_told 17 = .ok (.invokestatic 128, 3) := by decide +kernel
theorem dX6_told_20 : decode cX6_told 20 = .ok (.ireturn, 1) := by decide +kernel
theorem dX6_told_21 : decode cX6_told 21 = .ok (.aload_n 0, 1) := by decide +kernel
theorem dX6_told_22 : decode cX6_told 22 = .ok (.getfield 10, 3) := by decide +kernel
theorem dX6_told_25 : decode cX6_told 25 = .ok (.iload_n 1, 1) := by decide +kernel
theorem dX6_told_26 : decode cX6_told 26 = .ok (.bipush 10, 2) := by decide +kernel
theorem dX6_told_28 : decode cX6_told 28 = .ok (.isub, 1) := by decide +kernel
theorem dX6_told_29 : decode cX6_told 29 = .ok (.invokevirtual 88, 3) := by decide +kernel
theorem dX6_told_32 : decode cX6_told 32 = .ok (.ifCond .eq 15, 3) := by decide +kernel
theorem dX6_told_35 : decode cX6_told 35 = .ok (.aload_n 0, 1) := by decide +kernel
theorem dX6_told_36 : decode cX6_told 36 = .ok (.getfield 10, 3) := by decide +kernel
theorem dX6_told_39 : decode cX6_told 39 = .ok (.iload_n 1, 1) := by decide +kernel
theorem dX6_told_40 : decode cX6_told 40 = .ok (.bipush 10, 2) := by decide +kernel
theorem dX6_told_42 : decode cX6_told 42 = .ok (.isub, 1) := by decide +kernel
theorem dX6_told_43 : decode cX6_told 43 = .ok (.invokevirtual 91, 3) := by decide +kernel
theorem dX6_told_46 : decode cX6_told 46 = .ok (.ireturn, 1) := by decide +kernel
theorem dX6_told_47 : decode cX6_told 47 = .ok (.iload_n 1, 1) := by decide +kernel
theorem dX6_told_48 : decode cX6_told 48 = .ok (.bipush 100, 2) := by decide +kernel
theorem dX6_told_50 : decode cX6_told 50 = .ok (.isub, 1) := by decide +kernel
theorem dX6_told_51 : decode cX6_told 51 = .ok (.invokestatic 52, 3) := by decide +kernel
theorem dX6_told_54 : decode cX6_told 54 = .ok (.ifCond .eq 23, 3) := by decide +kernel
theorem dX6_told_57 : decode cX6_told 57 = .ok (.aload_n 0, 1) := by decide +kernel
theorem dX6_told_58 : decode cX6_told 58 = .ok (.getfield 10, 3) := by decide +kernel
theorem dX6_told_61 : decode cX6_told 61 = .ok (.iload_n 1, 1) := by decide +kernel
theorem dX6_told_62 : decode cX6_told 62 = .ok (.bipush 100, 2) := by decide +kernel
theorem dX6_told_64 : decode cX6_told 64 = .ok (.isub, 1) := by decide +kernel
theorem dX6_told_65 : decode cX6_told 65 = .ok (.invokevirtual 82, 3) := by decide +kernel
theorem dX6_told_68 : decode cX6_told 68 = .ok (.ifCond .eq 7, 3) := by decide +kernel
theorem dX6_told_71 : decode cX6_told 71 = .ok (.iconst 1, 1) := by decide +kernel
theorem dX6_told_72 : decode cX6_told 72 = .ok (.goto 4, 3) := by decide +kernel
theorem dX6_told_75 : decode cX6_told 75 = .ok (.iconst 0, 1) := by decide +kernel
theorem dX6_told_76 : decode cX6_told 76 = .ok (.ireturn, 1) := by decide +kernel
theorem dX6_told_77 : decode cX6_told 77 = .ok (.iload_n 1, 1) := by decide +kernel
theorem dX6_told_78 : decode cX6_told 78 = .ok (.lookupswitch 61 #[(0, 34), (1, 42), (8, 53)], 34) := by decide +kernel
theorem dX6_told_112 : decode cX6_told 112 = .ok (.aload_n 0, 1) := by decide +kernel
theorem dX6_told_113 : decode cX6_told 113 = .ok (.getfield 19, 3) := by decide +kernel
theorem dX6_told_116 : decode cX6_told 116 = .ok (.getfield 105, 3) := by decide +kernel
theorem dX6_told_119 : decode cX6_told 119 = .ok (.ireturn, 1) := by decide +kernel
theorem dX6_told_120 : decode cX6_told 120 = .ok (.aload_n 0, 1) := by decide +kernel
theorem dX6_told_121 : decode cX6_told 121 = .ok (.getfield 10, 3) := by decide +kernel
theorem dX6_told_124 : decode cX6_told 124 = .ok (.getfield 70, 3) := by decide +kernel
theorem dX6_told_127 : decode cX6_told 127 = .ok (.invokestatic 76, 3) := by decide +kernel
theorem dX6_told_130 : decode cX6_told 130 = .ok (.ireturn, 1) := by decide +kernel
theorem dX6_told_131 : decode cX6_told 131 = .ok (.aload_n 0, 1) := by decide +kernel
theorem dX6_told_132 : decode cX6_told 132 = .ok (.getfield 10, 3) := by decide +kernel
theorem dX6_told_135 : decode cX6_told 135 = .ok (.getfield 182, 3) := by decide +kernel
theorem dX6_told_138 : decode cX6_told 138 = .ok (.ireturn, 1) := by decide +kernel
theorem dX6_told_139 : decode cX6_told 139 = .ok (.bipush (-2), 2) := by decide +kernel
theorem dX6_told_141 : decode cX6_told 141 = .ok (.ireturn, 1) := by decide +kernel
theorem dX6_within_0 : decode cX6_within 0 = .ok (.iload_n 0, 1) := by decide +kernel
theorem dX6_within_1 : decode cX6_within 1 = .ok (.iload_n 1, 1) := by decide +kernel
theorem dX6_within_2 : decode cX6_within 2 = .ok (.if_icmp .lt 12, 3) := by decide +kernel
theorem dX6_within_5 : decode cX6_within 5 = .ok (.iload_n 0, 1) := by decide +kernel
theorem dX6_within_6 : decode cX6_within 6 = .ok (.iload_n 2, 1) := by decide +kernel
theorem dX6_within_7 : decode cX6_within 7 = .ok (.if_icmp .gt 7, 3) := by decide +kernel
theorem dX6_within_10 : decode cX6_within 10 = .ok (.iconst 1, 1) := by decide +kernel
theorem dX6_within_11 : decode cX6_within 11 = .ok (.goto 4, 3) := by decide +kernel
theorem dX6_within_14 : decode cX6_within 14 = .ok (.iconst 0, 1) := by decide +kernel
theorem dX6_within_15 : decode cX6_within 15 = .ok (.ireturn, 1) := by decide +kernel
theorem dX6_isImage_0 : decode cX6_isImage 0 = .ok (.iload_n 1, 1) := by decide +kernel
theorem dX6_isImage_1 : decode cX6_isImage 1 = .ok (.ifCond .lt 34, 3) := by decide +kernel
theorem dX6_isImage_4 : decode cX6_isImage 4 = .ok (.iload_n 1, 1) := by decide +kernel
theorem dX6_isImage_5 : decode cX6_isImage 5 = .ok (.aload_n 0, 1) := by decide +kernel
theorem dX6_isImage_6 : decode cX6_isImage 6 = .ok (.getfield 44, 3) := by decide +kernel
theorem dX6_isImage_9 : decode cX6_isImage 9 = .ok (.arraylength, 1) := by decide +kernel
theorem dX6_isImage_10 : decode cX6_isImage 10 = .ok (.if_icmp .ge 25, 3) := by decide +kernel
theorem dX6_isImage_13 : decode cX6_isImage 13 = .ok (.iload_n 1, 1) := by decide +kernel
theorem dX6_isImage_14 : decode cX6_isImage 14 = .ok (.aload_n 0, 1) := by decide +kernel
theorem dX6_isImage_15 : decode cX6_isImage 15 = .ok (.getfield 48, 3) := by decide +kernel
theorem dX6_isImage_18 : decode cX6_isImage 18 = .ok (.arraylength, 1) := by decide +kernel
theorem dX6_isImage_19 : decode cX6_isImage 19 = .ok (.if_icmp .ge 16, 3) := by decide +kernel
theorem dX6_isImage_22 : decode cX6_isImage 22 = .ok (.aload_n 0, 1) := by decide +kernel
theorem dX6_isImage_23 : decode cX6_isImage 23 = .ok (.getfield 44, 3) := by decide +kernel
theorem dX6_isImage_26 : decode cX6_isImage 26 = .ok (.iload_n 1, 1) := by decide +kernel
theorem dX6_isImage_27 : decode cX6_isImage 27 = .ok (.aaload, 1) := by decide +kernel
theorem dX6_isImage_28 : decode cX6_isImage 28 = .ok (.ifnull 7, 3) := by decide +kernel
theorem dX6_isImage_31 : decode cX6_isImage 31 = .ok (.iconst 1, 1) := by decide +kernel
theorem dX6_isImage_32 : decode cX6_isImage 32 = .ok (.goto 4, 3) := by decide +kernel
theorem dX6_isImage_35 : decode cX6_isImage 35 = .ok (.iconst 0, 1) := by decide +kernel
theorem dX6_isImage_36 : decode cX6_isImage 36 = .ok (.ireturn, 1) := by decide +kernel
set_option maxRecDepth 20000 in
theorem ggX6_sailTheText_X6_within : GoodIn wsX6_sailTheText wsX6_within := goodIn_r _ [8] (by decide +kernel) (by decide +kernel)
set_option maxRecDepth 20000 in
theorem gX6_sailTheText_X6_within : GoodIn wsX6_sailTheText (va_wsS RX6 58 yX6_within wsX6_within) := goodIn_app (goodIn_of _ (by decide +kernel)) ggX6_sailTheText_X6_within
set_option maxRecDepth 20000 in
theorem ggX6_sailTheText_X2_firstFault : GoodIn wsX6_sailTheText wsX2_firstFault := goodIn_r _ [13, 14, 15, 16, 17, 12, 18, 19, 20, 21, 22, 23, 24, 25, 26, 27, 28, 29, 30, 31, 32, 33, 34, 35, 160, 161] (by decide +kernel) (by decide +kernel)
set_option maxRecDepth 20000 in
theorem gX6_sailTheText_X2_firstFault : GoodIn wsX6_sailTheText (wsV RX6 108 RX2 yX2_firstFault wsX2_firstFault) := goodIn_app (goodIn_of _ (by decide +kernel)) ggX6_sailTheText_X2_firstFault
set_option maxRecDepth 20000 in
theorem ggX6_sailTheText_X5_sailByText : GoodIn wsX6_sailTheText wsX5_sailByText := goodIn_r _ [40, 41, 42, 43, 44, 45, 46, 47, 39, 48, 49, 50, 51, 52, 53, 54, 55, 56, 57, 58, 59, 60, 61, 62, 63, 64, 65, 66, 67, 68, 69, 16, 17, 12, 18, 19, 20, 21, 22, 14, 23, 24, 25, 26, 27, 28, 29, 70, 71, 72, 73, 74, 75, 76, 77, 78, 79, 80, 81, 82, 83, 84, 85, 86, 87, 88, 89, 90, 91, 92, 93, 94, 95, 96, 97, 98, 99, 100, 101, 102, 103, 104, 105, 106, 107, 108, 109, 110, 111, 112, 113, 114, 115, 116, 117, 118, 119, 120, 121, 122, 123, 124, 125, 126, 127, 128, 129, 130, 131, 132, 133, 134, 135, 136, 137, 138, 139, 140, 141, 142, 143, 144, 34, 35, 160, 161, 152, 153, 154, 155, 156, 157, 158, 159, 162, 163, 164, 165, 166, 167, 168, 169, 170, 171] (by decide +kernel) (by decide +kernel)
set_option maxRecDepth 20000 in
theorem gX6_sailTheText_X5_sailByText : GoodIn wsX6_sailTheText (wsV RX6 220 RX5 yX5_sailByText wsX5_sailByText) := goodIn_app (goodIn_of _ (by decide +kernel)) ggX6_sailTheText_X5_sailByText
theorem dX6_sailTheText_0 : decode cX6_sailTheText 0 = .ok (.iload_n 1, 1) := by decide +kernel
theorem dX6_sailTheText_1 : decode cX6_sailTheText 1 = .ok (.iconst 0, 1) := by decide +kernel
theorem dX6_sailTheText_2 : decode cX6_sailTheText 2 = .ok (.iload_n 2, 1) := by decide +kernel
theorem dX6_sailTheText_3 : decode cX6_sailTheText 3 = .ok (.invokestatic 58, 3) := by decide +kernel
theorem dX6_sailTheText_6 : decode cX6_sailTheText 6 = .ok (.ifCond .ne 6, 3) := by decide +kernel
theorem dX6_sailTheText_9 : decode cX6_sailTheText 9 = .ok (.bipush (-2), 2) := by decide +kernel
theorem dX6_sailTheText_11 : decode cX6_sailTheText 11 = .ok (.ireturn, 1) := by decide +kernel
theorem dX6_sailTheText_12 : decode cX6_sailTheText 12 = .ok (.aload_n 0, 1) := by decide +kernel
theorem dX6_sailTheText_13 : decode cX6_sailTheText 13 = .ok (.getfield 19, 3) := by decide +kernel
theorem dX6_sailTheText_16 : decode cX6_sailTheText 16 = .ok (.invokevirtual 108, 3) := by decide +kernel
theorem dX6_sailTheText_19 : decode cX6_sailTheText 19 = .ok (.bipush (-6), 2) := by decide +kernel
theorem dX6_sailTheText_21 : decode cX6_sailTheText 21 = .ok (.if_icmp .eq 6, 3) := by decide +kernel
theorem dX6_sailTheText_24 : decode cX6_sailTheText 24 = .ok (.bipush (-5), 2) := by decide +kernel
theorem dX6_sailTheText_26 : decode cX6_sailTheText 26 = .ok (.ireturn, 1) := by decide +kernel
theorem dX6_sailTheText_27 : decode cX6_sailTheText 27 = .ok (.aload_n 0, 1) := by decide +kernel
theorem dX6_sailTheText_28 : decode cX6_sailTheText 28 = .ok (.getfield 26, 3) := by decide +kernel
theorem dX6_sailTheText_31 : decode cX6_sailTheText 31 = .ok (.aload_n 0, 1) := by decide +kernel
theorem dX6_sailTheText_32 : decode cX6_sailTheText 32 = .ok (.getfield 10, 3) := by decide +kernel
theorem dX6_sailTheText_35 : decode cX6_sailTheText 35 = .ok (.aload_n 0, 1) := by decide +kernel
theorem dX6_sailTheText_36 : decode cX6_sailTheText 36 = .ok (.getfield 19, 3) := by decide +kernel
theorem dX6_sailTheText_39 : decode cX6_sailTheText 39 = .ok (.invokevirtual 220, 3) := by decide +kernel
theorem dX6_sailTheText_42 : decode cX6_sailTheText 42 = .ok (.iload_n 3, 1) := by decide +kernel
theorem dX6_sailTheText_43 : decode cX6_sailTheText 43 = .ok (.ifCond .eq 20, 3) := by decide +kernel
theorem dX6_sailTheText_46 : decode cX6_sailTheText 46 = .ok (.aload_n 0, 1) := by decide +kernel
theorem dX6_sailTheText_47 : decode cX6_sailTheText 47 = .ok (.getfield 26, 3) := by decide +kernel
theorem dX6_sailTheText_50 : decode cX6_sailTheText 50 = .ok (.getfield 116, 3) := by decide +kernel
theorem dX6_sailTheText_53 : decode cX6_sailTheText 53 = .ok (.bipush (-6), 2) := by decide +kernel
theorem dX6_sailTheText_55 : decode cX6_sailTheText 55 = .ok (.if_icmp .eq 8, 3) := by decide +kernel
theorem dX6_sailTheText_58 : decode cX6_sailTheText 58 = .ok (.bipush (-3), 2) := by decide +kernel
theorem dX6_sailTheText_60 : decode cX6_sailTheText 60 = .ok (.goto 4, 3) := by decide +kernel
theorem dX6_sailTheText_63 : decode cX6_sailTheText 63 = .ok (.iconst 0, 1) := by decide +kernel
theorem dX6_sailTheText_64 : decode cX6_sailTheText 64 = .ok (.ireturn, 1) := by decide +kernel
theorem dX6_shipAndWatch_0 : decode cX6_shipAndWatch 0 = .ok (.iload_n 1, 1) := by decide +kernel
theorem dX6_shipAndWatch_1 : decode cX6_shipAndWatch 1 = .ok (.tableswitch 74 0 4 #[35, 40, 45, 50, 69], 35) := by decide +kernel
theorem dX6_shipAndWatch_36 : decode cX6_shipAndWatch 36 = .ok (.aload_n 0, 1) := by decide +kernel
theorem dX6_shipAndWatch_37 : decode cX6_shipAndWatch 37 = .ok (.getfield 62, 3) := by decide +kernel
theorem dX6_shipAndWatch_40 : decode cX6_shipAndWatch 40 = .ok (.ireturn, 1) := by decide +kernel
theorem dX6_shipAndWatch_41 : decode cX6_shipAndWatch 41 = .ok (.aload_n 0, 1) := by decide +kernel
theorem dX6_shipAndWatch_42 : decode cX6_shipAndWatch 42 = .ok (.getfield 85, 3) := by decide +kernel
theorem dX6_shipAndWatch_45 : decode cX6_shipAndWatch 45 = .ok (.ireturn, 1) := by decide +kernel
theorem dX6_shipAndWatch_46 : decode cX6_shipAndWatch 46 = .ok (.aload_n 0, 1) := by decide +kernel
theorem dX6_shipAndWatch_47 : decode cX6_shipAndWatch 47 = .ok (.getfield 132, 3) := by decide +kernel
theorem dX6_shipAndWatch_50 : decode cX6_shipAndWatch 50 = .ok (.ireturn, 1) := by decide +kernel
theorem dX6_shipAndWatch_51 : decode cX6_shipAndWatch 51 = .ok (.aload_n 0, 1) := by decide +kernel
theorem dX6_shipAndWatch_52 : decode cX6_shipAndWatch 52 = .ok (.getfield 132, 3) := by decide +kernel
theorem dX6_shipAndWatch_55 : decode cX6_shipAndWatch 55 = .ok (.bipush (-6), 2) := by decide +kernel
theorem dX6_shipAndWatch_57 : decode cX6_shipAndWatch 57 = .ok (.if_icmp .ne 8, 3) := by decide +kernel
theorem dX6_shipAndWatch_60 : decode cX6_shipAndWatch 60 = .ok (.bipush (-6), 2) := by decide +kernel
theorem dX6_shipAndWatch_62 : decode cX6_shipAndWatch 62 = .ok (.goto 7, 3) := by decide +kernel
theorem dX6_shipAndWatch_65 : decode cX6_shipAndWatch 65 = .ok (.aload_n 0, 1) := by decide +kernel
theorem dX6_shipAndWatch_66 : decode cX6_shipAndWatch 66 = .ok (.getfield 224, 3) := by decide +kernel
theorem dX6_shipAndWatch_69 : decode cX6_shipAndWatch 69 = .ok (.ireturn, 1) := by decide +kernel
theorem dX6_shipAndWatch_70 : decode cX6_shipAndWatch 70 = .ok (.aload_n 0, 1) := by decide +kernel
theorem dX6_shipAndWatch_71 : decode cX6_shipAndWatch 71 = .ok (.getfield 99, 3) := by decide +kernel
theorem dX6_shipAndWatch_74 : decode cX6_shipAndWatch 74 = .ok (.ireturn, 1) := by decide +kernel
theorem dX6_shipAndWatch_75 : decode cX6_shipAndWatch 75 = .ok (.aload_n 0, 1) := by decide +kernel
theorem dX6_shipAndWatch_76 : decode cX6_shipAndWatch 76 = .ok (.getfield 227, 3) := by decide +kernel
theorem dX6_shipAndWatch_79 : decode cX6_shipAndWatch 79 = .ok (.ireturn, 1) := by decide +kernel
set_option maxRecDepth 20000 in
theorem ggX6_fewestSteps_X4_isLand : GoodIn wsX6_fewestSteps wsX4_isLand := goodIn_r _ [8, 9, 10, 11, 12, 13, 44, 45, 46, 47, 48, 49, 50, 51, 52, 53] (by decide +kernel) (by decide +kernel)
set_option maxRecDepth 20000 in
theorem gX6_fewestSteps_X4_isLand : GoodIn wsX6_fewestSteps (wsV RX6 82 RX4 yX4_isLand wsX4_isLand) := goodIn_app (goodIn_of _ (by decide +kernel)) ggX6_fewestSteps_X4_isLand
set_option maxRecDepth 20000 in
theorem ggX6_fewestSteps_X0_only : GoodIn wsX6_fewestSteps wsX0_only := goodIn_r _ [16] (by decide +kernel) (by decide +kernel)
set_option maxRecDepth 20000 in
theorem gX6_fewestSteps_X0_only : GoodIn wsX6_fewestSteps (va_wsS RX6 66 yX0_only wsX0_only) := goodIn_app (goodIn_of _ (by decide +kernel)) ggX6_fewestSteps_X0_only
set_option maxRecDepth 20000 in
theorem ggX6_fewestSteps_X0_spread : GoodIn wsX6_fewestSteps wsX0_spread := goodIn_r _ [19, 20] (by decide +kernel) (by decide +kernel)
set_option maxRecDepth 20000 in
theorem gX6_fewestSteps_X0_spread : GoodIn wsX6_fewestSteps (va_wsS RX6 230 yX0_spread wsX0_spread) := goodIn_app (goodIn_of _ (by decide +kernel)) ggX6_fewestSteps_X0_spread
set_option maxRecDepth 20000 in
theorem ggX6_fewestSteps_X0_holds : GoodIn wsX6_fewestSteps wsX0_holds := goodIn_r _ [13] (by decide +kernel) (by decide +kernel)
set_option maxRecDepth 20000 in
theorem gX6_fewestSteps_X0_holds : GoodIn wsX6_fewestSteps (va_wsS RX6 234 yX0_holds wsX0_holds) := goodIn_app (goodIn_of _ (by decide +kernel)) ggX6_fewestSteps_X0_holds
set_option maxRecDepth 20000 in
theorem ggX6_fewestSteps_X0_leastWayInto : GoodIn wsX6_fewestSteps wsX0_leastWayInto := goodIn_r _ [24, 25, 26, 12, 27, 28, 29, 30, 31, 32, 33, 34, 35, 36, 11, 13] (by decide +kernel) (by decide +kernel)
set_option maxRecDepth 20000 in
theorem gX6_fewestSteps_X0_leastWayInto : GoodIn wsX6_fewestSteps (va_wsS RX6 238 yX0_leastWayInto wsX0_leastWayInto) := goodIn_app (goodIn_of _ (by decide +kernel)) ggX6_fewestSteps_X0_leastWayInto
theorem dX6_fewestSteps_0 : decode cX6_fewestSteps 0 = .ok (.aload_n 0, 1) := by decide +kernel
theorem dX6_fewestSteps_1 : decode cX6_fewestSteps 1 = .ok (.getfield 10, 3) := by decide +kernel
theorem dX6_fewestSteps_4 : decode cX6_fewestSteps 4 = .ok (.iload_n 1, 1) := by decide +kernel
theorem dX6_fewestSteps_5 : decode cX6_fewestSteps 5 = .ok (.invokevirtual 82, 3) := by decide +kernel
theorem dX6_fewestSteps_8 : decode cX6_fewestSteps 8 = .ok (.ifCond .ne 14, 3) := by decide +kernel
theorem dX6_fewestSteps_11 : decode cX6_fewestSteps 11 = .ok (.aload_n 0, 1) := by decide +kernel
theorem dX6_fewestSteps_12 : decode cX6_fewestSteps 12 = .ok (.getfield 10, 3) := by decide +kernel
theorem dX6_fewestSteps_15 : decode cX6_fewestSteps 15 = .ok (.iload_n 2, 1) := by decide +kernel
theorem dX6_fewestSteps_16 : decode cX6_fewestSteps 16 = .ok (.invokevirtual 82, 3) := by decide +kernel
theorem dX6_fewestSteps_19 : decode cX6_fewestSteps 19 = .ok (.ifCond .eq 6, 3) := by decide +kernel
theorem dX6_fewestSteps_22 : decode cX6_fewestSteps 22 = .ok (.bipush (-6), 2) := by decide +kernel
theorem dX6_fewestSteps_24 : decode cX6_fewestSteps 24 = .ok (.ireturn, 1) := by decide +kernel
theorem dX6_fewestSteps_25 : decode cX6_fewestSteps 25 = .ok (.iload_n 1, 1) := by decide +kernel
theorem dX6_fewestSteps_26 : decode cX6_fewestSteps 26 = .ok (.iload_n 2, 1) := by decide +kernel
theorem dX6_fewestSteps_27 : decode cX6_fewestSteps 27 = .ok (.if_icmp .ne 14, 3) := by decide +kernel
theorem dX6_fewestSteps_30 : decode cX6_fewestSteps 30 = .ok (.iload_n 3, 1) := by decide +kernel
theorem dX6_fewestSteps_31 : decode cX6_fewestSteps 31 = .ok (.ifCond .ne 7, 3) := by decide +kernel
theorem dX6_fewestSteps_34 : decode cX6_fewestSteps 34 = .ok (.iconst 0, 1) := by decide +kernel
theorem dX6_fewestSteps_35 : decode cX6_fewestSteps 35 = .ok (.goto 5, 3) := by decide +kernel
theorem dX6_fewestSteps_38 : decode cX6_fewestSteps 38 = .ok (.bipush (-6), 2) := by decide +kernel
theorem dX6_fewestSteps_40 : decode cX6_fewestSteps 40 = .ok (.ireturn, 1) := by decide +kernel
theorem dX6_fewestSteps_41 : decode cX6_fewestSteps 41 = .ok (.iload_n 2, 1) := by decide +kernel
theorem dX6_fewestSteps_42 : decode cX6_fewestSteps 42 = .ok (.invokestatic 66, 3) := by decide +kernel
theorem dX6_fewestSteps_45 : decode cX6_fewestSteps 45 = .ok (.lstore 4, 2) := by decide +kernel
theorem dX6_fewestSteps_47 : decode cX6_fewestSteps 47 = .ok (.iconst 1, 1) := by decide +kernel
theorem dX6_fewestSteps_48 : decode cX6_fewestSteps 48 = .ok (.istore 6, 2) := by decide +kernel
theorem dX6_fewestSteps_50 : decode cX6_fewestSteps 50 = .ok (.iload 6, 2) := by decide +kernel
theorem dX6_fewestSteps_52 : decode cX6_fewestSteps 52 = .ok (.bipush 64, 2) := by decide +kernel
theorem dX6_fewestSteps_54 : decode cX6_fewestSteps 54 = .ok (.if_icmp .ge 57, 3) := by decide +kernel
theorem dX6_fewestSteps_57 : decode cX6_fewestSteps 57 = .ok (.lload 4, 2) := by decide +kernel
theorem dX6_fewestSteps_59 : decode cX6_fewestSteps 59 = .ok (.invokestatic 230, 3) := by decide +kernel
theorem dX6_fewestSteps_62 : decode cX6_fewestSteps 62 = .ok (.aload_n 0, 1) := by decide +kernel
theorem dX6_fewestSteps_63 : decode cX6_fewestSteps 63 = .ok (.getfield 10, 3) := by decide +kernel
theorem dX6_fewestSteps_66 : decode cX6_fewestSteps 66 = .ok (.getfield 70, 3) := by decide +kernel
theorem dX6_fewestSteps_69 : decode cX6_fewestSteps 69 = .ok (.ldc2_w 74, 3) := by decide +kernel
theorem dX6_fewestSteps_72 : decode cX6_fewestSteps 72 = .ok (.lxor, 1) := by decide +kernel
theorem dX6_fewestSteps_73 : decode cX6_fewestSteps 73 = .ok (.land, 1) := by decide +kernel
theorem dX6_fewestSteps_74 : decode cX6_fewestSteps 74 = .ok (.lstore 7, 2) := by decide +kernel
theorem dX6_fewestSteps_76 : decode cX6_fewestSteps 76 = .ok (.lload 7, 2) := by decide +kernel
theorem dX6_fewestSteps_78 : decode cX6_fewestSteps 78 = .ok (.iload_n 1, 1) := by decide +kernel
theorem dX6_fewestSteps_79 : decode cX6_fewestSteps 79 = .ok (.invokestatic 234, 3) := by decide +kernel
theorem dX6_fewestSteps_82 : decode cX6_fewestSteps 82 = .ok (.ifCond .eq 19, 3) := by decide +kernel
theorem dX6_fewestSteps_85 : decode cX6_fewestSteps 85 = .ok (.iload_n 3, 1) := by decide +kernel
theorem dX6_fewestSteps_86 : decode cX6_fewestSteps 86 = .ok (.ifCond .ne 8, 3) := by decide +kernel
theorem dX6_fewestSteps_89 : decode cX6_fewestSteps 89 = .ok (.iload 6, 2) := by decide +kernel
theorem dX6_fewestSteps_91 : decode cX6_fewestSteps 91 = .ok (.goto 9, 3) := by decide +kernel
theorem dX6_fewestSteps_94 : decode cX6_fewestSteps 94 = .ok (.iload_n 1, 1) := by decide +kernel
theorem dX6_fewestSteps_95 : decode cX6_fewestSteps 95 = .ok (.lload 4, 2) := by decide +kernel
theorem dX6_fewestSteps_97 : decode cX6_fewestSteps 97 = .ok (.invokestatic 238, 3) := by decide +kernel
theorem dX6_fewestSteps_100 : decode cX6_fewestSteps 100 = .ok (.ireturn, 1) := by decide +kernel
theorem dX6_fewestSteps_101 : decode cX6_fewestSteps 101 = .ok (.lload 7, 2) := by decide +kernel
theorem dX6_fewestSteps_103 : decode cX6_fewestSteps 103 = .ok (.lstore 4, 2) := by decide +kernel
theorem dX6_fewestSteps_105 : decode cX6_fewestSteps 105 = .ok (.iinc 6 1, 3) := by decide +kernel
theorem dX6_fewestSteps_108 : decode cX6_fewestSteps 108 = .ok (.goto (-58), 3) := by decide +kernel
theorem dX6_fewestSteps_111 : decode cX6_fewestSteps 111 = .ok (.bipush (-6), 2) := by decide +kernel
theorem dX6_fewestSteps_113 : decode cX6_fewestSteps 113 = .ok (.ireturn, 1) := by decide +kernel
set_option maxRecDepth 20000 in
theorem ggX6_bestNextLook_J13_bitCount_95d88 : GoodIn wsX6_bestNextLook wsJ13_bitCount_95d88 := goodIn_r _ [8, 9, 10, 11] (by decide +kernel) (by decide +kernel)
set_option maxRecDepth 20000 in
theorem gX6_bestNextLook_J13_bitCount_95d88 : GoodIn wsX6_bestNextLook (va_wsS RX6 76 yJ13_bitCount_95d88 wsJ13_bitCount_95d88) := goodIn_app (goodIn_of _ (by decide +kernel)) ggX6_bestNextLook_J13_bitCount_95d88
set_option maxRecDepth 20000 in
theorem ggX6_bestNextLook_X0_around : GoodIn wsX6_bestNextLook wsX0_around := goodIn_r _ [15, 16, 2, 3, 4, 17, 18, 19, 20, 21, 22] (by decide +kernel) (by decide +kernel)
set_option maxRecDepth 20000 in
theorem gX6_bestNextLook_X0_around : GoodIn wsX6_bestNextLook (va_wsS RX6 185 yX0_around wsX0_around) := goodIn_app (goodIn_of _ (by decide +kernel)) ggX6_bestNextLook_X0_around
theorem dX6_bestNextLook_0 : decode cX6_bestNextLook 0 = .ok (.lload_n 0, 1) := by decide +kernel
theorem dX6_bestNextLook_1 : decode cX6_bestNextLook 1 = .ok (.invokestatic 76, 3) := by decide +kernel
theorem dX6_bestNextLook_4 : decode cX6_bestNextLook 4 = .ok (.istore_n 3, 1) := by decide +kernel
theorem dX6_bestNextLook_5 : decode cX6_bestNextLook 5 = .ok (.iload_n 3, 1) := by decide +kernel
theorem dX6_bestNextLook_6 : decode cX6_bestNextLook 6 = .ok (.iconst 1, 1) := by decide +kernel
theorem dX6_bestNextLook_7 : decode cX6_bestNextLook 7 = .ok (.iadd, 1) := by decide +kernel
theorem dX6_bestNextLook_8 : decode cX6_bestNextLook 8 = .ok (.istore 4, 2) := by decide +kernel
theorem dX6_bestNextLook_10 : decode cX6_bestNextLook 10 = .ok (.bipush (-6), 2) := by decide +kernel
theorem dX6_bestNextLook_12 : decode cX6_bestNextLook 12 = .ok (.istore 5, 2) := by decide +kernel
theorem dX6_bestNextLook_14 : decode cX6_bestNextLook 14 = .ok (.iconst 0, 1) := by decide +kernel
theorem dX6_bestNextLook_15 : decode cX6_bestNextLook 15 = .ok (.istore 6, 2) := by decide +kernel
theorem dX6_bestNextLook_17 : decode cX6_bestNextLook 17 = .ok (.iload 6, 2) := by decide +kernel
theorem dX6_bestNextLook_19 : decode cX6_bestNextLook 19 = .ok (.bipush 64, 2) := by decide +kernel
theorem dX6_bestNextLook_21 : decode cX6_bestNextLook 21 = .ok (.if_icmp .ge 71, 3) := by decide +kernel
theorem dX6_bestNextLook_24 : decode cX6_bestNextLook 24 = .ok (.iconst 0, 1) := by decide +kernel
theorem dX6_bestNextLook_25 : decode cX6_bestNextLook 25 = .ok (.istore 7, 2) := by decide +kernel
theorem dX6_bestNextLook_27 : decode cX6_bestNextLook 27 = .ok (.iload 7, 2) := by decide +kernel
theorem dX6_bestNextLook_29 : decode cX6_bestNextLook 29 = .ok (.bipush 7, 2) := by decide +kernel
theorem dX6_bestNextLook_31 : decode cX6_bestNextLook 31 = .ok (.if_icmp .gt 55, 3) := by decide +kernel
theorem dX6_bestNextLook_34 : decode cX6_bestNextLook 34 = .ok (.lload_n 0, 1) := by decide +kernel
theorem dX6_bestNextLook_35 : decode cX6_bestNextLook 35 = .ok (.iload 6, 2) := by decide +kernel
theorem dX6_bestNextLook_37 : decode cX6_bestNextLook 37 = .ok (.iload 7, 2) := by decide +kernel
theorem dX6_bestNextLook_39 : decode cX6_bestNextLook 39 = .ok (.invokestatic 185, 3) := by decide +kernel
theorem dX6_bestNextLook_42 : decode cX6_bestNextLook 42 = .ok (.land, 1) := by decide +kernel
theorem dX6_bestNextLook_43 : decode cX6_bestNextLook 43 = .ok (.invokestatic 76, 3) := by decide +kernel
theorem dX6_bestNextLook_46 : decode cX6_bestNextLook 46 = .ok (.istore 8, 2) := by decide +kernel
theorem dX6_bestNextLook_48 : decode cX6_bestNextLook 48 = .ok (.iload 8, 2) := by decide +kernel
theorem dX6_bestNextLook_50 : decode cX6_bestNextLook 50 = .ok (.iload_n 3, 1) := by decide +kernel
theorem dX6_bestNextLook_51 : decode cX6_bestNextLook 51 = .ok (.iload 8, 2) := by decide +kernel
theorem dX6_bestNextLook_53 : decode cX6_bestNextLook 53 = .ok (.isub, 1) := by decide +kernel
theorem dX6_bestNextLook_54 : decode cX6_bestNextLook 54 = .ok (.invokestatic 242, 3) := by decide +kernel
theorem dX6_bestNextLook_57 : decode cX6_bestNextLook 57 = .ok (.istore 9, 2) := by decide +kernel
theorem dX6_bestNextLook_59 : decode cX6_bestNextLook 59 = .ok (.iload 9, 2) := by decide +kernel
theorem dX6_bestNextLook_61 : decode cX6_bestNextLook 61 = .ok (.iload 4, 2) := by decide +kernel
theorem dX6_bestNextLook_63 : decode cX6_bestNextLook 63 = .ok (.if_icmp .ge 17, 3) := by decide +kernel
theorem dX6_bestNextLook_66 : decode cX6_bestNextLook 66 = .ok (.iload 9, 2) := by decide +kernel
theorem dX6_bestNextLook_68 : decode cX6_bestNextLook 68 = .ok (.istore 4, 2) := by decide +kernel
theorem dX6_bestNextLook_70 : decode cX6_bestNextLook 70 = .ok (.bipush 10, 2) := by decide +kernel
theorem dX6_bestNextLook_72 : decode cX6_bestNextLook 72 = .ok (.iload 6, 2) := by decide +kernel
theorem dX6_bestNextLook_74 : decode cX6_bestNextLook 74 = .ok (.imul, 1) := by decide +kernel
theorem dX6_bestNextLook_75 : decode cX6_bestNextLook 75 = .ok (.iload 7, 2) := by decide +kernel
theorem dX6_bestNextLook_77 : decode cX6_bestNextLook 77 = .ok (.iadd, 1) := by decide +kernel
theorem dX6_bestNextLook_78 : decode cX6_bestNextLook 78 = .ok (.istore 5, 2) := by decide +kernel
theorem dX6_bestNextLook_80 : decode cX6_bestNextLook 80 = .ok (.iinc 7 1, 3) := by decide +kernel
theorem dX6_bestNextLook_83 : decode cX6_bestNextLook 83 = .ok (.goto (-56), 3) := by decide +kernel
theorem dX6_bestNextLook_86 : decode cX6_bestNextLook 86 = .ok (.iinc 6 1, 3) := by decide +kernel
theorem dX6_bestNextLook_89 : decode cX6_bestNextLook 89 = .ok (.goto (-72), 3) := by decide +kernel
theorem dX6_bestNextLook_92 : decode cX6_bestNextLook 92 = .ok (.iload_n 2, 1) := by decide +kernel
theorem dX6_bestNextLook_93 : decode cX6_bestNextLook 93 = .ok (.ifCond .ne 8, 3) := by decide +kernel
theorem dX6_bestNextLook_96 : decode cX6_bestNextLook 96 = .ok (.iload 5, 2) := by decide +kernel
theorem dX6_bestNextLook_98 : decode cX6_bestNextLook 98 = .ok (.goto 5, 3) := by decide +kernel
theorem dX6_bestNextLook_101 : decode cX6_bestNextLook 101 = .ok (.iload 4, 2) := by decide +kernel
theorem dX6_bestNextLook_103 : decode cX6_bestNextLook 103 = .ok (.ireturn, 1) := by decide +kernel
end
section
theorem dX7_init_0 : decode cX7_init 0 = .ok (.aload_n 0, 1) := by decide +kernel
theorem dX7_init_1 : decode cX7_init 1 = .ok (.invokespecial 1, 3) := by decide +kernel
theorem dX7_init_4 : decode cX7_init 4 = .ok (.aload_n 0, 1) := by decide +kernel
theorem dX7_init_5 : decode cX7_init 5 = .ok (.bipush 64, 2) := by decide +kernel
theorem dX7_init_7 : decode cX7_init 7 = .ok (.newarray .int, 2) := by decide +kernel
theorem dX7_init_9 : decode cX7_init 9 = .ok (.putfield 7, 3) := by decide +kernel
theorem dX7_init_12 : decode cX7_init 12 = .ok (.aload_n 0, 1) := by decide +kernel
theorem dX7_init_13 : decode cX7_init 13 = .ok (.bipush 6, 2) := by decide +kernel
theorem dX7_init_15 : decode cX7_init 15 = .ok (.newarray .int, 2) := by decide +kernel
theorem dX7_init_17 : decode cX7_init 17 = .ok (.putfield 13, 3) := by decide +kernel
theorem dX7_init_20 : decode cX7_init 20 = .ok (.aload_n 0, 1) := by decide +kernel
theorem dX7_init_21 : decode cX7_init 21 = .ok (.bipush 8, 2) := by decide +kernel
theorem dX7_init_23 : decode cX7_init 23 = .ok (.newarray .int, 2) := by decide +kernel
theorem dX7_init_25 : decode cX7_init 25 = .ok (.putfield 16, 3) := by decide +kernel
theorem dX7_init_28 : decode cX7_init 28 = .ok (.aload_n 0, 1) := by decide +kernel
theorem dX7_init_29 : decode cX7_init 29 = .ok (.bipush 8, 2) := by decide +kernel
theorem dX7_init_31 : decode cX7_init 31 = .ok (.newarray .int, 2) := by decide +kernel
theorem dX7_init_33 : decode cX7_init 33 = .ok (.putfield 19, 3) := by decide +kernel
theorem dX7_init_36 : decode cX7_init 36 = .ok (.aload_n 0, 1) := by decide +kernel
theorem dX7_init_37 : decode cX7_init 37 = .ok (.bipush 8, 2) := by decide +kernel
theorem dX7_init_39 : decode cX7_init 39 = .ok (.newarray .int, 2) := by decide +kernel
theorem dX7_init_41 : decode cX7_init 41 = .ok (.putfield 22, 3) := by decide +kernel
theorem dX7_init_44 : decode cX7_init 44 = .ok (.aload_n 0, 1) := by decide +kernel
theorem dX7_init_45 : decode cX7_init 45 = .ok (.bipush 60, 2) := by decide +kernel
theorem dX7_init_47 : decode cX7_init 47 = .ok (.newarray .int, 2) := by decide +kernel
theorem dX7_init_49 : decode cX7_init 49 = .ok (.putfield 25, 3) := by decide +kernel
theorem dX7_init_52 : decode cX7_init 52 = .ok (.aload_n 0, 1) := by decide +kernel
theorem dX7_init_53 : decode cX7_init 53 = .ok (.bipush 60, 2) := by decide +kernel
theorem dX7_init_55 : decode cX7_init 55 = .ok (.newarray .int, 2) := by decide +kernel
theorem dX7_init_57 : decode cX7_init 57 = .ok (.putfield 28, 3) := by decide +kernel
theorem dX7_init_60 : decode cX7_init 60 = .ok (.aload_n 0, 1) := by decide +kernel
theorem dX7_init_61 : decode cX7_init 61 = .ok (.bipush 60, 2) := by decide +kernel
theorem dX7_init_63 : decode cX7_init 63 = .ok (.newarray .int, 2) := by decide +kernel
theorem dX7_init_65 : decode cX7_init 65 = .ok (.putfield 31, 3) := by decide +kernel
theorem dX7_init_68 : decode cX7_init 68 = .ok (.aload_n 0, 1) := by decide +kernel
theorem dX7_init_69 : decode cX7_init 69 = .ok (.bipush 6, 2) := by decide +kernel
theorem dX7_init_71 : decode cX7_init 71 = .ok (.newarray .int, 2) := by decide +kernel
theorem dX7_init_73 : decode cX7_init 73 = .ok (.putfield 34, 3) := by decide +kernel
theorem dX7_init_76 : decode cX7_init 76 = .ok (.aload_n 0, 1) := by decide +kernel
theorem dX7_init_77 : decode cX7_init 77 = .ok (.bipush 64, 2) := by decide +kernel
theorem dX7_init_79 : decode cX7_init 79 = .ok (.newarray .int, 2) := by decide +kernel
theorem dX7_init_81 : decode cX7_init 81 = .ok (.putfield 37, 3) := by decide +kernel
theorem dX7_init_84 : decode cX7_init 84 = .ok (.aload_n 0, 1) := by decide +kernel
theorem dX7_init_85 : decode cX7_init 85 = .ok (.bipush 9, 2) := by decide +kernel
theorem dX7_init_87 : decode cX7_init 87 = .ok (.newarray .int, 2) := by decide +kernel
theorem dX7_init_89 : decode cX7_init 89 = .ok (.putfield 40, 3) := by decide +kernel
theorem dX7_init_92 : decode cX7_init 92 = .ok (.aload_n 0, 1) := by decide +kernel
theorem dX7_init_93 : decode cX7_init 93 = .ok (.sipush 512, 3) := by decide +kernel
theorem dX7_init_96 : decode cX7_init 96 = .ok (.newarray .int, 2) := by decide +kernel
theorem dX7_init_98 : decode cX7_init 98 = .ok (.putfield 43, 3) := by decide +kernel
theorem dX7_init_101 : decode cX7_init 101 = .ok (.aload_n 0, 1) := by decide +kernel
theorem dX7_init_102 : decode cX7_init 102 = .ok (.bipush 64, 2) := by decide +kernel
theorem dX7_init_104 : decode cX7_init 104 = .ok (.newarray .int, 2) := by decide +kernel
theorem dX7_init_106 : decode cX7_init 106 = .ok (.putfield 46, 3) := by decide +kernel
theorem dX7_init_109 : decode cX7_init 109 = .ok (.aload_n 0, 1) := by decide +kernel
theorem dX7_init_110 : decode cX7_init 110 = .ok (.bipush 64, 2) := by decide +kernel
theorem dX7_init_112 : decode cX7_init 112 = .ok (.newarray .boolean, 2) := by decide +kernel
theorem dX7_init_114 : decode cX7_init 114 = .ok (.putfield 49, 3) := by decide +kernel
theorem dX7_init_117 : decode cX7_init 117 = .ok (.aload_n 0, 1) := by decide +kernel
theorem dX7_init_118 : decode cX7_init 118 = .ok (.sipush 220, 3) := by decide +kernel
theorem dX7_init_121 : decode cX7_init 121 = .ok (.newarray .int, 2) := by decide +kernel
theorem dX7_init_123 : decode cX7_init 123 = .ok (.putfield 53, 3) := by decide +kernel
theorem dX7_init_126 : decode cX7_init 126 = .ok (.aload_n 0, 1) := by decide +kernel
theorem dX7_init_127 : decode cX7_init 127 = .ok (.iconst 2, 1) := by decide +kernel
theorem dX7_init_128 : decode cX7_init 128 = .ok (.newarray .boolean, 2) := by decide +kernel
theorem dX7_init_130 : decode cX7_init 130 = .ok (.putfield 56, 3) := by decide +kernel
theorem dX7_init_133 : decode cX7_init 133 = .ok (.aload_n 0, 1) := by decide +kernel
theorem dX7_init_134 : decode cX7_init 134 = .ok (.bipush 27, 2) := by decide +kernel
theorem dX7_init_136 : decode cX7_init 136 = .ok (.putfield 59, 3) := by decide +kernel
theorem dX7_init_139 : decode cX7_init 139 = .ok (.aload_n 0, 1) := by decide +kernel
theorem dX7_init_140 : decode cX7_init 140 = .ok (.iconst 3, 1) := by decide +kernel
theorem dX7_init_141 : decode cX7_init 141 = .ok (.putfield 63, 3) := by decide +kernel
theorem dX7_init_144 : decode cX7_init 144 = .ok (.aload_n 0, 1) := by decide +kernel
theorem dX7_init_145 : decode cX7_init 145 = .ok (.bipush (-6), 2) := by decide +kernel
theorem dX7_init_147 : decode cX7_init 147 = .ok (.putfield 66, 3) := by decide +kernel
theorem dX7_init_150 : decode cX7_init 150 = .ok (.iconst 0, 1) := by decide +kernel
theorem dX7_init_151 : decode cX7_init 151 = .ok (.istore_n 1, 1) := by decide +kernel
theorem dX7_init_152 : decode cX7_init 152 = .ok (.iload_n 1, 1) := by decide +kernel
theorem dX7_init_153 : decode cX7_init 153 = .ok (.bipush 6, 2) := by decide +kernel
theorem dX7_init_155 : decode cX7_init 155 = .ok (.if_icmp .ge 16, 3) := by decide +kernel
theorem dX7_init_158 : decode cX7_init 158 = .ok (.aload_n 0, 1) := by decide +kernel
theorem dX7_init_159 : decode cX7_init 159 = .ok (.getfield 13, 3) := by decide +kernel
theorem dX7_init_162 : decode cX7_init 162 = .ok (.iload_n 1, 1) := by decide +kernel
theorem dX7_init_163 : decode cX7_init 163 = .ok (.iconst 4, 1) := by decide +kernel
theorem dX7_init_164 : decode cX7_init 164 = .ok (.iastore, 1) := by decide +kernel
theorem dX7_init_165 : decode cX7_init 165 = .ok (.iinc 1 1, 3) := by decide +kernel
theorem dX7_init_168 : decode cX7_init 168 = .ok (.goto (-16), 3) := by decide +kernel
theorem dX7_init_171 : decode cX7_init 171 = .ok (.return_, 1) := by decide +kernel
theorem dX7_in_0 : decode cX7_in 0 = .ok (.lload_n 0, 1) := by decide +kernel
theorem dX7_in_1 : decode cX7_in 1 = .ok (.lload_n 2, 1) := by decide +kernel
theorem dX7_in_2 : decode cX7_in 2 = .ok (.lcmp, 1) := by decide +kernel
theorem dX7_in_3 : decode cX7_in 3 = .ok (.ifCond .lt 14, 3) := by decide +kernel
theorem dX7_in_6 : decode cX7_in 6 = .ok (.lload_n 0, 1) := by decide +kernel
theorem dX7_in_7 : decode cX7_in 7 = .ok (.lload 4, 2) := by decide +kernel
theorem dX7_in_9 : decode cX7_in 9 = .ok (.lcmp, 1) := by decide +kernel
theorem dX7_in_10 : decode cX7_in 10 = .ok (.ifCond .gt 7, 3) := by decide +kernel
theorem dX7_in_13 : decode cX7_in 13 = .ok (.iconst 1, 1) := by decide +kernel
theorem dX7_in_14 : decode cX7_in 14 = .ok (.goto 4, 3) := by decide +kernel
theorem dX7_in_17 : decode cX7_in 17 = .ok (.iconst 0, 1) := by decide +kernel
theorem dX7_in_18 : decode cX7_in 18 = .ok (.ireturn, 1) := by decide +kernel
set_option maxRecDepth 20000 in
theorem ggX7_isCell_X7_in : GoodIn wsX7_isCell wsX7_in := goodIn_r _ [5] (by decide +kernel) (by decide +kernel)
set_option maxRecDepth 20000 in
theorem gX7_isCell_X7_in : GoodIn wsX7_isCell (va_wsS RX7 71 yX7_in wsX7_in) := goodIn_app (goodIn_of _ (by decide +kernel)) ggX7_isCell_X7_in
theorem dX7_isCell_0 : decode cX7_isCell 0 = .ok (.iload_n 0, 1) := by decide +kernel
theorem dX7_isCell_1 : decode cX7_isCell 1 = .ok (.i2l, 1) := by decide +kernel
theorem dX7_isCell_2 : decode cX7_isCell 2 = .ok (.lconst 0, 1) := by decide +kernel
theorem dX7_isCell_3 : decode cX7_isCell 3 = .ok (.ldc2_w 69, 3) := by decide +kernel
theorem dX7_isCell_6 : decode cX7_isCell 6 = .ok (.invokestatic 71, 3) := by decide +kernel
theorem dX7_isCell_9 : decode cX7_isCell 9 = .ok (.ireturn, 1) := by decide +kernel
set_option maxRecDepth 20000 in
theorem ggX7_isWay_X7_in : GoodIn wsX7_isWay wsX7_in := goodIn_r _ [5] (by decide +kernel) (by decide +kernel)
set_option maxRecDepth 20000 in
theorem gX7_isWay_X7_in : GoodIn wsX7_isWay (va_wsS RX7 71 yX7_in wsX7_in) := goodIn_app (goodIn_of _ (by decide +kernel)) ggX7_isWay_X7_in
theorem dX7_isWay_0 : decode cX7_isWay 0 = .ok (.iload_n 0, 1) := by decide +kernel
theorem dX7_isWay_1 : decode cX7_isWay 1 = .ok (.i2l, 1) := by decide +kernel
theorem dX7_isWay_2 : decode cX7_isWay 2 = .ok (.lconst 0, 1) := by decide +kernel
theorem dX7_isWay_3 : decode cX7_isWay 3 = .ok (.ldc2_w 75, 3) := by decide +kernel
theorem dX7_isWay_6 : decode cX7_isWay 6 = .ok (.invokestatic 71, 3) := by decide +kernel
theorem dX7_isWay_9 : decode cX7_isWay 9 = .ok (.ireturn, 1) := by decide +kernel
theorem dX7_less_0 : decode cX7_less 0 = .ok (.iload_n 0, 1) := by decide +kernel
theorem dX7_less_1 : decode cX7_less 1 = .ok (.iload_n 1, 1) := by decide +kernel
theorem dX7_less_2 : decode cX7_less 2 = .ok (.if_icmp .ge 7, 3) := by decide +kernel
theorem dX7_less_5 : decode cX7_less 5 = .ok (.iload_n 0, 1) := by decide +kernel
theorem dX7_less_6 : decode cX7_less 6 = .ok (.goto 4, 3) := by decide +kernel
theorem dX7_less_9 : decode cX7_less 9 = .ok (.iload_n 1, 1) := by decide +kernel
theorem dX7_less_10 : decode cX7_less 10 = .ok (.ireturn, 1) := by decide +kernel
theorem dX7_off_0 : decode cX7_off 0 = .ok (.iload_n 0, 1) := by decide +kernel
theorem dX7_off_1 : decode cX7_off 1 = .ok (.iload_n 1, 1) := by decide +kernel
theorem dX7_off_2 : decode cX7_off 2 = .ok (.if_icmp .ge 9, 3) := by decide +kernel
theorem dX7_off_5 : decode cX7_off 5 = .ok (.iload_n 1, 1) := by decide +kernel
theorem dX7_off_6 : decode cX7_off 6 = .ok (.iload_n 0, 1) := by decide +kernel
theorem dX7_off_7 : decode cX7_off 7 = .ok (.isub, 1) := by decide +kernel
theorem dX7_off_8 : decode cX7_off 8 = .ok (.goto 6, 3) := by decide +kernel
theorem dX7_off_11 : decode cX7_off 11 = .ok (.iload_n 0, 1) := by decide +kernel
theorem dX7_off_12 : decode cX7_off 12 = .ok (.iload_n 1, 1) := by decide +kernel
theorem dX7_off_13 : decode cX7_off 13 = .ok (.isub, 1) := by decide +kernel
theorem dX7_off_14 : decode cX7_off 14 = .ok (.ireturn, 1) := by decide +kernel
set_option maxRecDepth 20000 in
theorem ggX7_far_X7_off : GoodIn wsX7_far wsX7_off := goodIn_r _ [4] (by decide +kernel) (by decide +kernel)
set_option maxRecDepth 20000 in
theorem gX7_far_X7_off : GoodIn wsX7_far (va_wsS RX7 77 yX7_off wsX7_off) := goodIn_app (goodIn_of _ (by decide +kernel)) ggX7_far_X7_off
theorem dX7_far_0 : decode cX7_far 0 = .ok (.iload_n 0, 1) := by decide +kernel
theorem dX7_far_1 : decode cX7_far 1 = .ok (.bipush 8, 2) := by decide +kernel
theorem dX7_far_3 : decode cX7_far 3 = .ok (.idiv, 1) := by decide +kernel
theorem dX7_far_4 : decode cX7_far 4 = .ok (.iload_n 1, 1) := by decide +kernel
theorem dX7_far_5 : decode cX7_far 5 = .ok (.bipush 8, 2) := by decide +kernel
theorem dX7_far_7 : decode cX7_far 7 = .ok (.idiv, 1) := by decide +kernel
theorem dX7_far_8 : decode cX7_far 8 = .ok (.invokestatic 77, 3) := by decide +kernel
theorem dX7_far_11 : decode cX7_far 11 = .ok (.istore_n 2, 1) := by decide +kernel
theorem dX7_far_12 : decode cX7_far 12 = .ok (.iload_n 0, 1) := by decide +kernel
theorem dX7_far_13 : decode cX7_far 13 = .ok (.bipush 8, 2) := by decide +kernel
theorem dX7_far_15 : decode cX7_far 15 = .ok (.irem, 1) := by decide +kernel
theorem dX7_far_16 : decode cX7_far 16 = .ok (.iload_n 1, 1) := by decide +kernel
theorem dX7_far_17 : decode cX7_far 17 = .ok (.bipush 8, 2) := by decide +kernel
theorem dX7_far_19 : decode cX7_far 19 = .ok (.irem, 1) := by decide +kernel
theorem dX7_far_20 : decode cX7_far 20 = .ok (.invokestatic 77, 3) := by decide +kernel
theorem dX7_far_23 : decode cX7_far 23 = .ok (.istore_n 3, 1) := by decide +kernel
theorem dX7_far_24 : decode cX7_far 24 = .ok (.iload_n 2, 1) := by decide +kernel
theorem dX7_far_25 : decode cX7_far 25 = .ok (.iload_n 3, 1) := by decide +kernel
theorem dX7_far_26 : decode cX7_far 26 = .ok (.if_icmp .ge 7, 3) := by decide +kernel
theorem dX7_far_29 : decode cX7_far 29 = .ok (.iload_n 3, 1) := by decide +kernel
theorem dX7_far_30 : decode cX7_far 30 = .ok (.goto 4, 3) := by decide +kernel
theorem dX7_far_33 : decode cX7_far 33 = .ok (.iload_n 2, 1) := by decide +kernel
theorem dX7_far_34 : decode cX7_far 34 = .ok (.ireturn, 1) := by decide +kernel
theorem dX7_downwards_0 : decode cX7_downwards 0 = .ok (.iload_n 0, 1) := by decide +kernel
theorem dX7_downwards_1 : decode cX7_downwards 1 = .ok (.ifCond .eq 14, 3) := by decide +kernel
theorem dX7_downwards_4 : decode cX7_downwards 4 = .ok (.iload_n 0, 1) := by decide +kernel
theorem dX7_downwards_5 : decode cX7_downwards 5 = .ok (.iconst 1, 1) := by decide +kernel
theorem dX7_downwards_6 : decode cX7_downwards 6 = .ok (.if_icmp .eq 9, 3) := by decide +kernel
theorem dX7_downwards_9 : decode cX7_downwards 9 = .ok (.iload_n 0, 1) := by decide +kernel
theorem dX7_downwards_10 : decode cX7_downwards 10 = .ok (.bipush 7, 2) := by decide +kernel
theorem dX7_downwards_12 : decode cX7_downwards 12 = .ok (.if_icmp .ne 7, 3) := by decide +kernel
theorem dX7_downwards_15 : decode cX7_downwards 15 = .ok (.iconst (-1), 1) := by decide +kernel
theorem dX7_downwards_16 : decode cX7_downwards 16 = .ok (.goto 19, 3) := by decide +kernel
theorem dX7_downwards_19 : decode cX7_downwards 19 = .ok (.iload_n 0, 1) := by decide +kernel
theorem dX7_downwards_20 : decode cX7_downwards 20 = .ok (.iconst 2, 1) := by decide +kernel
theorem dX7_downwards_21 : decode cX7_downwards 21 = .ok (.if_icmp .eq 9, 3) := by decide +kernel
theorem dX7_downwards_24 : decode cX7_downwards 24 = .ok (.iload_n 0, 1) := by decide +kernel
theorem dX7_downwards_25 : decode cX7_downwards 25 = .ok (.bipush 6, 2) := by decide +kernel
theorem dX7_downwards_27 : decode cX7_downwards 27 = .ok (.if_icmp .ne 7, 3) := by decide +kernel
theorem dX7_downwards_30 : decode cX7_downwards 30 = .ok (.iconst 0, 1) := by decide +kernel
theorem dX7_downwards_31 : decode cX7_downwards 31 = .ok (.goto 4, 3) := by decide +kernel
theorem dX7_downwards_34 : decode cX7_downwards 34 = .ok (.iconst 1, 1) := by decide +kernel
theorem dX7_downwards_35 : decode cX7_downwards 35 = .ok (.ireturn, 1) := by decide +kernel
theorem dX7_across_0 : decode cX7_across 0 = .ok (.iload_n 0, 1) := by decide +kernel
theorem dX7_across_1 : decode cX7_across 1 = .ok (.ifCond .eq 8, 3) := by decide +kernel
theorem dX7_across_4 : decode cX7_across 4 = .ok (.iload_n 0, 1) := by decide +kernel
theorem dX7_across_5 : decode cX7_across 5 = .ok (.iconst 4, 1) := by decide +kernel
theorem dX7_across_6 : decode cX7_across 6 = .ok (.if_icmp .ne 7, 3) := by decide +kernel
theorem dX7_across_9 : decode cX7_across 9 = .ok (.iconst 0, 1) := by decide +kernel
theorem dX7_across_10 : decode cX7_across 10 = .ok (.goto 13, 3) := by decide +kernel
theorem dX7_across_13 : decode cX7_across 13 = .ok (.iload_n 0, 1) := by decide +kernel
theorem dX7_across_14 : decode cX7_across 14 = .ok (.iconst 4, 1) := by decide +kernel
theorem dX7_across_15 : decode cX7_across 15 = .ok (.if_icmp .ge 7, 3) := by decide +kernel
theorem dX7_across_18 : decode cX7_across 18 = .ok (.iconst 1, 1) := by decide +kernel
theorem dX7_across_19 : decode cX7_across 19 = .ok (.goto 4, 3) := by decide +kernel
theorem dX7_across_22 : decode cX7_across 22 = .ok (.iconst (-1), 1) := by decide +kernel
theorem dX7_across_23 : decode cX7_across 23 = .ok (.ireturn, 1) := by decide +kernel
set_option maxRecDepth 20000 in
theorem ggX7_beside_X7_in : GoodIn wsX7_beside wsX7_in := goodIn_r _ [5] (by decide +kernel) (by decide +kernel)
set_option maxRecDepth 20000 in
theorem gX7_beside_X7_in : GoodIn wsX7_beside (va_wsS RX7 71 yX7_in wsX7_in) := goodIn_app (goodIn_of _ (by decide +kernel)) ggX7_beside_X7_in
theorem dX7_beside_0 : decode cX7_beside 0 = .ok (.iload_n 0, 1) := by decide +kernel
theorem dX7_beside_1 : decode cX7_beside 1 = .ok (.bipush 8, 2) := by decide +kernel
theorem dX7_beside_3 : decode cX7_beside 3 = .ok (.idiv, 1) := by decide +kernel
theorem dX7_beside_4 : decode cX7_beside 4 = .ok (.iload_n 1, 1) := by decide +kernel
theorem dX7_beside_5 : decode cX7_beside 5 = .ok (.iadd, 1) := by decide +kernel
theorem dX7_beside_6 : decode cX7_beside 6 = .ok (.istore_n 3, 1) := by decide +kernel
theorem dX7_beside_7 : decode cX7_beside 7 = .ok (.iload_n 0, 1) := by decide +kernel
theorem dX7_beside_8 : decode cX7_beside 8 = .ok (.bipush 8, 2) := by decide +kernel
theorem dX7_beside_10 : decode cX7_beside 10 = .ok (.irem, 1) := by decide +kernel
theorem dX7_beside_11 : decode cX7_beside 11 = .ok (.iload_n 2, 1) := by decide +kernel
theorem dX7_beside_12 : decode cX7_beside 12 = .ok (.iadd, 1) := by decide +kernel
theorem dX7_beside_13 : decode cX7_beside 13 = .ok (.istore 4, 2) := by decide +kernel
theorem dX7_beside_15 : decode cX7_beside 15 = .ok (.iload_n 3, 1) := by decide +kernel
theorem dX7_beside_16 : decode cX7_beside 16 = .ok (.i2l, 1) := by decide +kernel
theorem dX7_beside_17 : decode cX7_beside 17 = .ok (.lconst 0, 1) := by decide +kernel
theorem dX7_beside_18 : decode cX7_beside 18 = .ok (.ldc2_w 75, 3) := by decide +kernel
theorem dX7_beside_21 : decode cX7_beside 21 = .ok (.invokestatic 71, 3) := by decide +kernel
theorem dX7_beside_24 : decode cX7_beside 24 = .ok (.ifCond .eq 26, 3) := by decide +kernel
theorem dX7_beside_27 : decode cX7_beside 27 = .ok (.iload 4, 2) := by decide +kernel
theorem dX7_beside_29 : decode cX7_beside 29 = .ok (.i2l, 1) := by decide +kernel
theorem dX7_beside_30 : decode cX7_beside 30 = .ok (.lconst 0, 1) := by decide +kernel
theorem dX7_beside_31 : decode cX7_beside 31 = .ok (.ldc2_w 75, 3) := by decide +kernel
theorem dX7_beside_34 : decode cX7_beside 34 = .ok (.invokestatic 71, 3) := by decide +kernel
theorem dX7_beside_37 : decode cX7_beside 37 = .ok (.ifCond .eq 13, 3) := by decide +kernel
theorem dX7_beside_40 : decode cX7_beside 40 = .ok (.bipush 8, 2) := by decide +kernel
theorem dX7_beside_42 : decode cX7_beside 42 = .ok (.iload_n 3, 1) := by decide +kernel
theorem dX7_beside_43 : decode cX7_beside 43 = .ok (.imul, 1) := by decide +kernel
theorem dX7_beside_44 : decode cX7_beside 44 = .ok (.iload 4, 2) := by decide +kernel
theorem dX7_beside_46 : decode cX7_beside 46 = .ok (.iadd, 1) := by decide +kernel
theorem dX7_beside_47 : decode cX7_beside 47 = .ok (.goto 5, 3) := by decide +kernel
theorem dX7_beside_50 : decode cX7_beside 50 = .ok (.bipush (-6), 2) := by decide +kernel
theorem dX7_beside_52 : decode cX7_beside 52 = .ok (.ireturn, 1) := by decide +kernel
set_option maxRecDepth 20000 in
theorem ggX7_ahead_X7_downwards : GoodIn wsX7_ahead wsX7_downwards := goodIn_r _ [4] (by decide +kernel) (by decide +kernel)
set_option maxRecDepth 20000 in
theorem gX7_ahead_X7_downwards : GoodIn wsX7_ahead (va_wsS RX7 81 yX7_downwards wsX7_downwards) := goodIn_app (goodIn_of _ (by decide +kernel)) ggX7_ahead_X7_downwards
set_option maxRecDepth 20000 in
theorem ggX7_ahead_X7_across : GoodIn wsX7_ahead wsX7_across := goodIn_r _ [7] (by decide +kernel) (by decide +kernel)
set_option maxRecDepth 20000 in
theorem gX7_ahead_X7_across : GoodIn wsX7_ahead (va_wsS RX7 85 yX7_across wsX7_across) := goodIn_app (goodIn_of _ (by decide +kernel)) ggX7_ahead_X7_across
set_option maxRecDepth 20000 in
theorem ggX7_ahead_X7_beside : GoodIn wsX7_ahead wsX7_beside := goodIn_r _ [10, 11, 12, 13, 3, 14] (by decide +kernel) (by decide +kernel)
set_option maxRecDepth 20000 in
theorem gX7_ahead_X7_beside : GoodIn wsX7_ahead (va_wsS RX7 88 yX7_beside wsX7_beside) := goodIn_app (goodIn_of _ (by decide +kernel)) ggX7_ahead_X7_beside
theorem dX7_ahead_0 : decode cX7_ahead 0 = .ok (.iload_n 0, 1) := by decide +kernel
theorem dX7_ahead_1 : decode cX7_ahead 1 = .ok (.iload_n 1, 1) := by decide +kernel
theorem dX7_ahead_2 : decode cX7_ahead 2 = .ok (.invokestatic 81, 3) := by decide +kernel
theorem dX7_ahead_5 : decode cX7_ahead 5 = .ok (.iload_n 1, 1) := by decide +kernel
theorem dX7_ahead_6 : decode cX7_ahead 6 = .ok (.invokestatic 85, 3) := by decide +kernel
theorem dX7_ahead_9 : decode cX7_ahead 9 = .ok (.invokestatic 88, 3) := by decide +kernel
theorem dX7_ahead_12 : decode cX7_ahead 12 = .ok (.ireturn, 1) := by decide +kernel
theorem dX7_landMany_0 : decode cX7_landMany 0 = .ok (.iconst 0, 1) := by decide +kernel
theorem dX7_landMany_1 : decode cX7_landMany 1 = .ok (.istore_n 1, 1) := by decide +kernel
theorem dX7_landMany_2 : decode cX7_landMany 2 = .ok (.iconst 0, 1) := by decide +kernel
theorem dX7_landMany_3 : decode cX7_landMany 3 = .ok (.istore_n 2, 1) := by decide +kernel
theorem dX7_landMany_4 : decode cX7_landMany 4 = .ok (.iload_n 2, 1) := by decide +kernel
theorem dX7_landMany_5 : decode cX7_landMany 5 = .ok (.bipush 64, 2) := by decide +kernel
theorem dX7_landMany_7 : decode cX7_landMany 7 = .ok (.if_icmp .ge 18, 3) := by decide +kernel
theorem dX7_landMany_10 : decode cX7_landMany 10 = .ok (.iload_n 1, 1) := by decide +kernel
theorem dX7_landMany_11 : decode cX7_landMany 11 = .ok (.aload_n 0, 1) := by decide +kernel
theorem dX7_landMany_12 : decode cX7_landMany 12 = .ok (.getfield 7, 3) := by decide +kernel
theorem dX7_landMany_15 : decode cX7_landMany 15 = .ok (.iload_n 2, 1) := by decide +kernel
theorem dX7_landMany_16 : decode cX7_landMany 16 = .ok (.iaload, 1) := by decide +kernel
theorem dX7_landMany_17 : decode cX7_landMany 17 = .ok (.iadd, 1) := by decide +kernel
theorem dX7_landMany_18 : decode cX7_landMany 18 = .ok (.istore_n 1, 1) := by decide +kernel
theorem dX7_landMany_19 : decode cX7_landMany 19 = .ok (.iinc 2 1, 3) := by decide +kernel
theorem dX7_landMany_22 : decode cX7_landMany 22 = .ok (.goto (-18), 3) := by decide +kernel
theorem dX7_landMany_25 : decode cX7_landMany 25 = .ok (.iload_n 1, 1) := by decide +kernel
theorem dX7_landMany_26 : decode cX7_landMany 26 = .ok (.ireturn, 1) := by decide +kernel
set_option maxRecDepth 20000 in
theorem ggX7_land_X7_isCell : GoodIn wsX7_land wsX7_isCell := goodIn_r _ [6, 7, 8, 9, 5, 10] (by decide +kernel) (by decide +kernel)
set_option maxRecDepth 20000 in
theorem gX7_land_X7_isCell : GoodIn wsX7_land (va_wsS RX7 92 yX7_isCell wsX7_isCell) := goodIn_app (goodIn_of _ (by decide +kernel)) ggX7_land_X7_isCell
set_option maxRecDepth 20000 in
theorem ggX7_land_X7_in : GoodIn wsX7_land wsX7_in := goodIn_r _ [10] (by decide +kernel) (by decide +kernel)
set_option maxRecDepth 20000 in
theorem gX7_land_X7_in : GoodIn wsX7_land (va_wsS RX7 71 yX7_in wsX7_in) := goodIn_app (goodIn_of _ (by decide +kernel)) ggX7_land_X7_in
set_option maxRecDepth 20000 in
theorem ggX7_land_X7_landMany : GoodIn wsX7_land wsX7_landMany := goodIn_r _ [14, 2, 15, 16, 17, 18, 19, 20, 21, 22, 23, 24, 25, 26, 27, 28, 29, 30, 31, 32, 33, 34, 35, 36, 37, 38, 39, 40, 41, 42, 43, 44, 45, 46, 47, 48] (by decide +kernel) (by decide +kernel)
set_option maxRecDepth 20000 in
theorem gX7_land_X7_landMany : GoodIn wsX7_land (wsV RX7 96 RX7 yX7_landMany wsX7_landMany) := goodIn_app (goodIn_of _ (by decide +kernel)) ggX7_land_X7_landMany
theorem dX7_land_0 : decode cX7_land 0 = .ok (.iload_n 1, 1) := by decide +kernel
theorem dX7_land_1 : decode cX7_land 1 = .ok (.invokestatic 92, 3) := by decide +kernel
theorem dX7_land_4 : decode cX7_land 4 = .ok (.ifCond .ne 5, 3) := by decide +kernel
theorem dX7_land_7 : decode cX7_land 7 = .ok (.iconst (-1), 1) := by decide +kernel
theorem dX7_land_8 : decode cX7_land 8 = .ok (.ireturn, 1) := by decide +kernel
theorem dX7_land_9 : decode cX7_land 9 = .ok (.iload_n 2, 1) := by decide +kernel
theorem dX7_land_10 : decode cX7_land 10 = .ok (.i2l, 1) := by decide +kernel
theorem dX7_land_11 : decode cX7_land 11 = .ok (.lconst 0, 1) := by decide +kernel
theorem dX7_land_12 : decode cX7_land 12 = .ok (.lconst 1, 1) := by decide +kernel
theorem dX7_land_13 : decode cX7_land 13 = .ok (.invokestatic 71, 3) := by decide +kernel
theorem dX7_land_16 : decode cX7_land 16 = .ok (.ifCond .ne 6, 3) := by decide +kernel
theorem dX7_land_19 : decode cX7_land 19 = .ok (.bipush (-2), 2) := by decide +kernel
theorem dX7_land_21 : decode cX7_land 21 = .ok (.ireturn, 1) := by decide +kernel
theorem dX7_land_22 : decode cX7_land 22 = .ok (.iload_n 2, 1) := by decide +kernel
theorem dX7_land_23 : decode cX7_land 23 = .ok (.iconst 1, 1) := by decide +kernel
theorem dX7_land_24 : decode cX7_land 24 = .ok (.if_icmp .ne 14, 3) := by decide +kernel
theorem dX7_land_27 : decode cX7_land 27 = .ok (.aload_n 0, 1) := by decide +kernel
theorem dX7_land_28 : decode cX7_land 28 = .ok (.getfield 59, 3) := by decide +kernel
theorem dX7_land_31 : decode cX7_land 31 = .ok (.iload_n 1, 1) := by decide +kernel
theorem dX7_land_32 : decode cX7_land 32 = .ok (.if_icmp .ne 6, 3) := by decide +kernel
theorem dX7_land_35 : decode cX7_land 35 = .ok (.bipush (-3), 2) := by decide +kernel
theorem dX7_land_37 : decode cX7_land 37 = .ok (.ireturn, 1) := by decide +kernel
theorem dX7_land_38 : decode cX7_land 38 = .ok (.aload_n 0, 1) := by decide +kernel
theorem dX7_land_39 : decode cX7_land 39 = .ok (.getfield 7, 3) := by decide +kernel
theorem dX7_land_42 : decode cX7_land 42 = .ok (.iload_n 1, 1) := by decide +kernel
theorem dX7_land_43 : decode cX7_land 43 = .ok (.iload_n 2, 1) := by decide +kernel
theorem dX7_land_44 : decode cX7_land 44 = .ok (.iastore, 1) := by decide +kernel
theorem dX7_land_45 : decode cX7_land 45 = .ok (.aload_n 0, 1) := by decide +kernel
theorem dX7_land_46 : decode cX7_land 46 = .ok (.invokevirtual 96, 3) := by decide +kernel
theorem dX7_land_49 : decode cX7_land 49 = .ok (.ireturn, 1) := by decide +kernel
set_option maxRecDepth 20000 in
theorem ggX7_ship_X7_isCell : GoodIn wsX7_ship wsX7_isCell := goodIn_r _ [8, 9, 10, 11, 7, 12] (by decide +kernel) (by decide +kernel)
set_option maxRecDepth 20000 in
theorem gX7_ship_X7_isCell : GoodIn wsX7_ship (va_wsS RX7 92 yX7_isCell wsX7_isCell) := goodIn_app (goodIn_of _ (by decide +kernel)) ggX7_ship_X7_isCell
set_option maxRecDepth 20000 in
theorem ggX7_ship_X7_in : GoodIn wsX7_ship wsX7_in := goodIn_r _ [12] (by decide +kernel) (by decide +kernel)
set_option maxRecDepth 20000 in
theorem gX7_ship_X7_in : GoodIn wsX7_ship (va_wsS RX7 71 yX7_in wsX7_in) := goodIn_app (goodIn_of _ (by decide +kernel)) ggX7_ship_X7_in
theorem dX7_ship_0 : decode cX7_ship 0 = .ok (.iload_n 1, 1) := by decide +kernel
theorem dX7_ship_1 : decode cX7_ship 1 = .ok (.invokestatic 92, 3) := by decide +kernel
theorem dX7_ship_4 : decode cX7_ship 4 = .ok (.ifCond .ne 5, 3) := by decide +kernel
theorem dX7_ship_7 : decode cX7_ship 7 = .ok (.iconst (-1), 1) := by decide +kernel
theorem dX7_ship_8 : decode cX7_ship 8 = .ok (.ireturn, 1) := by decide +kernel
theorem dX7_ship_9 : decode cX7_ship 9 = .ok (.iload_n 2, 1) := by decide +kernel
theorem dX7_ship_10 : decode cX7_ship 10 = .ok (.i2l, 1) := by decide +kernel
theorem dX7_ship_11 : decode cX7_ship 11 = .ok (.lconst 0, 1) := by decide +kernel
theorem dX7_ship_12 : decode cX7_ship 12 = .ok (.ldc2_w 100, 3) := by decide +kernel
theorem dX7_ship_15 : decode cX7_ship 15 = .ok (.invokestatic 71, 3) := by decide +kernel
theorem dX7_ship_18 : decode cX7_ship 18 = .ok (.ifCond .ne 6, 3) := by decide +kernel
theorem dX7_ship_21 : decode cX7_ship 21 = .ok (.bipush (-2), 2) := by decide +kernel
theorem dX7_ship_23 : decode cX7_ship 23 = .ok (.ireturn, 1) := by decide +kernel
theorem dX7_ship_24 : decode cX7_ship 24 = .ok (.aload_n 0, 1) := by decide +kernel
theorem dX7_ship_25 : decode cX7_ship 25 = .ok (.getfield 7, 3) := by decide +kernel
theorem dX7_ship_28 : decode cX7_ship 28 = .ok (.iload_n 1, 1) := by decide +kernel
theorem dX7_ship_29 : decode cX7_ship 29 = .ok (.iaload, 1) := by decide +kernel
theorem dX7_ship_30 : decode cX7_ship 30 = .ok (.iconst 1, 1) := by decide +kernel
theorem dX7_ship_31 : decode cX7_ship 31 = .ok (.if_icmp .ne 6, 3) := by decide +kernel
theorem dX7_ship_34 : decode cX7_ship 34 = .ok (.bipush (-3), 2) := by decide +kernel
theorem dX7_ship_36 : decode cX7_ship 36 = .ok (.ireturn, 1) := by decide +kernel
theorem dX7_ship_37 : decode cX7_ship 37 = .ok (.aload_n 0, 1) := by decide +kernel
theorem dX7_ship_38 : decode cX7_ship 38 = .ok (.getfield 59, 3) := by decide +kernel
theorem dX7_ship_41 : decode cX7_ship 41 = .ok (.istore_n 3, 1) := by decide +kernel
theorem dX7_ship_42 : decode cX7_ship 42 = .ok (.aload_n 0, 1) := by decide +kernel
theorem dX7_ship_43 : decode cX7_ship 43 = .ok (.iload_n 1, 1) := by decide +kernel
theorem dX7_ship_44 : decode cX7_ship 44 = .ok (.putfield 59, 3) := by decide +kernel
theorem dX7_ship_47 : decode cX7_ship 47 = .ok (.aload_n 0, 1) := by decide +kernel
theorem dX7_ship_48 : decode cX7_ship 48 = .ok (.iload_n 2, 1) := by decide +kernel
theorem dX7_ship_49 : decode cX7_ship 49 = .ok (.putfield 63, 3) := by decide +kernel
theorem dX7_ship_52 : decode cX7_ship 52 = .ok (.iload_n 3, 1) := by decide +kernel
theorem dX7_ship_53 : decode cX7_ship 53 = .ok (.ireturn, 1) := by decide +kernel
set_option maxRecDepth 20000 in
theorem ggX7_watcher_X7_in : GoodIn wsX7_watcher wsX7_in := goodIn_r _ [7] (by decide +kernel) (by decide +kernel)
set_option maxRecDepth 20000 in
theorem gX7_watcher_X7_in : GoodIn wsX7_watcher (va_wsS RX7 71 yX7_in wsX7_in) := goodIn_app (goodIn_of _ (by decide +kernel)) ggX7_watcher_X7_in
theorem dX7_watcher_0 : decode cX7_watcher 0 = .ok (.iload_n 1, 1) := by decide +kernel
theorem dX7_watcher_1 : decode cX7_watcher 1 = .ok (.i2l, 1) := by decide +kernel
theorem dX7_watcher_2 : decode cX7_watcher 2 = .ok (.lconst 0, 1) := by decide +kernel
theorem dX7_watcher_3 : decode cX7_watcher 3 = .ok (.ldc2_w 102, 3) := by decide +kernel
theorem dX7_watcher_6 : decode cX7_watcher 6 = .ok (.invokestatic 71, 3) := by decide +kernel
theorem dX7_watcher_9 : decode cX7_watcher 9 = .ok (.ifCond .ne 5, 3) := by decide +kernel
theorem dX7_watcher_12 : decode cX7_watcher 12 = .ok (.iconst (-1), 1) := by decide +kernel
theorem dX7_watcher_13 : decode cX7_watcher 13 = .ok (.ireturn, 1) := by decide +kernel
theorem dX7_watcher_14 : decode cX7_watcher 14 = .ok (.iload_n 2, 1) := by decide +kernel
theorem dX7_watcher_15 : decode cX7_watcher 15 = .ok (.i2l, 1) := by decide +kernel
theorem dX7_watcher_16 : decode cX7_watcher 16 = .ok (.lconst 1, 1) := by decide +kernel
theorem dX7_watcher_17 : decode cX7_watcher 17 = .ok (.ldc2_w 75, 3) := by decide +kernel
theorem dX7_watcher_20 : decode cX7_watcher 20 = .ok (.invokestatic 71, 3) := by decide +kernel
theorem dX7_watcher_23 : decode cX7_watcher 23 = .ok (.ifCond .ne 6, 3) := by decide +kernel
theorem dX7_watcher_26 : decode cX7_watcher 26 = .ok (.bipush (-2), 2) := by decide +kernel
theorem dX7_watcher_28 : decode cX7_watcher 28 = .ok (.ireturn, 1) := by decide +kernel
theorem dX7_watcher_29 : decode cX7_watcher 29 = .ok (.aload_n 0, 1) := by decide +kernel
theorem dX7_watcher_30 : decode cX7_watcher 30 = .ok (.getfield 13, 3) := by decide +kernel
theorem dX7_watcher_33 : decode cX7_watcher 33 = .ok (.iload_n 1, 1) := by decide +kernel
theorem dX7_watcher_34 : decode cX7_watcher 34 = .ok (.iaload, 1) := by decide +kernel
theorem dX7_watcher_35 : decode cX7_watcher 35 = .ok (.istore_n 3, 1) := by decide +kernel
theorem dX7_watcher_36 : decode cX7_watcher 36 = .ok (.aload_n 0, 1) := by decide +kernel
theorem dX7_watcher_37 : decode cX7_watcher 37 = .ok (.getfield 13, 3) := by decide +kernel
theorem dX7_watcher_40 : decode cX7_watcher 40 = .ok (.iload_n 1, 1) := by decide +kernel
theorem dX7_watcher_41 : decode cX7_watcher 41 = .ok (.iload_n 2, 1) := by decide +kernel
theorem dX7_watcher_42 : decode cX7_watcher 42 = .ok (.iastore, 1) := by decide +kernel
theorem dX7_watcher_43 : decode cX7_watcher 43 = .ok (.iload_n 3, 1) := by decide +kernel
theorem dX7_watcher_44 : decode cX7_watcher 44 = .ok (.ireturn, 1) := by decide +kernel
set_option maxRecDepth 20000 in
theorem ggX7_fog_X7_in : GoodIn wsX7_fog wsX7_in := goodIn_r _ [6] (by decide +kernel) (by decide +kernel)
set_option maxRecDepth 20000 in
theorem gX7_fog_X7_in : GoodIn wsX7_fog (va_wsS RX7 71 yX7_in wsX7_in) := goodIn_app (goodIn_of _ (by decide +kernel)) ggX7_fog_X7_in
theorem dX7_fog_0 : decode cX7_fog 0 = .ok (.iload_n 1, 1) := by decide +kernel
theorem dX7_fog_1 : decode cX7_fog 1 = .ok (.i2l, 1) := by decide +kernel
theorem dX7_fog_2 : decode cX7_fog 2 = .ok (.lconst 0, 1) := by decide +kernel
theorem dX7_fog_3 : decode cX7_fog 3 = .ok (.ldc2_w 75, 3) := by decide +kernel
theorem dX7_fog_6 : decode cX7_fog 6 = .ok (.invokestatic 71, 3) := by decide +kernel
theorem dX7_fog_9 : decode cX7_fog 9 = .ok (.ifCond .ne 6, 3) := by decide +kernel
theorem dX7_fog_12 : decode cX7_fog 12 = .ok (.bipush (-2), 2) := by decide +kernel
theorem dX7_fog_14 : decode cX7_fog 14 = .ok (.ireturn, 1) := by decide +kernel
theorem dX7_fog_15 : decode cX7_fog 15 = .ok (.aload_n 0, 1) := by decide +kernel
theorem dX7_fog_16 : decode cX7_fog 16 = .ok (.getfield 104, 3) := by decide +kernel
theorem dX7_fog_19 : decode cX7_fog 19 = .ok (.istore_n 2, 1) := by decide +kernel
theorem dX7_fog_20 : decode cX7_fog 20 = .ok (.aload_n 0, 1) := by decide +kernel
theorem dX7_fog_21 : decode cX7_fog 21 = .ok (.iload_n 1, 1) := by decide +kernel
theorem dX7_fog_22 : decode cX7_fog 22 = .ok (.putfield 104, 3) := by decide +kernel
theorem dX7_fog_25 : decode cX7_fog 25 = .ok (.iload_n 2, 1) := by decide +kernel
theorem dX7_fog_26 : decode cX7_fog 26 = .ok (.ireturn, 1) := by decide +kernel
set_option maxRecDepth 20000 in
theorem ggX7_say_X7_in : GoodIn wsX7_say wsX7_in := goodIn_r _ [8] (by decide +kernel) (by decide +kernel)
set_option maxRecDepth 20000 in
theorem gX7_say_X7_in : GoodIn wsX7_say (va_wsS RX7 71 yX7_in wsX7_in) := goodIn_app (goodIn_of _ (by decide +kernel)) ggX7_say_X7_in
theorem dX7_say_0 : decode cX7_say 0 = .ok (.iload_n 1, 1) := by decide +kernel
theorem dX7_say_1 : decode cX7_say 1 = .ok (.i2l, 1) := by decide +kernel
theorem dX7_say_2 : decode cX7_say 2 = .ok (.ldc2_w 107, 3) := by decide +kernel
theorem dX7_say_5 : decode cX7_say 5 = .ok (.ldc2_w 109, 3) := by decide +kernel
theorem dX7_say_8 : decode cX7_say 8 = .ok (.invokestatic 71, 3) := by decide +kernel
theorem dX7_say_11 : decode cX7_say 11 = .ok (.ifCond .ne 6, 3) := by decide +kernel
theorem dX7_say_14 : decode cX7_say 14 = .ok (.bipush (-2), 2) := by decide +kernel
theorem dX7_say_16 : decode cX7_say 16 = .ok (.ireturn, 1) := by decide +kernel
theorem dX7_say_17 : decode cX7_say 17 = .ok (.aload_n 0, 1) := by decide +kernel
theorem dX7_say_18 : decode cX7_say 18 = .ok (.getfield 111, 3) := by decide +kernel
theorem dX7_say_21 : decode cX7_say 21 = .ok (.bipush 60, 2) := by decide +kernel
theorem dX7_say_23 : decode cX7_say 23 = .ok (.if_icmp .ne 6, 3) := by decide +kernel
theorem dX7_say_26 : decode cX7_say 26 = .ok (.bipush (-4), 2) := by decide +kernel
theorem dX7_say_28 : decode cX7_say 28 = .ok (.ireturn, 1) := by decide +kernel
theorem dX7_say_29 : decode cX7_say 29 = .ok (.aload_n 0, 1) := by decide +kernel
theorem dX7_say_30 : decode cX7_say 30 = .ok (.getfield 25, 3) := by decide +kernel
theorem dX7_say_33 : decode cX7_say 33 = .ok (.aload_n 0, 1) := by decide +kernel
theorem dX7_say_34 : decode cX7_say 34 = .ok (.getfield 111, 3) := by decide +kernel
theorem dX7_say_37 : decode cX7_say 37 = .ok (.iload_n 1, 1) := by decide +kernel
theorem dX7_say_38 : decode cX7_say 38 = .ok (.iastore, 1) := by decide +kernel
theorem dX7_say_39 : decode cX7_say 39 = .ok (.aload_n 0, 1) := by decide +kernel
theorem dX7_say_40 : decode cX7_say 40 = .ok (.dup, 1) := by decide +kernel
theorem dX7_say_41 : decode cX7_say 41 = .ok (.getfield 111, 3) := by decide +kernel
theorem dX7_say_44 : decode cX7_say 44 = .ok (.iconst 1, 1) := by decide +kernel
theorem dX7_say_45 : decode cX7_say 45 = .ok (.iadd, 1) := by decide +kernel
theorem dX7_say_46 : decode cX7_say 46 = .ok (.putfield 111, 3) := by decide +kernel
theorem dX7_say_49 : decode cX7_say 49 = .ok (.aload_n 0, 1) := by decide +kernel
theorem dX7_say_50 : decode cX7_say 50 = .ok (.getfield 111, 3) := by decide +kernel
theorem dX7_say_53 : decode cX7_say 53 = .ok (.ireturn, 1) := by decide +kernel
theorem dX7_wipe_0 : decode cX7_wipe 0 = .ok (.aload_n 0, 1) := by decide +kernel
theorem dX7_wipe_1 : decode cX7_wipe 1 = .ok (.getfield 111, 3) := by decide +kernel
theorem dX7_wipe_4 : decode cX7_wipe 4 = .ok (.istore_n 1, 1) := by decide +kernel
theorem dX7_wipe_5 : decode cX7_wipe 5 = .ok (.aload_n 0, 1) := by decide +kernel
theorem dX7_wipe_6 : decode cX7_wipe 6 = .ok (.iconst 0, 1) := by decide +kernel
theorem dX7_wipe_7 : decode cX7_wipe 7 = .ok (.putfield 111, 3) := by decide +kernel
theorem dX7_wipe_10 : decode cX7_wipe 10 = .ok (.iload_n 1, 1) := by decide +kernel
theorem dX7_wipe_11 : decode cX7_wipe 11 = .ok (.ireturn, 1) := by decide +kernel
theorem dX7_close_0 : decode cX7_close 0 = .ok (.aload_n 0, 1) := by decide +kernel
theorem dX7_close_1 : decode cX7_close 1 = .ok (.getfield 28, 3) := by decide +kernel
theorem dX7_close_4 : decode cX7_close 4 = .ok (.aload_n 0, 1) := by decide +kernel
theorem dX7_close_5 : decode cX7_close 5 = .ok (.getfield 114, 3) := by decide +kernel
theorem dX7_close_8 : decode cX7_close 8 = .ok (.iload_n 1, 1) := by decide +kernel
theorem dX7_close_9 : decode cX7_close 9 = .ok (.iastore, 1) := by decide +kernel
theorem dX7_close_10 : decode cX7_close 10 = .ok (.aload_n 0, 1) := by decide +kernel
theorem dX7_close_11 : decode cX7_close 11 = .ok (.dup, 1) := by decide +kernel
theorem dX7_close_12 : decode cX7_close 12 = .ok (.getfield 114, 3) := by decide +kernel
theorem dX7_close_15 : decode cX7_close 15 = .ok (.iconst 1, 1) := by decide +kernel
theorem dX7_close_16 : decode cX7_close 16 = .ok (.iadd, 1) := by decide +kernel
theorem dX7_close_17 : decode cX7_close 17 = .ok (.putfield 114, 3) := by decide +kernel
theorem dX7_close_20 : decode cX7_close 20 = .ok (.iconst 0, 1) := by decide +kernel
theorem dX7_close_21 : decode cX7_close 21 = .ok (.ireturn, 1) := by decide +kernel
set_option maxRecDepth 20000 in
theorem ggX7_begin_X7_in : GoodIn wsX7_begin wsX7_in := goodIn_r _ [8] (by decide +kernel) (by decide +kernel)
set_option maxRecDepth 20000 in
theorem gX7_begin_X7_in : GoodIn wsX7_begin (va_wsS RX7 71 yX7_in wsX7_in) := goodIn_app (goodIn_of _ (by decide +kernel)) ggX7_begin_X7_in
set_option maxRecDepth 20000 in
theorem ggX7_begin_X7_close : GoodIn wsX7_begin wsX7_close := goodIn_r _ [12, 13, 4, 14, 15, 16, 17, 18, 19, 20, 21, 22, 23, 24, 25, 26, 27, 28, 29, 30, 31, 32, 33, 34, 35, 36, 37, 38, 39, 40, 41, 42, 43, 44, 45, 46, 47] (by decide +kernel) (by decide +kernel)
set_option maxRecDepth 20000 in
theorem gX7_begin_X7_close : GoodIn wsX7_begin (wsV RX7 121 RX7 yX7_close wsX7_close) := goodIn_app (goodIn_of _ (by decide +kernel)) ggX7_begin_X7_close
theorem dX7_begin_0 : decode cX7_begin 0 = .ok (.iload_n 1, 1) := by decide +kernel
theorem dX7_begin_1 : decode cX7_begin 1 = .ok (.i2l, 1) := by decide +kernel
theorem dX7_begin_2 : decode cX7_begin 2 = .ok (.ldc2_w 117, 3) := by decide +kernel
theorem dX7_begin_5 : decode cX7_begin 5 = .ok (.ldc2_w 119, 3) := by decide +kernel
theorem dX7_begin_8 : decode cX7_begin 8 = .ok (.invokestatic 71, 3) := by decide +kernel
theorem dX7_begin_11 : decode cX7_begin 11 = .ok (.istore_n 2, 1) := by decide +kernel
theorem dX7_begin_12 : decode cX7_begin 12 = .ok (.aload_n 0, 1) := by decide +kernel
theorem dX7_begin_13 : decode cX7_begin 13 = .ok (.getfield 31, 3) := by decide +kernel
theorem dX7_begin_16 : decode cX7_begin 16 = .ok (.aload_n 0, 1) := by decide +kernel
theorem dX7_begin_17 : decode cX7_begin 17 = .ok (.getfield 114, 3) := by decide +kernel
theorem dX7_begin_20 : decode cX7_begin 20 = .ok (.iload_n 2, 1) := by decide +kernel
theorem dX7_begin_21 : decode cX7_begin 21 = .ok (.ifCond .eq 10, 3) := by decide +kernel
theorem dX7_begin_24 : decode cX7_begin 24 = .ok (.iload_n 1, 1) := by decide +kernel
theorem dX7_begin_25 : decode cX7_begin 25 = .ok (.bipush 65, 2) := by decide +kernel
theorem dX7_begin_27 : decode cX7_begin 27 = .ok (.isub, 1) := by decide +kernel
theorem dX7_begin_28 : decode cX7_begin 28 = .ok (.goto 4, 3) := by decide +kernel
theorem dX7_begin_31 : decode cX7_begin 31 = .ok (.iconst 0, 1) := by decide +kernel
theorem dX7_begin_32 : decode cX7_begin 32 = .ok (.iastore, 1) := by decide +kernel
theorem dX7_begin_33 : decode cX7_begin 33 = .ok (.iload_n 1, 1) := by decide +kernel
theorem dX7_begin_34 : decode cX7_begin 34 = .ok (.lookupswitch 58 #[(46, 52), (99, 46), (102, 44), (119, 42)], 42) := by decide +kernel
theorem dX7_begin_76 : decode cX7_begin 76 = .ok (.iconst 2, 1) := by decide +kernel
theorem dX7_begin_77 : decode cX7_begin 77 = .ok (.ireturn, 1) := by decide +kernel
theorem dX7_begin_78 : decode cX7_begin 78 = .ok (.iconst 3, 1) := by decide +kernel
theorem dX7_begin_79 : decode cX7_begin 79 = .ok (.ireturn, 1) := by decide +kernel
theorem dX7_begin_80 : decode cX7_begin 80 = .ok (.aload_n 0, 1) := by decide +kernel
theorem dX7_begin_81 : decode cX7_begin 81 = .ok (.iconst 4, 1) := by decide +kernel
theorem dX7_begin_82 : decode cX7_begin 82 = .ok (.invokevirtual 121, 3) := by decide +kernel
theorem dX7_begin_85 : decode cX7_begin 85 = .ok (.ireturn, 1) := by decide +kernel
theorem dX7_begin_86 : decode cX7_begin 86 = .ok (.aload_n 0, 1) := by decide +kernel
theorem dX7_begin_87 : decode cX7_begin 87 = .ok (.iconst 5, 1) := by decide +kernel
theorem dX7_begin_88 : decode cX7_begin 88 = .ok (.invokevirtual 121, 3) := by decide +kernel
theorem dX7_begin_91 : decode cX7_begin 91 = .ok (.ireturn, 1) := by decide +kernel
theorem dX7_begin_92 : decode cX7_begin 92 = .ok (.iload_n 2, 1) := by decide +kernel
theorem dX7_begin_93 : decode cX7_begin 93 = .ok (.ifCond .eq 7, 3) := by decide +kernel
theorem dX7_begin_96 : decode cX7_begin 96 = .ok (.iconst 1, 1) := by decide +kernel
theorem dX7_begin_97 : decode cX7_begin 97 = .ok (.goto 5, 3) := by decide +kernel
theorem dX7_begin_100 : decode cX7_begin 100 = .ok (.bipush (-6), 2) := by decide +kernel
theorem dX7_begin_102 : decode cX7_begin 102 = .ok (.ireturn, 1) := by decide +kernel
set_option maxRecDepth 20000 in
theorem ggX7_digit_X7_in : GoodIn wsX7_digit wsX7_in := goodIn_r _ [8] (by decide +kernel) (by decide +kernel)
set_option maxRecDepth 20000 in
theorem gX7_digit_X7_in : GoodIn wsX7_digit (va_wsS RX7 71 yX7_in wsX7_in) := goodIn_app (goodIn_of _ (by decide +kernel)) ggX7_digit_X7_in
set_option maxRecDepth 20000 in
theorem ggX7_digit_X7_close : GoodIn wsX7_digit wsX7_close := goodIn_r _ [12, 13, 2, 14, 15, 16, 17, 18, 19, 20, 21, 22, 23, 24, 25, 26, 27, 28, 29, 30, 31, 32, 33, 34, 35, 36, 37, 38, 39, 40, 41, 42, 43, 44, 45, 46, 47] (by decide +kernel) (by decide +kernel)
set_option maxRecDepth 20000 in
theorem gX7_digit_X7_close : GoodIn wsX7_digit (wsV RX7 121 RX7 yX7_close wsX7_close) := goodIn_app (goodIn_of _ (by decide +kernel)) ggX7_digit_X7_close
theorem dX7_digit_0 : decode cX7_digit 0 = .ok (.aload_n 0, 1) := by decide +kernel
theorem dX7_digit_1 : decode cX7_digit 1 = .ok (.getfield 31, 3) := by decide +kernel
theorem dX7_digit_4 : decode cX7_digit 4 = .ok (.aload_n 0, 1) := by decide +kernel
theorem dX7_digit_5 : decode cX7_digit 5 = .ok (.getfield 114, 3) := by decide +kernel
theorem dX7_digit_8 : decode cX7_digit 8 = .ok (.iload_n 2, 1) := by decide +kernel
theorem dX7_digit_9 : decode cX7_digit 9 = .ok (.bipush 48, 2) := by decide +kernel
theorem dX7_digit_11 : decode cX7_digit 11 = .ok (.isub, 1) := by decide +kernel
theorem dX7_digit_12 : decode cX7_digit 12 = .ok (.iastore, 1) := by decide +kernel
theorem dX7_digit_13 : decode cX7_digit 13 = .ok (.iload_n 2, 1) := by decide +kernel
theorem dX7_digit_14 : decode cX7_digit 14 = .ok (.i2l, 1) := by decide +kernel
theorem dX7_digit_15 : decode cX7_digit 15 = .ok (.ldc2_w 124, 3) := by decide +kernel
theorem dX7_digit_18 : decode cX7_digit 18 = .ok (.ldc2_w 126, 3) := by decide +kernel
theorem dX7_digit_21 : decode cX7_digit 21 = .ok (.invokestatic 71, 3) := by decide +kernel
theorem dX7_digit_24 : decode cX7_digit 24 = .ok (.ifCond .eq 20, 3) := by decide +kernel
theorem dX7_digit_27 : decode cX7_digit 27 = .ok (.aload_n 0, 1) := by decide +kernel
theorem dX7_digit_28 : decode cX7_digit 28 = .ok (.iload_n 1, 1) := by decide +kernel
theorem dX7_digit_29 : decode cX7_digit 29 = .ok (.iconst 2, 1) := by decide +kernel
theorem dX7_digit_30 : decode cX7_digit 30 = .ok (.if_icmp .ne 7, 3) := by decide +kernel
theorem dX7_digit_33 : decode cX7_digit 33 = .ok (.iconst 2, 1) := by decide +kernel
theorem dX7_digit_34 : decode cX7_digit 34 = .ok (.goto 4, 3) := by decide +kernel
theorem dX7_digit_37 : decode cX7_digit 37 = .ok (.iconst 3, 1) := by decide +kernel
theorem dX7_digit_38 : decode cX7_digit 38 = .ok (.invokevirtual 121, 3) := by decide +kernel
theorem dX7_digit_41 : decode cX7_digit 41 = .ok (.goto 5, 3) := by decide +kernel
theorem dX7_digit_44 : decode cX7_digit 44 = .ok (.bipush (-6), 2) := by decide +kernel
theorem dX7_digit_46 : decode cX7_digit 46 = .ok (.ireturn, 1) := by decide +kernel
set_option maxRecDepth 20000 in
theorem ggX7_readOn_X7_begin : GoodIn wsX7_readOn wsX7_begin := goodIn_r _ [5, 6, 7, 8, 9, 10, 11, 4, 12, 13, 14, 15, 16, 17, 24, 25, 26, 27, 28, 29, 30, 31, 32, 33, 34, 35, 36, 37, 38, 39, 40, 41, 42, 43, 44, 45, 46, 47, 48, 49, 50, 51, 52, 53, 54, 55, 56, 57] (by decide +kernel) (by decide +kernel)
set_option maxRecDepth 20000 in
theorem gX7_readOn_X7_begin : GoodIn wsX7_readOn (wsV RX7 128 RX7 yX7_begin wsX7_begin) := goodIn_app (goodIn_of _ (by decide +kernel)) ggX7_readOn_X7_begin
set_option maxRecDepth 20000 in
theorem ggX7_readOn_X7_close : GoodIn wsX7_readOn wsX7_close := goodIn_r _ [16, 17, 9, 24, 25, 26, 27, 28, 29, 30, 31, 32, 33, 34, 35, 36, 37, 38, 39, 40, 41, 42, 43, 44, 45, 46, 47, 48, 49, 50, 51, 52, 53, 54, 55, 56, 57] (by decide +kernel) (by decide +kernel)
set_option maxRecDepth 20000 in
theorem gX7_readOn_X7_close : GoodIn wsX7_readOn (wsV RX7 121 RX7 yX7_close wsX7_close) := goodIn_app (goodIn_of _ (by decide +kernel)) ggX7_readOn_X7_close
set_option maxRecDepth 20000 in
theorem ggX7_readOn_X7_digit : GoodIn wsX7_readOn wsX7_digit := goodIn_r _ [21, 8, 9, 22, 23, 10, 11, 4, 12, 13, 14, 15, 16, 17, 24, 25, 26, 27, 28, 29, 30, 31, 32, 33, 34, 35, 36, 37, 38, 39, 40, 41, 42, 43, 44, 45, 46, 47, 48, 49, 50, 51, 52, 53, 54, 55, 56, 57] (by decide +kernel) (by decide +kernel)
set_option maxRecDepth 20000 in
theorem gX7_readOn_X7_digit : GoodIn wsX7_readOn (wsV RX7 131 RX7 yX7_digit wsX7_digit) := goodIn_app (goodIn_of _ (by decide +kernel)) ggX7_readOn_X7_digit
theorem dX7_readOn_0 : decode cX7_readOn 0 = .ok (.iload_n 1, 1) := by decide +kernel
theorem dX7_readOn_1 : decode cX7_readOn 1 = .ok (.ifCond .ne 9, 3) := by decide +kernel
theorem dX7_readOn_4 : decode cX7_readOn 4 = .ok (.aload_n 0, 1) := by decide +kernel
theorem dX7_readOn_5 : decode cX7_readOn 5 = .ok (.iload_n 2, 1) := by decide +kernel
theorem dX7_readOn_6 : decode cX7_readOn 6 = .ok (.invokevirtual 128, 3) := by decide +kernel
theorem dX7_readOn_9 : decode cX7_readOn 9 = .ok (.ireturn, 1) := by decide +kernel
theorem dX7_readOn_10 : decode cX7_readOn 10 = .ok (.iload_n 1, 1) := by decide +kernel
theorem dX7_readOn_11 : decode cX7_readOn 11 = .ok (.iconst 1, 1) := by decide +kernel
theorem dX7_readOn_12 : decode cX7_readOn 12 = .ok (.if_icmp .ne 34, 3) := by decide +kernel
theorem dX7_readOn_15 : decode cX7_readOn 15 = .ok (.iload_n 2, 1) := by decide +kernel
theorem dX7_readOn_16 : decode cX7_readOn 16 = .ok (.bipush 94, 2) := by decide +kernel
theorem dX7_readOn_18 : decode cX7_readOn 18 = .ok (.if_icmp .ne 11, 3) := by decide +kernel
theorem dX7_readOn_21 : decode cX7_readOn 21 = .ok (.aload_n 0, 1) := by decide +kernel
theorem dX7_readOn_22 : decode cX7_readOn 22 = .ok (.iconst 0, 1) := by decide +kernel
theorem dX7_readOn_23 : decode cX7_readOn 23 = .ok (.invokevirtual 121, 3) := by decide +kernel
theorem dX7_readOn_26 : decode cX7_readOn 26 = .ok (.goto 19, 3) := by decide +kernel
theorem dX7_readOn_29 : decode cX7_readOn 29 = .ok (.iload_n 2, 1) := by decide +kernel
theorem dX7_readOn_30 : decode cX7_readOn 30 = .ok (.bipush 95, 2) := by decide +kernel
theorem dX7_readOn_32 : decode cX7_readOn 32 = .ok (.if_icmp .ne 11, 3) := by decide +kernel
theorem dX7_readOn_35 : decode cX7_readOn 35 = .ok (.aload_n 0, 1) := by decide +kernel
theorem dX7_readOn_36 : decode cX7_readOn 36 = .ok (.iconst 1, 1) := by decide +kernel
theorem dX7_readOn_37 : decode cX7_readOn 37 = .ok (.invokevirtual 121, 3) := by decide +kernel
theorem dX7_readOn_40 : decode cX7_readOn 40 = .ok (.goto 5, 3) := by decide +kernel
theorem dX7_readOn_43 : decode cX7_readOn 43 = .ok (.bipush (-6), 2) := by decide +kernel
theorem dX7_readOn_45 : decode cX7_readOn 45 = .ok (.ireturn, 1) := by decide +kernel
theorem dX7_readOn_46 : decode cX7_readOn 46 = .ok (.aload_n 0, 1) := by decide +kernel
theorem dX7_readOn_47 : decode cX7_readOn 47 = .ok (.iload_n 1, 1) := by decide +kernel
theorem dX7_readOn_48 : decode cX7_readOn 48 = .ok (.iload_n 2, 1) := by decide +kernel
theorem dX7_readOn_49 : decode cX7_readOn 49 = .ok (.invokevirtual 131, 3) := by decide +kernel
theorem dX7_readOn_52 : decode cX7_readOn 52 = .ok (.ireturn, 1) := by decide +kernel
set_option maxRecDepth 20000 in
theorem ggX7_fault_X7_readOn : GoodIn wsX7_fault wsX7_readOn := goodIn_r _ [8, 9, 10, 11, 7, 12, 13, 14, 15, 1, 16, 17, 18, 19, 20, 21, 22, 23, 24, 25, 26, 27, 28, 29, 30, 31, 32, 33, 34, 35, 36, 37, 38, 39, 40, 41, 42, 43, 44, 45, 46, 47, 48, 49, 50, 51, 52, 53, 54, 55, 56, 57, 58, 59, 60, 61, 62, 63] (by decide +kernel) (by decide +kernel)
set_option maxRecDepth 20000 in
theorem gX7_fault_X7_readOn : GoodIn wsX7_fault (wsV RX7 134 RX7 yX7_readOn wsX7_readOn) := goodIn_app (goodIn_of _ (by decide +kernel)) ggX7_fault_X7_readOn
theorem dX7_fault_0 : decode cX7_fault 0 = .ok (.aload_n 0, 1) := by decide +kernel
theorem dX7_fault_1 : decode cX7_fault 1 = .ok (.iconst 0, 1) := by decide +kernel
theorem dX7_fault_2 : decode cX7_fault 2 = .ok (.putfield 114, 3) := by decide +kernel
theorem dX7_fault_5 : decode cX7_fault 5 = .ok (.iconst 0, 1) := by decide +kernel
theorem dX7_fault_6 : decode cX7_fault 6 = .ok (.istore_n 1, 1) := by decide +kernel
theorem dX7_fault_7 : decode cX7_fault 7 = .ok (.iconst 0, 1) := by decide +kernel
theorem dX7_fault_8 : decode cX7_fault 8 = .ok (.istore_n 2, 1) := by decide +kernel
theorem dX7_fault_9 : decode cX7_fault 9 = .ok (.iload_n 2, 1) := by decide +kernel
theorem dX7_fault_10 : decode cX7_fault 10 = .ok (.aload_n 0, 1) := by decide +kernel
theorem dX7_fault_11 : decode cX7_fault 11 = .ok (.getfield 111, 3) := by decide +kernel
theorem dX7_fault_14 : decode cX7_fault 14 = .ok (.if_icmp .ge 27, 3) := by decide +kernel
theorem dX7_fault_17 : decode cX7_fault 17 = .ok (.aload_n 0, 1) := by decide +kernel
theorem dX7_fault_18 : decode cX7_fault 18 = .ok (.iload_n 1, 1) := by decide +kernel
theorem dX7_fault_19 : decode cX7_fault 19 = .ok (.aload_n 0, 1) := by decide +kernel
theorem dX7_fault_20 : decode cX7_fault 20 = .ok (.getfield 25, 3) := by decide +kernel
theorem dX7_fault_23 : decode cX7_fault 23 = .ok (.iload_n 2, 1) := by decide +kernel
theorem dX7_fault_24 : decode cX7_fault 24 = .ok (.iaload, 1) := by decide +kernel
theorem dX7_fault_25 : decode cX7_fault 25 = .ok (.invokevirtual 134, 3) := by decide +kernel
theorem dX7_fault_28 : decode cX7_fault 28 = .ok (.istore_n 1, 1) := by decide +kernel
theorem dX7_fault_29 : decode cX7_fault 29 = .ok (.iload_n 1, 1) := by decide +kernel
theorem dX7_fault_30 : decode cX7_fault 30 = .ok (.ifCond .ge 5, 3) := by decide +kernel
theorem dX7_fault_33 : decode cX7_fault 33 = .ok (.iload_n 2, 1) := by decide +kernel
theorem dX7_fault_34 : decode cX7_fault 34 = .ok (.ireturn, 1) := by decide +kernel
theorem dX7_fault_35 : decode cX7_fault 35 = .ok (.iinc 2 1, 3) := by decide +kernel
theorem dX7_fault_38 : decode cX7_fault 38 = .ok (.goto (-29), 3) := by decide +kernel
theorem dX7_fault_41 : decode cX7_fault 41 = .ok (.iload_n 1, 1) := by decide +kernel
theorem dX7_fault_42 : decode cX7_fault 42 = .ok (.ifCond .ne 8, 3) := by decide +kernel
theorem dX7_fault_45 : decode cX7_fault 45 = .ok (.bipush (-6), 2) := by decide +kernel
theorem dX7_fault_47 : decode cX7_fault 47 = .ok (.goto 7, 3) := by decide +kernel
theorem dX7_fault_50 : decode cX7_fault 50 = .ok (.aload_n 0, 1) := by decide +kernel
theorem dX7_fault_51 : decode cX7_fault 51 = .ok (.getfield 111, 3) := by decide +kernel
theorem dX7_fault_54 : decode cX7_fault 54 = .ok (.ireturn, 1) := by decide +kernel
set_option maxRecDepth 20000 in
theorem ggX7_whyNoSail_X7_ahead : GoodIn wsX7_whyNoSail wsX7_ahead := goodIn_r _ [7, 8, 9, 6, 10, 11, 12, 13, 14, 15, 16, 17, 18, 19, 20] (by decide +kernel) (by decide +kernel)
set_option maxRecDepth 20000 in
theorem gX7_whyNoSail_X7_ahead : GoodIn wsX7_whyNoSail (va_wsS RX7 137 yX7_ahead wsX7_ahead) := goodIn_app (goodIn_of _ (by decide +kernel)) ggX7_whyNoSail_X7_ahead
theorem dX7_whyNoSail_0 : decode cX7_whyNoSail 0 = .ok (.aload_n 0, 1) := by decide +kernel
theorem dX7_whyNoSail_1 : decode cX7_whyNoSail 1 = .ok (.getfield 66, 3) := by decide +kernel
theorem dX7_whyNoSail_4 : decode cX7_whyNoSail 4 = .ok (.ifCond .ge 7, 3) := by decide +kernel
theorem dX7_whyNoSail_7 : decode cX7_whyNoSail 7 = .ok (.iconst 2, 1) := by decide +kernel
theorem dX7_whyNoSail_8 : decode cX7_whyNoSail 8 = .ok (.goto 30, 3) := by decide +kernel
theorem dX7_whyNoSail_11 : decode cX7_whyNoSail 11 = .ok (.aload_n 0, 1) := by decide +kernel
theorem dX7_whyNoSail_12 : decode cX7_whyNoSail 12 = .ok (.getfield 63, 3) := by decide +kernel
theorem dX7_whyNoSail_15 : decode cX7_whyNoSail 15 = .ok (.ifCond .ne 7, 3) := by decide +kernel
theorem dX7_whyNoSail_18 : decode cX7_whyNoSail 18 = .ok (.iconst 3, 1) := by decide +kernel
theorem dX7_whyNoSail_19 : decode cX7_whyNoSail 19 = .ok (.goto 19, 3) := by decide +kernel
theorem dX7_whyNoSail_22 : decode cX7_whyNoSail 22 = .ok (.aload_n 0, 1) := by decide +kernel
theorem dX7_whyNoSail_23 : decode cX7_whyNoSail 23 = .ok (.getfield 59, 3) := by decide +kernel
theorem dX7_whyNoSail_26 : decode cX7_whyNoSail 26 = .ok (.iload_n 1, 1) := by decide +kernel
theorem dX7_whyNoSail_27 : decode cX7_whyNoSail 27 = .ok (.invokestatic 137, 3) := by decide +kernel
theorem dX7_whyNoSail_30 : decode cX7_whyNoSail 30 = .ok (.ifCond .ge 7, 3) := by decide +kernel
theorem dX7_whyNoSail_33 : decode cX7_whyNoSail 33 = .ok (.iconst 4, 1) := by decide +kernel
theorem dX7_whyNoSail_34 : decode cX7_whyNoSail 34 = .ok (.goto 4, 3) := by decide +kernel
theorem dX7_whyNoSail_37 : decode cX7_whyNoSail 37 = .ok (.iconst 0, 1) := by decide +kernel
theorem dX7_whyNoSail_38 : decode cX7_whyNoSail 38 = .ok (.ireturn, 1) := by decide +kernel
set_option maxRecDepth 20000 in
theorem ggX7_whyNot_X7_whyNoSail : GoodIn wsX7_whyNot wsX7_whyNoSail := goodIn_r _ [8, 1, 9, 10, 11, 12, 7, 13, 14, 15, 16, 17, 18, 19, 20, 21, 22, 23, 24, 25, 26, 27, 28, 29, 30, 31, 32, 33, 34, 35, 36, 37, 38, 39, 40, 41, 42, 43, 44, 45, 46, 47, 48, 49, 50, 51, 52, 53, 54, 55, 56, 57, 58, 59, 60] (by decide +kernel) (by decide +kernel)
set_option maxRecDepth 20000 in
theorem gX7_whyNot_X7_whyNoSail : GoodIn wsX7_whyNot (wsV RX7 140 RX7 yX7_whyNoSail wsX7_whyNoSail) := goodIn_app (goodIn_of _ (by decide +kernel)) ggX7_whyNot_X7_whyNoSail
theorem dX7_whyNot_0 : decode cX7_whyNot 0 = .ok (.iload_n 1, 1) := by decide +kernel
theorem dX7_whyNot_1 : decode cX7_whyNot 1 = .ok (.tableswitch 96 0 4 #[35, 49, 63, 69, 83], 35) := by decide +kernel
theorem dX7_whyNot_36 : decode cX7_whyNot 36 = .ok (.aload_n 0, 1) := by decide +kernel
theorem dX7_whyNot_37 : decode cX7_whyNot 37 = .ok (.getfield 66, 3) := by decide +kernel
theorem dX7_whyNot_40 : decode cX7_whyNot 40 = .ok (.iload_n 2, 1) := by decide +kernel
theorem dX7_whyNot_41 : decode cX7_whyNot 41 = .ok (.if_icmp .ne 7, 3) := by decide +kernel
theorem dX7_whyNot_44 : decode cX7_whyNot 44 = .ok (.iconst 1, 1) := by decide +kernel
theorem dX7_whyNot_45 : decode cX7_whyNot 45 = .ok (.goto 4, 3) := by decide +kernel
theorem dX7_whyNot_48 : decode cX7_whyNot 48 = .ok (.iconst 0, 1) := by decide +kernel
theorem dX7_whyNot_49 : decode cX7_whyNot 49 = .ok (.ireturn, 1) := by decide +kernel
theorem dX7_whyNot_50 : decode cX7_whyNot 50 = .ok (.aload_n 0, 1) := by decide +kernel
theorem dX7_whyNot_51 : decode cX7_whyNot 51 = .ok (.getfield 66, 3) := by decide +kernel
theorem dX7_whyNot_54 : decode cX7_whyNot 54 = .ok (.iload_n 2, 1) := by decide +kernel
theorem dX7_whyNot_55 : decode cX7_whyNot 55 = .ok (.if_icmp .ne 7, 3) := by decide +kernel
theorem dX7_whyNot_58 : decode cX7_whyNot 58 = .ok (.iconst 0, 1) := by decide +kernel
theorem dX7_whyNot_59 : decode cX7_whyNot 59 = .ok (.goto 4, 3) := by decide +kernel
theorem dX7_whyNot_62 : decode cX7_whyNot 62 = .ok (.iconst 1, 1) := by decide +kernel
theorem dX7_whyNot_63 : decode cX7_whyNot 63 = .ok (.ireturn, 1) := by decide +kernel
theorem dX7_whyNot_64 : decode cX7_whyNot 64 = .ok (.aload_n 0, 1) := by decide +kernel
theorem dX7_whyNot_65 : decode cX7_whyNot 65 = .ok (.iload_n 2, 1) := by decide +kernel
theorem dX7_whyNot_66 : decode cX7_whyNot 66 = .ok (.invokevirtual 140, 3) := by decide +kernel
theorem dX7_whyNot_69 : decode cX7_whyNot 69 = .ok (.ireturn, 1) := by decide +kernel
theorem dX7_whyNot_70 : decode cX7_whyNot 70 = .ok (.aload_n 0, 1) := by decide +kernel
theorem dX7_whyNot_71 : decode cX7_whyNot 71 = .ok (.getfield 104, 3) := by decide +kernel
theorem dX7_whyNot_74 : decode cX7_whyNot 74 = .ok (.iload_n 2, 1) := by decide +kernel
theorem dX7_whyNot_75 : decode cX7_whyNot 75 = .ok (.if_icmp .ne 7, 3) := by decide +kernel
theorem dX7_whyNot_78 : decode cX7_whyNot 78 = .ok (.iconst 5, 1) := by decide +kernel
theorem dX7_whyNot_79 : decode cX7_whyNot 79 = .ok (.goto 4, 3) := by decide +kernel
theorem dX7_whyNot_82 : decode cX7_whyNot 82 = .ok (.iconst 0, 1) := by decide +kernel
theorem dX7_whyNot_83 : decode cX7_whyNot 83 = .ok (.ireturn, 1) := by decide +kernel
theorem dX7_whyNot_84 : decode cX7_whyNot 84 = .ok (.aload_n 0, 1) := by decide +kernel
theorem dX7_whyNot_85 : decode cX7_whyNot 85 = .ok (.getfield 66, 3) := by decide +kernel
theorem dX7_whyNot_88 : decode cX7_whyNot 88 = .ok (.ifCond .ge 7, 3) := by decide +kernel
theorem dX7_whyNot_91 : decode cX7_whyNot 91 = .ok (.iconst 2, 1) := by decide +kernel
theorem dX7_whyNot_92 : decode cX7_whyNot 92 = .ok (.goto 4, 3) := by decide +kernel
theorem dX7_whyNot_95 : decode cX7_whyNot 95 = .ok (.iconst 0, 1) := by decide +kernel
theorem dX7_whyNot_96 : decode cX7_whyNot 96 = .ok (.ireturn, 1) := by decide +kernel
theorem dX7_whyNot_97 : decode cX7_whyNot 97 = .ok (.aload_n 0, 1) := by decide +kernel
theorem dX7_whyNot_98 : decode cX7_whyNot 98 = .ok (.getfield 143, 3) := by decide +kernel
theorem dX7_whyNot_101 : decode cX7_whyNot 101 = .ok (.bipush 99, 2) := by decide +kernel
theorem dX7_whyNot_103 : decode cX7_whyNot 103 = .ok (.if_icmp .ne 8, 3) := by decide +kernel
theorem dX7_whyNot_106 : decode cX7_whyNot 106 = .ok (.bipush 6, 2) := by decide +kernel
theorem dX7_whyNot_108 : decode cX7_whyNot 108 = .ok (.goto 4, 3) := by decide +kernel
theorem dX7_whyNot_111 : decode cX7_whyNot 111 = .ok (.iconst 0, 1) := by decide +kernel
theorem dX7_whyNot_112 : decode cX7_whyNot 112 = .ok (.ireturn, 1) := by decide +kernel
theorem dX7_glass_0 : decode cX7_glass 0 = .ok (.aload_n 0, 1) := by decide +kernel
theorem dX7_glass_1 : decode cX7_glass 1 = .ok (.getfield 13, 3) := by decide +kernel
theorem dX7_glass_4 : decode cX7_glass 4 = .ok (.aload_n 0, 1) := by decide +kernel
theorem dX7_glass_5 : decode cX7_glass 5 = .ok (.getfield 66, 3) := by decide +kernel
theorem dX7_glass_8 : decode cX7_glass 8 = .ok (.iaload, 1) := by decide +kernel
theorem dX7_glass_9 : decode cX7_glass 9 = .ok (.aload_n 0, 1) := by decide +kernel
theorem dX7_glass_10 : decode cX7_glass 10 = .ok (.getfield 104, 3) := by decide +kernel
theorem dX7_glass_13 : decode cX7_glass 13 = .ok (.if_icmp .ge 7, 3) := by decide +kernel
theorem dX7_glass_16 : decode cX7_glass 16 = .ok (.iconst 0, 1) := by decide +kernel
theorem dX7_glass_17 : decode cX7_glass 17 = .ok (.goto 17, 3) := by decide +kernel
theorem dX7_glass_20 : decode cX7_glass 20 = .ok (.aload_n 0, 1) := by decide +kernel
theorem dX7_glass_21 : decode cX7_glass 21 = .ok (.getfield 13, 3) := by decide +kernel
theorem dX7_glass_24 : decode cX7_glass 24 = .ok (.aload_n 0, 1) := by decide +kernel
theorem dX7_glass_25 : decode cX7_glass 25 = .ok (.getfield 66, 3) := by decide +kernel
theorem dX7_glass_28 : decode cX7_glass 28 = .ok (.iaload, 1) := by decide +kernel
theorem dX7_glass_29 : decode cX7_glass 29 = .ok (.aload_n 0, 1) := by decide +kernel
theorem dX7_glass_30 : decode cX7_glass 30 = .ok (.getfield 104, 3) := by decide +kernel
theorem dX7_glass_33 : decode cX7_glass 33 = .ok (.isub, 1) := by decide +kernel
theorem dX7_glass_34 : decode cX7_glass 34 = .ok (.istore_n 1, 1) := by decide +kernel
theorem dX7_glass_35 : decode cX7_glass 35 = .ok (.aload_n 0, 1) := by decide +kernel
theorem dX7_glass_36 : decode cX7_glass 36 = .ok (.getfield 146, 3) := by decide +kernel
theorem dX7_glass_39 : decode cX7_glass 39 = .ok (.iconst 2, 1) := by decide +kernel
theorem dX7_glass_40 : decode cX7_glass 40 = .ok (.if_icmp .le 9, 3) := by decide +kernel
theorem dX7_glass_43 : decode cX7_glass 43 = .ok (.iload_n 1, 1) := by decide +kernel
theorem dX7_glass_44 : decode cX7_glass 44 = .ok (.iconst 2, 1) := by decide +kernel
theorem dX7_glass_45 : decode cX7_glass 45 = .ok (.idiv, 1) := by decide +kernel
theorem dX7_glass_46 : decode cX7_glass 46 = .ok (.goto 4, 3) := by decide +kernel
theorem dX7_glass_49 : decode cX7_glass 49 = .ok (.iload_n 1, 1) := by decide +kernel
theorem dX7_glass_50 : decode cX7_glass 50 = .ok (.ireturn, 1) := by decide +kernel
set_option maxRecDepth 20000 in
theorem ggX7_isSeen_X7_far : GoodIn wsX7_isSeen wsX7_far := goodIn_r _ [6, 7, 8, 5, 9] (by decide +kernel) (by decide +kernel)
set_option maxRecDepth 20000 in
theorem gX7_isSeen_X7_far : GoodIn wsX7_isSeen (va_wsS RX7 149 yX7_far wsX7_far) := goodIn_app (goodIn_of _ (by decide +kernel)) ggX7_isSeen_X7_far
set_option maxRecDepth 20000 in
theorem ggX7_isSeen_X7_glass : GoodIn wsX7_isSeen wsX7_glass := goodIn_r _ [13, 14, 15, 16, 17, 18, 19, 20, 21, 22, 23, 24, 25, 26, 27, 28, 29, 30, 31, 32, 33, 34, 35, 36, 37, 38, 39, 40, 41, 42, 43, 44, 45, 46, 47, 48, 49, 50, 51] (by decide +kernel) (by decide +kernel)
set_option maxRecDepth 20000 in
theorem gX7_isSeen_X7_glass : GoodIn wsX7_isSeen (wsV RX7 152 RX7 yX7_glass wsX7_glass) := goodIn_app (goodIn_of _ (by decide +kernel)) ggX7_isSeen_X7_glass
theorem dX7_isSeen_0 : decode cX7_isSeen 0 = .ok (.aload_n 0, 1) := by decide +kernel
theorem dX7_isSeen_1 : decode cX7_isSeen 1 = .ok (.getfield 7, 3) := by decide +kernel
theorem dX7_isSeen_4 : decode cX7_isSeen 4 = .ok (.iload_n 1, 1) := by decide +kernel
theorem dX7_isSeen_5 : decode cX7_isSeen 5 = .ok (.iaload, 1) := by decide +kernel
theorem dX7_isSeen_6 : decode cX7_isSeen 6 = .ok (.iconst 1, 1) := by decide +kernel
theorem dX7_isSeen_7 : decode cX7_isSeen 7 = .ok (.if_icmp .ne 22, 3) := by decide +kernel
theorem dX7_isSeen_10 : decode cX7_isSeen 10 = .ok (.iload_n 1, 1) := by decide +kernel
theorem dX7_isSeen_11 : decode cX7_isSeen 11 = .ok (.aload_n 0, 1) := by decide +kernel
theorem dX7_isSeen_12 : decode cX7_isSeen 12 = .ok (.getfield 59, 3) := by decide +kernel
theorem dX7_isSeen_15 : decode cX7_isSeen 15 = .ok (.invokestatic 149, 3) := by decide +kernel
theorem dX7_isSeen_18 : decode cX7_isSeen 18 = .ok (.aload_n 0, 1) := by decide +kernel
theorem dX7_isSeen_19 : decode cX7_isSeen 19 = .ok (.invokevirtual 152, 3) := by decide +kernel
theorem dX7_isSeen_22 : decode cX7_isSeen 22 = .ok (.if_icmp .gt 7, 3) := by decide +kernel
theorem dX7_isSeen_25 : decode cX7_isSeen 25 = .ok (.iconst 1, 1) := by decide +kernel
theorem dX7_isSeen_26 : decode cX7_isSeen 26 = .ok (.goto 4, 3) := by decide +kernel
theorem dX7_isSeen_29 : decode cX7_isSeen 29 = .ok (.iconst 0, 1) := by decide +kernel
theorem dX7_isSeen_30 : decode cX7_isSeen 30 = .ok (.ireturn, 1) := by decide +kernel
set_option maxRecDepth 20000 in
theorem ggX7_seenMany_X7_isSeen : GoodIn wsX7_seenMany wsX7_isSeen := goodIn_r _ [5, 6, 7, 8, 9, 4, 10, 11, 12, 13, 14, 15, 16, 17, 18, 19, 20, 21, 22, 23, 24, 25, 26, 27, 28, 29, 30, 31, 32, 33, 34, 35, 36, 37, 38, 39, 40, 41, 42, 43, 44, 45, 46, 47, 48, 49, 50, 51, 52, 53, 54, 55] (by decide +kernel) (by decide +kernel)
set_option maxRecDepth 20000 in
theorem gX7_seenMany_X7_isSeen : GoodIn wsX7_seenMany (wsV RX7 155 RX7 yX7_isSeen wsX7_isSeen) := goodIn_app (goodIn_of _ (by decide +kernel)) ggX7_seenMany_X7_isSeen
theorem dX7_seenMany_0 : decode cX7_seenMany 0 = .ok (.iconst 0, 1) := by decide +kernel
theorem dX7_seenMany_1 : decode cX7_seenMany 1 = .ok (.istore_n 1, 1) := by decide +kernel
theorem dX7_seenMany_2 : decode cX7_seenMany 2 = .ok (.iconst 0, 1) := by decide +kernel
theorem dX7_seenMany_3 : decode cX7_seenMany 3 = .ok (.istore_n 2, 1) := by decide +kernel
theorem dX7_seenMany_4 : decode cX7_seenMany 4 = .ok (.iload_n 2, 1) := by decide +kernel
theorem dX7_seenMany_5 : decode cX7_seenMany 5 = .ok (.bipush 64, 2) := by decide +kernel
theorem dX7_seenMany_7 : decode cX7_seenMany 7 = .ok (.if_icmp .ge 25, 3) := by decide +kernel
theorem dX7_seenMany_10 : decode cX7_seenMany 10 = .ok (.iload_n 1, 1) := by decide +kernel
theorem dX7_seenMany_11 : decode cX7_seenMany 11 = .ok (.aload_n 0, 1) := by decide +kernel
theorem dX7_seenMany_12 : decode cX7_seenMany 12 = .ok (.iload_n 2, 1) := by decide +kernel
theorem dX7_seenMany_13 : decode cX7_seenMany 13 = .ok (.invokevirtual 155, 3) := by decide +kernel
theorem dX7_seenMany_16 : decode cX7_seenMany 16 = .ok (.ifCond .eq 7, 3) := by decide +kernel
theorem dX7_seenMany_19 : decode cX7_seenMany 19 = .ok (.iconst 1, 1) := by decide +kernel
theorem dX7_seenMany_20 : decode cX7_seenMany 20 = .ok (.goto 4, 3) := by decide +kernel
theorem dX7_seenMany_23 : decode cX7_seenMany 23 = .ok (.iconst 0, 1) := by decide +kernel
theorem dX7_seenMany_24 : decode cX7_seenMany 24 = .ok (.iadd, 1) := by decide +kernel
theorem dX7_seenMany_25 : decode cX7_seenMany 25 = .ok (.istore_n 1, 1) := by decide +kernel
theorem dX7_seenMany_26 : decode cX7_seenMany 26 = .ok (.iinc 2 1, 3) := by decide +kernel
theorem dX7_seenMany_29 : decode cX7_seenMany 29 = .ok (.goto (-25), 3) := by decide +kernel
theorem dX7_seenMany_32 : decode cX7_seenMany 32 = .ok (.iload_n 1, 1) := by decide +kernel
theorem dX7_seenMany_33 : decode cX7_seenMany 33 = .ok (.ireturn, 1) := by decide +kernel
set_option maxRecDepth 20000 in
theorem ggX7_nearest_X7_isSeen : GoodIn wsX7_nearest wsX7_isSeen := goodIn_r _ [6, 7, 1, 8, 9, 5, 10, 11, 12, 13, 14, 15, 16, 17, 18, 19, 20, 21, 22, 23, 24, 25, 26, 27, 28, 29, 30, 31, 32, 33, 34, 35, 36, 37, 38, 39, 40, 41, 42, 43, 44, 45, 46, 47, 48, 49, 50, 51, 52, 53, 54, 55] (by decide +kernel) (by decide +kernel)
set_option maxRecDepth 20000 in
theorem gX7_nearest_X7_isSeen : GoodIn wsX7_nearest (wsV RX7 155 RX7 yX7_isSeen wsX7_isSeen) := goodIn_app (goodIn_of _ (by decide +kernel)) ggX7_nearest_X7_isSeen
set_option maxRecDepth 20000 in
theorem ggX7_nearest_X7_far : GoodIn wsX7_nearest wsX7_far := goodIn_r _ [10, 11, 12, 5, 13] (by decide +kernel) (by decide +kernel)
set_option maxRecDepth 20000 in
theorem gX7_nearest_X7_far : GoodIn wsX7_nearest (va_wsS RX7 149 yX7_far wsX7_far) := goodIn_app (goodIn_of _ (by decide +kernel)) ggX7_nearest_X7_far
theorem dX7_nearest_0 : decode cX7_nearest 0 = .ok (.bipush (-6), 2) := by decide +kernel
theorem dX7_nearest_2 : decode cX7_nearest 2 = .ok (.istore_n 1, 1) := by decide +kernel
theorem dX7_nearest_3 : decode cX7_nearest 3 = .ok (.bipush 63, 2) := by decide +kernel
theorem dX7_nearest_5 : decode cX7_nearest 5 = .ok (.istore_n 2, 1) := by decide +kernel
theorem dX7_nearest_6 : decode cX7_nearest 6 = .ok (.iload_n 2, 1) := by decide +kernel
theorem dX7_nearest_7 : decode cX7_nearest 7 = .ok (.ifCond .lt 46, 3) := by decide +kernel
theorem dX7_nearest_10 : decode cX7_nearest 10 = .ok (.aload_n 0, 1) := by decide +kernel
theorem dX7_nearest_11 : decode cX7_nearest 11 = .ok (.iload_n 2, 1) := by decide +kernel
theorem dX7_nearest_12 : decode cX7_nearest 12 = .ok (.invokevirtual 155, 3) := by decide +kernel
theorem dX7_nearest_15 : decode cX7_nearest 15 = .ok (.ifCond .eq 30, 3) := by decide +kernel
theorem dX7_nearest_18 : decode cX7_nearest 18 = .ok (.iload_n 1, 1) := by decide +kernel
theorem dX7_nearest_19 : decode cX7_nearest 19 = .ok (.ifCond .lt 22, 3) := by decide +kernel
theorem dX7_nearest_22 : decode cX7_nearest 22 = .ok (.iload_n 2, 1) := by decide +kernel
theorem dX7_nearest_23 : decode cX7_nearest 23 = .ok (.aload_n 0, 1) := by decide +kernel
theorem dX7_nearest_24 : decode cX7_nearest 24 = .ok (.getfield 59, 3) := by decide +kernel
theorem dX7_nearest_27 : decode cX7_nearest 27 = .ok (.invokestatic 149, 3) := by decide +kernel
theorem dX7_nearest_30 : decode cX7_nearest 30 = .ok (.iload_n 1, 1) := by decide +kernel
theorem dX7_nearest_31 : decode cX7_nearest 31 = .ok (.aload_n 0, 1) := by decide +kernel
theorem dX7_nearest_32 : decode cX7_nearest 32 = .ok (.getfield 59, 3) := by decide +kernel
theorem dX7_nearest_35 : decode cX7_nearest 35 = .ok (.invokestatic 149, 3) := by decide +kernel
theorem dX7_nearest_38 : decode cX7_nearest 38 = .ok (.if_icmp .gt 7, 3) := by decide +kernel
theorem dX7_nearest_41 : decode cX7_nearest 41 = .ok (.iload_n 2, 1) := by decide +kernel
theorem dX7_nearest_42 : decode cX7_nearest 42 = .ok (.goto 4, 3) := by decide +kernel
theorem dX7_nearest_45 : decode cX7_nearest 45 = .ok (.iload_n 1, 1) := by decide +kernel
theorem dX7_nearest_46 : decode cX7_nearest 46 = .ok (.istore_n 1, 1) := by decide +kernel
theorem dX7_nearest_47 : decode cX7_nearest 47 = .ok (.iinc 2 (-1), 3) := by decide +kernel
theorem dX7_nearest_50 : decode cX7_nearest 50 = .ok (.goto (-44), 3) := by decide +kernel
theorem dX7_nearest_53 : decode cX7_nearest 53 = .ok (.iload_n 1, 1) := by decide +kernel
theorem dX7_nearest_54 : decode cX7_nearest 54 = .ok (.ireturn, 1) := by decide +kernel
theorem dX7_climb_0 : decode cX7_climb 0 = .ok (.aload_n 0, 1) := by decide +kernel
theorem dX7_climb_1 : decode cX7_climb 1 = .ok (.iload_n 1, 1) := by decide +kernel
theorem dX7_climb_2 : decode cX7_climb 2 = .ok (.putfield 66, 3) := by decide +kernel
theorem dX7_climb_5 : decode cX7_climb 5 = .ok (.aload_n 0, 1) := by decide +kernel
theorem dX7_climb_6 : decode cX7_climb 6 = .ok (.iconst 0, 1) := by decide +kernel
theorem dX7_climb_7 : decode cX7_climb 7 = .ok (.putfield 146, 3) := by decide +kernel
theorem dX7_climb_10 : decode cX7_climb 10 = .ok (.return_, 1) := by decide +kernel
set_option maxRecDepth 20000 in
theorem ggX7_sail_X7_ahead : GoodIn wsX7_sail wsX7_ahead := goodIn_r _ [8, 9, 10, 7, 11, 12, 13, 14, 15, 16, 17, 18, 19, 20, 21] (by decide +kernel) (by decide +kernel)
set_option maxRecDepth 20000 in
theorem gX7_sail_X7_ahead : GoodIn wsX7_sail (va_wsS RX7 137 yX7_ahead wsX7_ahead) := goodIn_app (goodIn_of _ (by decide +kernel)) ggX7_sail_X7_ahead
theorem dX7_sail_0 : decode cX7_sail 0 = .ok (.aload_n 0, 1) := by decide +kernel
theorem dX7_sail_1 : decode cX7_sail 1 = .ok (.getfield 59, 3) := by decide +kernel
theorem dX7_sail_4 : decode cX7_sail 4 = .ok (.iload_n 1, 1) := by decide +kernel
theorem dX7_sail_5 : decode cX7_sail 5 = .ok (.invokestatic 137, 3) := by decide +kernel
theorem dX7_sail_8 : decode cX7_sail 8 = .ok (.istore_n 2, 1) := by decide +kernel
theorem dX7_sail_9 : decode cX7_sail 9 = .ok (.aload_n 0, 1) := by decide +kernel
theorem dX7_sail_10 : decode cX7_sail 10 = .ok (.getfield 7, 3) := by decide +kernel
theorem dX7_sail_13 : decode cX7_sail 13 = .ok (.iload_n 2, 1) := by decide +kernel
theorem dX7_sail_14 : decode cX7_sail 14 = .ok (.iaload, 1) := by decide +kernel
theorem dX7_sail_15 : decode cX7_sail 15 = .ok (.iconst 1, 1) := by decide +kernel
theorem dX7_sail_16 : decode cX7_sail 16 = .ok (.if_icmp .ne 26, 3) := by decide +kernel
theorem dX7_sail_19 : decode cX7_sail 19 = .ok (.aload_n 0, 1) := by decide +kernel
theorem dX7_sail_20 : decode cX7_sail 20 = .ok (.dup, 1) := by decide +kernel
theorem dX7_sail_21 : decode cX7_sail 21 = .ok (.getfield 63, 3) := by decide +kernel
theorem dX7_sail_24 : decode cX7_sail 24 = .ok (.iconst 1, 1) := by decide +kernel
theorem dX7_sail_25 : decode cX7_sail 25 = .ok (.isub, 1) := by decide +kernel
theorem dX7_sail_26 : decode cX7_sail 26 = .ok (.putfield 63, 3) := by decide +kernel
theorem dX7_sail_29 : decode cX7_sail 29 = .ok (.aload_n 0, 1) := by decide +kernel
theorem dX7_sail_30 : decode cX7_sail 30 = .ok (.dup, 1) := by decide +kernel
theorem dX7_sail_31 : decode cX7_sail 31 = .ok (.getfield 158, 3) := by decide +kernel
theorem dX7_sail_34 : decode cX7_sail 34 = .ok (.iconst 1, 1) := by decide +kernel
theorem dX7_sail_35 : decode cX7_sail 35 = .ok (.iadd, 1) := by decide +kernel
theorem dX7_sail_36 : decode cX7_sail 36 = .ok (.putfield 158, 3) := by decide +kernel
theorem dX7_sail_39 : decode cX7_sail 39 = .ok (.goto 8, 3) := by decide +kernel
theorem dX7_sail_42 : decode cX7_sail 42 = .ok (.aload_n 0, 1) := by decide +kernel
theorem dX7_sail_43 : decode cX7_sail 43 = .ok (.iload_n 2, 1) := by decide +kernel
theorem dX7_sail_44 : decode cX7_sail 44 = .ok (.putfield 59, 3) := by decide +kernel
theorem dX7_sail_47 : decode cX7_sail 47 = .ok (.return_, 1) := by decide +kernel
set_option maxRecDepth 20000 in
theorem ggX7_call_X7_seenMany : GoodIn wsX7_call wsX7_seenMany := goodIn_r _ [7, 8, 9, 10, 6, 11, 12, 13, 14, 15, 16, 17, 18, 19, 20, 21, 22, 23, 24, 25, 26, 27, 28, 29, 30, 31, 32, 33, 34, 35, 36, 37, 38, 39, 40, 41, 42, 43, 44, 45, 46, 47, 48, 49, 50, 51, 52, 53, 54, 55, 56, 57, 58, 59, 60, 61] (by decide +kernel) (by decide +kernel)
set_option maxRecDepth 20000 in
theorem gX7_call_X7_seenMany : GoodIn wsX7_call (wsV RX7 167 RX7 yX7_seenMany wsX7_seenMany) := goodIn_app (goodIn_of _ (by decide +kernel)) ggX7_call_X7_seenMany
theorem dX7_call_0 : decode cX7_call 0 = .ok (.aload_n 0, 1) := by decide +kernel
theorem dX7_call_1 : decode cX7_call 1 = .ok (.dup, 1) := by decide +kernel
theorem dX7_call_2 : decode cX7_call 2 = .ok (.getfield 161, 3) := by decide +kernel
theorem dX7_call_5 : decode cX7_call 5 = .ok (.iconst 1, 1) := by decide +kernel
theorem dX7_call_6 : decode cX7_call 6 = .ok (.iadd, 1) := by decide +kernel
theorem dX7_call_7 : decode cX7_call 7 = .ok (.putfield 161, 3) := by decide +kernel
theorem dX7_call_10 : decode cX7_call 10 = .ok (.aload_n 0, 1) := by decide +kernel
theorem dX7_call_11 : decode cX7_call 11 = .ok (.dup, 1) := by decide +kernel
theorem dX7_call_12 : decode cX7_call 12 = .ok (.getfield 164, 3) := by decide +kernel
theorem dX7_call_15 : decode cX7_call 15 = .ok (.aload_n 0, 1) := by decide +kernel
theorem dX7_call_16 : decode cX7_call 16 = .ok (.invokevirtual 167, 3) := by decide +kernel
theorem dX7_call_19 : decode cX7_call 19 = .ok (.ifCond .ne 7, 3) := by decide +kernel
theorem dX7_call_22 : decode cX7_call 22 = .ok (.iconst 1, 1) := by decide +kernel
theorem dX7_call_23 : decode cX7_call 23 = .ok (.goto 4, 3) := by decide +kernel
theorem dX7_call_26 : decode cX7_call 26 = .ok (.iconst 0, 1) := by decide +kernel
theorem dX7_call_27 : decode cX7_call 27 = .ok (.iadd, 1) := by decide +kernel
theorem dX7_call_28 : decode cX7_call 28 = .ok (.putfield 164, 3) := by decide +kernel
theorem dX7_call_31 : decode cX7_call 31 = .ok (.return_, 1) := by decide +kernel
theorem dX7_passHour_0 : decode cX7_passHour 0 = .ok (.aload_n 0, 1) := by decide +kernel
theorem dX7_passHour_1 : decode cX7_passHour 1 = .ok (.dup, 1) := by decide +kernel
theorem dX7_passHour_2 : decode cX7_passHour 2 = .ok (.getfield 146, 3) := by decide +kernel
theorem dX7_passHour_5 : decode cX7_passHour 5 = .ok (.aload_n 0, 1) := by decide +kernel
theorem dX7_passHour_6 : decode cX7_passHour 6 = .ok (.getfield 66, 3) := by decide +kernel
theorem dX7_passHour_9 : decode cX7_passHour 9 = .ok (.ifCond .ge 7, 3) := by decide +kernel
theorem dX7_passHour_12 : decode cX7_passHour 12 = .ok (.iconst 0, 1) := by decide +kernel
theorem dX7_passHour_13 : decode cX7_passHour 13 = .ok (.goto 4, 3) := by decide +kernel
theorem dX7_passHour_16 : decode cX7_passHour 16 = .ok (.iconst 1, 1) := by decide +kernel
theorem dX7_passHour_17 : decode cX7_passHour 17 = .ok (.iadd, 1) := by decide +kernel
theorem dX7_passHour_18 : decode cX7_passHour 18 = .ok (.putfield 146, 3) := by decide +kernel
theorem dX7_passHour_21 : decode cX7_passHour 21 = .ok (.aload_n 0, 1) := by decide +kernel
theorem dX7_passHour_22 : decode cX7_passHour 22 = .ok (.dup, 1) := by decide +kernel
theorem dX7_passHour_23 : decode cX7_passHour 23 = .ok (.getfield 104, 3) := by decide +kernel
theorem dX7_passHour_26 : decode cX7_passHour 26 = .ok (.aload_n 0, 1) := by decide +kernel
theorem dX7_passHour_27 : decode cX7_passHour 27 = .ok (.getfield 104, 3) := by decide +kernel
theorem dX7_passHour_30 : decode cX7_passHour 30 = .ok (.ifCond .le 7, 3) := by decide +kernel
theorem dX7_passHour_33 : decode cX7_passHour 33 = .ok (.iconst 1, 1) := by decide +kernel
theorem dX7_passHour_34 : decode cX7_passHour 34 = .ok (.goto 4, 3) := by decide +kernel
theorem dX7_passHour_37 : decode cX7_passHour 37 = .ok (.iconst 0, 1) := by decide +kernel
theorem dX7_passHour_38 : decode cX7_passHour 38 = .ok (.isub, 1) := by decide +kernel
theorem dX7_passHour_39 : decode cX7_passHour 39 = .ok (.putfield 104, 3) := by decide +kernel
theorem dX7_passHour_42 : decode cX7_passHour 42 = .ok (.aload_n 0, 1) := by decide +kernel
theorem dX7_passHour_43 : decode cX7_passHour 43 = .ok (.dup, 1) := by decide +kernel
theorem dX7_passHour_44 : decode cX7_passHour 44 = .ok (.getfield 143, 3) := by decide +kernel
theorem dX7_passHour_47 : decode cX7_passHour 47 = .ok (.iconst 1, 1) := by decide +kernel
theorem dX7_passHour_48 : decode cX7_passHour 48 = .ok (.iadd, 1) := by decide +kernel
theorem dX7_passHour_49 : decode cX7_passHour 49 = .ok (.putfield 143, 3) := by decide +kernel
theorem dX7_passHour_52 : decode cX7_passHour 52 = .ok (.return_, 1) := by decide +kernel
set_option maxRecDepth 20000 in
theorem ggX7_happen_X7_climb : GoodIn wsX7_happen wsX7_climb := goodIn_r _ [6, 7, 8, 63, 64, 65, 66, 67, 68, 69, 70, 71, 72, 73, 74, 75, 76, 77, 78, 79, 80, 81, 82, 83, 84, 85, 86, 87, 88, 89, 90, 91, 92, 93, 94, 95, 96] (by decide +kernel) (by decide +kernel)
set_option maxRecDepth 20000 in
theorem gX7_happen_X7_climb : GoodIn wsX7_happen (wsV RX7 170 RX7 yX7_climb wsX7_climb) := goodIn_app (goodIn_of _ (by decide +kernel)) ggX7_happen_X7_climb
set_option maxRecDepth 20000 in
theorem ggX7_happen_X7_sail : GoodIn wsX7_happen wsX7_sail := goodIn_r _ [12, 13, 14, 15, 16, 17, 18, 5, 19, 20, 21, 22, 23, 24, 25, 26, 27, 28, 29, 30, 31, 32, 63, 64, 65, 66, 67, 68, 69, 70, 71, 72, 73, 74, 75, 76, 77, 78, 79, 80, 81, 82, 83, 84, 85, 86, 87, 88, 89, 90, 91, 92, 93, 94, 95, 96] (by decide +kernel) (by decide +kernel)
set_option maxRecDepth 20000 in
theorem gX7_happen_X7_sail : GoodIn wsX7_happen (wsV RX7 174 RX7 yX7_sail wsX7_sail) := goodIn_app (goodIn_of _ (by decide +kernel)) ggX7_happen_X7_sail
set_option maxRecDepth 20000 in
theorem ggX7_happen_X7_call : GoodIn wsX7_happen wsX7_call := goodIn_r _ [36, 37, 38, 39, 40, 41, 5, 42, 43, 44, 45, 46, 14, 13, 47, 48, 49, 50, 51, 52, 53, 54, 55, 56, 57, 7, 1, 8, 63, 64, 65, 66, 67, 68, 69, 70, 71, 72, 73, 74, 75, 76, 77, 78, 79, 80, 81, 82, 83, 84, 85, 86, 87, 88, 89, 90, 91, 92, 93, 94, 95, 96] (by decide +kernel) (by decide +kernel)
set_option maxRecDepth 20000 in
theorem gX7_happen_X7_call : GoodIn wsX7_happen (wsV RX7 177 RX7 yX7_call wsX7_call) := goodIn_app (goodIn_of _ (by decide +kernel)) ggX7_happen_X7_call
set_option maxRecDepth 20000 in
theorem ggX7_happen_X7_passHour : GoodIn wsX7_happen wsX7_passHour := goodIn_r _ [61, 8, 7, 1, 62, 63, 64, 65, 66, 67, 68, 69, 70, 71, 72, 73, 74, 75, 76, 77, 78, 79, 80, 81, 82, 83, 84, 85, 86, 87, 88, 89, 90, 91, 92, 93, 94, 95, 96] (by decide +kernel) (by decide +kernel)
set_option maxRecDepth 20000 in
theorem gX7_happen_X7_passHour : GoodIn wsX7_happen (wsV RX7 180 RX7 yX7_passHour wsX7_passHour) := goodIn_app (goodIn_of _ (by decide +kernel)) ggX7_happen_X7_passHour
theorem dX7_happen_0 : decode cX7_happen 0 = .ok (.iload_n 1, 1) := by decide +kernel
theorem dX7_happen_1 : decode cX7_happen 1 = .ok (.tableswitch 75 0 4 #[35, 43, 52, 60, 68], 35) := by decide +kernel
theorem dX7_happen_36 : decode cX7_happen 36 = .ok (.aload_n 0, 1) := by decide +kernel
theorem dX7_happen_37 : decode cX7_happen 37 = .ok (.iload_n 2, 1) := by decide +kernel
theorem dX7_happen_38 : decode cX7_happen 38 = .ok (.invokevirtual 170, 3) := by decide +kernel
theorem dX7_happen_41 : decode cX7_happen 41 = .ok (.goto 39, 3) := by decide +kernel
theorem dX7_happen_44 : decode cX7_happen 44 = .ok (.aload_n 0, 1) := by decide +kernel
theorem dX7_happen_45 : decode cX7_happen 45 = .ok (.bipush (-6), 2) := by decide +kernel
theorem dX7_happen_47 : decode cX7_happen 47 = .ok (.invokevirtual 170, 3) := by decide +kernel
theorem dX7_happen_50 : decode cX7_happen 50 = .ok (.goto 30, 3) := by decide +kernel
theorem dX7_happen_53 : decode cX7_happen 53 = .ok (.aload_n 0, 1) := by decide +kernel
theorem dX7_happen_54 : decode cX7_happen 54 = .ok (.iload_n 2, 1) := by decide +kernel
theorem dX7_happen_55 : decode cX7_happen 55 = .ok (.invokevirtual 174, 3) := by decide +kernel
theorem dX7_happen_58 : decode cX7_happen 58 = .ok (.goto 22, 3) := by decide +kernel
theorem dX7_happen_61 : decode cX7_happen 61 = .ok (.aload_n 0, 1) := by decide +kernel
theorem dX7_happen_62 : decode cX7_happen 62 = .ok (.iload_n 2, 1) := by decide +kernel
theorem dX7_happen_63 : decode cX7_happen 63 = .ok (.putfield 104, 3) := by decide +kernel
theorem dX7_happen_66 : decode cX7_happen 66 = .ok (.goto 14, 3) := by decide +kernel
theorem dX7_happen_69 : decode cX7_happen 69 = .ok (.aload_n 0, 1) := by decide +kernel
theorem dX7_happen_70 : decode cX7_happen 70 = .ok (.invokevirtual 177, 3) := by decide +kernel
theorem dX7_happen_73 : decode cX7_happen 73 = .ok (.goto 7, 3) := by decide +kernel
theorem dX7_happen_76 : decode cX7_happen 76 = .ok (.aload_n 0, 1) := by decide +kernel
theorem dX7_happen_77 : decode cX7_happen 77 = .ok (.invokevirtual 180, 3) := by decide +kernel
theorem dX7_happen_80 : decode cX7_happen 80 = .ok (.return_, 1) := by decide +kernel
theorem dX7_keepNow_0 : decode cX7_keepNow 0 = .ok (.aload_n 0, 1) := by decide +kernel
theorem dX7_keepNow_1 : decode cX7_keepNow 1 = .ok (.getfield 34, 3) := by decide +kernel
theorem dX7_keepNow_4 : decode cX7_keepNow 4 = .ok (.iconst 0, 1) := by decide +kernel
theorem dX7_keepNow_5 : decode cX7_keepNow 5 = .ok (.aload_n 0, 1) := by decide +kernel
theorem dX7_keepNow_6 : decode cX7_keepNow 6 = .ok (.getfield 59, 3) := by decide +kernel
theorem dX7_keepNow_9 : decode cX7_keepNow 9 = .ok (.iastore, 1) := by decide +kernel
theorem dX7_keepNow_10 : decode cX7_keepNow 10 = .ok (.aload_n 0, 1) := by decide +kernel
theorem dX7_keepNow_11 : decode cX7_keepNow 11 = .ok (.getfield 34, 3) := by decide +kernel
theorem dX7_keepNow_14 : decode cX7_keepNow 14 = .ok (.iconst 1, 1) := by decide +kernel
theorem dX7_keepNow_15 : decode cX7_keepNow 15 = .ok (.aload_n 0, 1) := by decide +kernel
theorem dX7_keepNow_16 : decode cX7_keepNow 16 = .ok (.getfield 63, 3) := by decide +kernel
theorem dX7_keepNow_19 : decode cX7_keepNow 19 = .ok (.iastore, 1) := by decide +kernel
theorem dX7_keepNow_20 : decode cX7_keepNow 20 = .ok (.aload_n 0, 1) := by decide +kernel
theorem dX7_keepNow_21 : decode cX7_keepNow 21 = .ok (.getfield 34, 3) := by decide +kernel
theorem dX7_keepNow_24 : decode cX7_keepNow 24 = .ok (.iconst 2, 1) := by decide +kernel
theorem dX7_keepNow_25 : decode cX7_keepNow 25 = .ok (.aload_n 0, 1) := by decide +kernel
theorem dX7_keepNow_26 : decode cX7_keepNow 26 = .ok (.getfield 66, 3) := by decide +kernel
theorem dX7_keepNow_29 : decode cX7_keepNow 29 = .ok (.iastore, 1) := by decide +kernel
theorem dX7_keepNow_30 : decode cX7_keepNow 30 = .ok (.aload_n 0, 1) := by decide +kernel
theorem dX7_keepNow_31 : decode cX7_keepNow 31 = .ok (.getfield 34, 3) := by decide +kernel
theorem dX7_keepNow_34 : decode cX7_keepNow 34 = .ok (.iconst 3, 1) := by decide +kernel
theorem dX7_keepNow_35 : decode cX7_keepNow 35 = .ok (.aload_n 0, 1) := by decide +kernel
theorem dX7_keepNow_36 : decode cX7_keepNow 36 = .ok (.getfield 146, 3) := by decide +kernel
theorem dX7_keepNow_39 : decode cX7_keepNow 39 = .ok (.iastore, 1) := by decide +kernel
theorem dX7_keepNow_40 : decode cX7_keepNow 40 = .ok (.aload_n 0, 1) := by decide +kernel
theorem dX7_keepNow_41 : decode cX7_keepNow 41 = .ok (.getfield 34, 3) := by decide +kernel
theorem dX7_keepNow_44 : decode cX7_keepNow 44 = .ok (.iconst 4, 1) := by decide +kernel
theorem dX7_keepNow_45 : decode cX7_keepNow 45 = .ok (.aload_n 0, 1) := by decide +kernel
theorem dX7_keepNow_46 : decode cX7_keepNow 46 = .ok (.getfield 104, 3) := by decide +kernel
theorem dX7_keepNow_49 : decode cX7_keepNow 49 = .ok (.iastore, 1) := by decide +kernel
theorem dX7_keepNow_50 : decode cX7_keepNow 50 = .ok (.aload_n 0, 1) := by decide +kernel
theorem dX7_keepNow_51 : decode cX7_keepNow 51 = .ok (.getfield 34, 3) := by decide +kernel
theorem dX7_keepNow_54 : decode cX7_keepNow 54 = .ok (.iconst 5, 1) := by decide +kernel
theorem dX7_keepNow_55 : decode cX7_keepNow 55 = .ok (.aload_n 0, 1) := by decide +kernel
theorem dX7_keepNow_56 : decode cX7_keepNow 56 = .ok (.getfield 143, 3) := by decide +kernel
theorem dX7_keepNow_59 : decode cX7_keepNow 59 = .ok (.iastore, 1) := by decide +kernel
theorem dX7_keepNow_60 : decode cX7_keepNow 60 = .ok (.return_, 1) := by decide +kernel
theorem dX7_back_0 : decode cX7_back 0 = .ok (.aload_n 0, 1) := by decide +kernel
theorem dX7_back_1 : decode cX7_back 1 = .ok (.aload_n 0, 1) := by decide +kernel
theorem dX7_back_2 : decode cX7_back 2 = .ok (.getfield 34, 3) := by decide +kernel
theorem dX7_back_5 : decode cX7_back 5 = .ok (.iconst 0, 1) := by decide +kernel
theorem dX7_back_6 : decode cX7_back 6 = .ok (.iaload, 1) := by decide +kernel
theorem dX7_back_7 : decode cX7_back 7 = .ok (.putfield 59, 3) := by decide +kernel
theorem dX7_back_10 : decode cX7_back 10 = .ok (.aload_n 0, 1) := by decide +kernel
theorem dX7_back_11 : decode cX7_back 11 = .ok (.aload_n 0, 1) := by decide +kernel
theorem dX7_back_12 : decode cX7_back 12 = .ok (.getfield 34, 3) := by decide +kernel
theorem dX7_back_15 : decode cX7_back 15 = .ok (.iconst 1, 1) := by decide +kernel
theorem dX7_back_16 : decode cX7_back 16 = .ok (.iaload, 1) := by decide +kernel
theorem dX7_back_17 : decode cX7_back 17 = .ok (.putfield 63, 3) := by decide +kernel
theorem dX7_back_20 : decode cX7_back 20 = .ok (.aload_n 0, 1) := by decide +kernel
theorem dX7_back_21 : decode cX7_back 21 = .ok (.aload_n 0, 1) := by decide +kernel
theorem dX7_back_22 : decode cX7_back 22 = .ok (.getfield 34, 3) := by decide +kernel
theorem dX7_back_25 : decode cX7_back 25 = .ok (.iconst 2, 1) := by decide +kernel
theorem dX7_back_26 : decode cX7_back 26 = .ok (.iaload, 1) := by decide +kernel
theorem dX7_back_27 : decode cX7_back 27 = .ok (.putfield 66, 3) := by decide +kernel
theorem dX7_back_30 : decode cX7_back 30 = .ok (.aload_n 0, 1) := by decide +kernel
theorem dX7_back_31 : decode cX7_back 31 = .ok (.aload_n 0, 1) := by decide +kernel
theorem dX7_back_32 : decode cX7_back 32 = .ok (.getfield 34, 3) := by decide +kernel
theorem dX7_back_35 : decode cX7_back 35 = .ok (.iconst 3, 1) := by decide +kernel
theorem dX7_back_36 : decode cX7_back 36 = .ok (.iaload, 1) := by decide +kernel
theorem dX7_back_37 : decode cX7_back 37 = .ok (.putfield 146, 3) := by decide +kernel
theorem dX7_back_40 : decode cX7_back 40 = .ok (.aload_n 0, 1) := by decide +kernel
theorem dX7_back_41 : decode cX7_back 41 = .ok (.aload_n 0, 1) := by decide +kernel
theorem dX7_back_42 : decode cX7_back 42 = .ok (.getfield 34, 3) := by decide +kernel
theorem dX7_back_45 : decode cX7_back 45 = .ok (.iconst 4, 1) := by decide +kernel
theorem dX7_back_46 : decode cX7_back 46 = .ok (.iaload, 1) := by decide +kernel
theorem dX7_back_47 : decode cX7_back 47 = .ok (.putfield 104, 3) := by decide +kernel
theorem dX7_back_50 : decode cX7_back 50 = .ok (.aload_n 0, 1) := by decide +kernel
theorem dX7_back_51 : decode cX7_back 51 = .ok (.aload_n 0, 1) := by decide +kernel
theorem dX7_back_52 : decode cX7_back 52 = .ok (.getfield 34, 3) := by decide +kernel
theorem dX7_back_55 : decode cX7_back 55 = .ok (.iconst 5, 1) := by decide +kernel
theorem dX7_back_56 : decode cX7_back 56 = .ok (.iaload, 1) := by decide +kernel
theorem dX7_back_57 : decode cX7_back 57 = .ok (.putfield 143, 3) := by decide +kernel
theorem dX7_back_60 : decode cX7_back 60 = .ok (.iload_n 1, 1) := by decide +kernel
theorem dX7_back_61 : decode cX7_back 61 = .ok (.ireturn, 1) := by decide +kernel
set_option maxRecDepth 20000 in
theorem ggX7_goVoyages_X7_whyNot : GoodIn wsX7_goVoyages wsX7_whyNot := goodIn_r _ [14, 15, 16, 17, 18, 19, 20, 13, 21, 22, 23, 24, 25, 26, 27, 28, 29, 30, 31, 32, 33, 34, 35, 36, 37, 38, 39, 81, 82, 83, 84, 85, 86, 87, 88, 89, 90, 91, 92, 93, 94, 95, 96, 97, 98, 99, 100, 101, 102, 103, 104, 105, 106, 107, 108, 109, 110, 111, 112, 113, 114] (by decide +kernel) (by decide +kernel)
set_option maxRecDepth 20000 in
theorem gX7_goVoyages_X7_whyNot : GoodIn wsX7_goVoyages (wsV RX7 192 RX7 yX7_whyNot wsX7_whyNot) := goodIn_app (goodIn_of _ (by decide +kernel)) ggX7_goVoyages_X7_whyNot
set_option maxRecDepth 20000 in
theorem ggX7_goVoyages_X7_happen : GoodIn wsX7_goVoyages wsX7_happen := goodIn_r _ [43, 16, 44, 45, 46, 13, 47, 15, 48, 49, 50, 51, 52, 23, 53, 22, 4, 24, 25, 26, 27, 28, 29, 30, 31, 32, 33, 34, 35, 36, 37, 38, 39, 54, 55, 56, 57, 5, 6, 58, 59, 60, 61, 62, 63, 64, 65, 66, 67, 68, 69, 70, 71, 72, 73, 74, 75, 76, 77, 78, 79, 80, 17, 81, 82, 83, 84, 85, 86, 87, 88, 89, 90, 91, 92, 93, 94, 95, 96, 97, 98, 99, 100, 101, 102, 103, 104, 105, 106, 107, 108, 109, 110, 111, 112, 113, 114] (by decide +kernel) (by decide +kernel)
set_option maxRecDepth 20000 in
theorem gX7_goVoyages_X7_happen : GoodIn wsX7_goVoyages (wsV RX7 195 RX7 yX7_happen wsX7_happen) := goodIn_app (goodIn_of _ (by decide +kernel)) ggX7_goVoyages_X7_happen
theorem dX7_goVoyages_0 : decode cX7_goVoyages 0 = .ok (.aload_n 0, 1) := by decide +kernel
theorem dX7_goVoyages_1 : decode cX7_goVoyages 1 = .ok (.bipush (-6), 2) := by decide +kernel
theorem dX7_goVoyages_3 : decode cX7_goVoyages 3 = .ok (.putfield 183, 3) := by decide +kernel
theorem dX7_goVoyages_6 : decode cX7_goVoyages 6 = .ok (.aload_n 0, 1) := by decide +kernel
theorem dX7_goVoyages_7 : decode cX7_goVoyages 7 = .ok (.bipush (-6), 2) := by decide +kernel
theorem dX7_goVoyages_9 : decode cX7_goVoyages 9 = .ok (.putfield 186, 3) := by decide +kernel
theorem dX7_goVoyages_12 : decode cX7_goVoyages 12 = .ok (.aload_n 0, 1) := by decide +kernel
theorem dX7_goVoyages_13 : decode cX7_goVoyages 13 = .ok (.bipush (-6), 2) := by decide +kernel
theorem dX7_goVoyages_15 : decode cX7_goVoyages 15 = .ok (.putfield 189, 3) := by decide +kernel
theorem dX7_goVoyages_18 : decode cX7_goVoyages 18 = .ok (.aload_n 0, 1) := by decide +kernel
theorem dX7_goVoyages_19 : decode cX7_goVoyages 19 = .ok (.iconst 0, 1) := by decide +kernel
theorem dX7_goVoyages_20 : decode cX7_goVoyages 20 = .ok (.putfield 158, 3) := by decide +kernel
theorem dX7_goVoyages_23 : decode cX7_goVoyages 23 = .ok (.aload_n 0, 1) := by decide +kernel
theorem dX7_goVoyages_24 : decode cX7_goVoyages 24 = .ok (.iconst 0, 1) := by decide +kernel
theorem dX7_goVoyages_25 : decode cX7_goVoyages 25 = .ok (.putfield 161, 3) := by decide +kernel
theorem dX7_goVoyages_28 : decode cX7_goVoyages 28 = .ok (.aload_n 0, 1) := by decide +kernel
theorem dX7_goVoyages_29 : decode cX7_goVoyages 29 = .ok (.iconst 0, 1) := by decide +kernel
theorem dX7_goVoyages_30 : decode cX7_goVoyages 30 = .ok (.putfield 164, 3) := by decide +kernel
theorem dX7_goVoyages_33 : decode cX7_goVoyages 33 = .ok (.iconst 0, 1) := by decide +kernel
theorem dX7_goVoyages_34 : decode cX7_goVoyages 34 = .ok (.istore_n 1, 1) := by decide +kernel
theorem dX7_goVoyages_35 : decode cX7_goVoyages 35 = .ok (.iload_n 1, 1) := by decide +kernel
theorem dX7_goVoyages_36 : decode cX7_goVoyages 36 = .ok (.aload_n 0, 1) := by decide +kernel
theorem dX7_goVoyages_37 : decode cX7_goVoyages 37 = .ok (.getfield 114, 3) := by decide +kernel
theorem dX7_goVoyages_40 : decode cX7_goVoyages 40 = .ok (.if_icmp .ge 107, 3) := by decide +kernel
theorem dX7_goVoyages_43 : decode cX7_goVoyages 43 = .ok (.aload_n 0, 1) := by decide +kernel
theorem dX7_goVoyages_44 : decode cX7_goVoyages 44 = .ok (.getfield 183, 3) := by decide +kernel
theorem dX7_goVoyages_47 : decode cX7_goVoyages 47 = .ok (.ifCond .ge 100, 3) := by decide +kernel
theorem dX7_goVoyages_50 : decode cX7_goVoyages 50 = .ok (.aload_n 0, 1) := by decide +kernel
theorem dX7_goVoyages_51 : decode cX7_goVoyages 51 = .ok (.aload_n 0, 1) := by decide +kernel
theorem dX7_goVoyages_52 : decode cX7_goVoyages 52 = .ok (.getfield 28, 3) := by decide +kernel
theorem dX7_goVoyages_55 : decode cX7_goVoyages 55 = .ok (.iload_n 1, 1) := by decide +kernel
theorem dX7_goVoyages_56 : decode cX7_goVoyages 56 = .ok (.iaload, 1) := by decide +kernel
theorem dX7_goVoyages_57 : decode cX7_goVoyages 57 = .ok (.aload_n 0, 1) := by decide +kernel
theorem dX7_goVoyages_58 : decode cX7_goVoyages 58 = .ok (.getfield 31, 3) := by decide +kernel
theorem dX7_goVoyages_61 : decode cX7_goVoyages 61 = .ok (.iload_n 1, 1) := by decide +kernel
theorem dX7_goVoyages_62 : decode cX7_goVoyages 62 = .ok (.iaload, 1) := by decide +kernel
theorem dX7_goVoyages_63 : decode cX7_goVoyages 63 = .ok (.invokevirtual 192, 3) := by decide +kernel
theorem dX7_goVoyages_66 : decode cX7_goVoyages 66 = .ok (.istore_n 2, 1) := by decide +kernel
theorem dX7_goVoyages_67 : decode cX7_goVoyages 67 = .ok (.aload_n 0, 1) := by decide +kernel
theorem dX7_goVoyages_68 : decode cX7_goVoyages 68 = .ok (.iload_n 2, 1) := by decide +kernel
theorem dX7_goVoyages_69 : decode cX7_goVoyages 69 = .ok (.ifCond .le 7, 3) := by decide +kernel
theorem dX7_goVoyages_72 : decode cX7_goVoyages 72 = .ok (.iload_n 1, 1) := by decide +kernel
theorem dX7_goVoyages_73 : decode cX7_goVoyages 73 = .ok (.goto 5, 3) := by decide +kernel
theorem dX7_goVoyages_76 : decode cX7_goVoyages 76 = .ok (.bipush (-6), 2) := by decide +kernel
theorem dX7_goVoyages_78 : decode cX7_goVoyages 78 = .ok (.putfield 183, 3) := by decide +kernel
theorem dX7_goVoyages_81 : decode cX7_goVoyages 81 = .ok (.aload_n 0, 1) := by decide +kernel
theorem dX7_goVoyages_82 : decode cX7_goVoyages 82 = .ok (.iload_n 2, 1) := by decide +kernel
theorem dX7_goVoyages_83 : decode cX7_goVoyages 83 = .ok (.ifCond .le 7, 3) := by decide +kernel
theorem dX7_goVoyages_86 : decode cX7_goVoyages 86 = .ok (.iload_n 2, 1) := by decide +kernel
theorem dX7_goVoyages_87 : decode cX7_goVoyages 87 = .ok (.goto 5, 3) := by decide +kernel
theorem dX7_goVoyages_90 : decode cX7_goVoyages 90 = .ok (.bipush (-6), 2) := by decide +kernel
theorem dX7_goVoyages_92 : decode cX7_goVoyages 92 = .ok (.putfield 186, 3) := by decide +kernel
theorem dX7_goVoyages_95 : decode cX7_goVoyages 95 = .ok (.iload_n 2, 1) := by decide +kernel
theorem dX7_goVoyages_96 : decode cX7_goVoyages 96 = .ok (.ifCond .ne 19, 3) := by decide +kernel
theorem dX7_goVoyages_99 : decode cX7_goVoyages 99 = .ok (.aload_n 0, 1) := by decide +kernel
theorem dX7_goVoyages_100 : decode cX7_goVoyages 100 = .ok (.aload_n 0, 1) := by decide +kernel
theorem dX7_goVoyages_101 : decode cX7_goVoyages 101 = .ok (.getfield 28, 3) := by decide +kernel
theorem dX7_goVoyages_104 : decode cX7_goVoyages 104 = .ok (.iload_n 1, 1) := by decide +kernel
theorem dX7_goVoyages_105 : decode cX7_goVoyages 105 = .ok (.iaload, 1) := by decide +kernel
theorem dX7_goVoyages_106 : decode cX7_goVoyages 106 = .ok (.aload_n 0, 1) := by decide +kernel
theorem dX7_goVoyages_107 : decode cX7_goVoyages 107 = .ok (.getfield 31, 3) := by decide +kernel
theorem dX7_goVoyages_110 : decode cX7_goVoyages 110 = .ok (.iload_n 1, 1) := by decide +kernel
theorem dX7_goVoyages_111 : decode cX7_goVoyages 111 = .ok (.iaload, 1) := by decide +kernel
theorem dX7_goVoyages_112 : decode cX7_goVoyages 112 = .ok (.invokevirtual 195, 3) := by decide +kernel
theorem dX7_goVoyages_115 : decode cX7_goVoyages 115 = .ok (.aload_n 0, 1) := by decide +kernel
theorem dX7_goVoyages_116 : decode cX7_goVoyages 116 = .ok (.aload_n 0, 1) := by decide +kernel
theorem dX7_goVoyages_117 : decode cX7_goVoyages 117 = .ok (.getfield 164, 3) := by decide +kernel
theorem dX7_goVoyages_120 : decode cX7_goVoyages 120 = .ok (.ifCond .le 14, 3) := by decide +kernel
theorem dX7_goVoyages_123 : decode cX7_goVoyages 123 = .ok (.aload_n 0, 1) := by decide +kernel
theorem dX7_goVoyages_124 : decode cX7_goVoyages 124 = .ok (.getfield 189, 3) := by decide +kernel
theorem dX7_goVoyages_127 : decode cX7_goVoyages 127 = .ok (.ifCond .ge 7, 3) := by decide +kernel
theorem dX7_goVoyages_130 : decode cX7_goVoyages 130 = .ok (.iload_n 1, 1) := by decide +kernel
theorem dX7_goVoyages_131 : decode cX7_goVoyages 131 = .ok (.goto 7, 3) := by decide +kernel
theorem dX7_goVoyages_134 : decode cX7_goVoyages 134 = .ok (.aload_n 0, 1) := by decide +kernel
theorem dX7_goVoyages_135 : decode cX7_goVoyages 135 = .ok (.getfield 189, 3) := by decide +kernel
theorem dX7_goVoyages_138 : decode cX7_goVoyages 138 = .ok (.putfield 189, 3) := by decide +kernel
theorem dX7_goVoyages_141 : decode cX7_goVoyages 141 = .ok (.iinc 1 1, 3) := by decide +kernel
theorem dX7_goVoyages_144 : decode cX7_goVoyages 144 = .ok (.goto (-109), 3) := by decide +kernel
theorem dX7_goVoyages_147 : decode cX7_goVoyages 147 = .ok (.return_, 1) := by decide +kernel
set_option maxRecDepth 20000 in
theorem ggX7_refusal_X7_keepNow : GoodIn wsX7_refusal wsX7_keepNow := goodIn_r _ [6, 7, 8, 9, 10, 11, 12, 13, 116, 117, 118, 119, 120, 121, 122, 123, 124, 125, 126, 127, 128, 129, 130, 131, 132, 133, 134, 135, 136, 137, 138, 139, 140, 141, 142, 143, 144, 145, 146, 147, 148, 149] (by decide +kernel) (by decide +kernel)
set_option maxRecDepth 20000 in
theorem gX7_refusal_X7_keepNow : GoodIn wsX7_refusal (wsV RX7 199 RX7 yX7_keepNow wsX7_keepNow) := goodIn_app (goodIn_of _ (by decide +kernel)) ggX7_refusal_X7_keepNow
set_option maxRecDepth 20000 in
theorem ggX7_refusal_X7_fault : GoodIn wsX7_refusal wsX7_fault := goodIn_r _ [17, 18, 19, 20, 21, 22, 23, 5, 24, 25, 26, 27, 28, 29, 30, 31, 32, 33, 34, 35, 36, 37, 38, 39, 40, 41, 42, 43, 44, 45, 116, 117, 118, 119, 120, 121, 122, 123, 124, 125, 126, 127, 128, 129, 130, 131, 132, 133, 134, 135, 136, 137, 138, 139, 140, 141, 142, 143, 144, 145, 146, 147, 148, 149] (by decide +kernel) (by decide +kernel)
set_option maxRecDepth 20000 in
theorem gX7_refusal_X7_fault : GoodIn wsX7_refusal (wsV RX7 202 RX7 yX7_fault wsX7_fault) := goodIn_app (goodIn_of _ (by decide +kernel)) ggX7_refusal_X7_fault
set_option maxRecDepth 20000 in
theorem ggX7_refusal_X7_goVoyages : GoodIn wsX7_refusal wsX7_goVoyages := goodIn_r _ [49, 1, 50, 51, 52, 53, 54, 18, 39, 31, 55, 56, 57, 5, 58, 10, 12, 13, 59, 60, 61, 62, 9, 8, 63, 64, 65, 66, 67, 68, 69, 70, 71, 72, 73, 74, 75, 32, 33, 34, 76, 77, 78, 79, 80, 81, 82, 83, 11, 84, 85, 86, 87, 88, 89, 90, 91, 92, 93, 94, 95, 96, 97, 98, 99, 100, 101, 102, 103, 104, 105, 106, 107, 108, 109, 110, 111, 112, 113, 114, 115, 116, 117, 118, 119, 120, 121, 122, 123, 124, 125, 126, 127, 128, 129, 130, 131, 132, 133, 134, 135, 136, 137, 138, 139, 140, 141, 142, 143, 144, 145, 146, 147, 148, 149] (by decide +kernel) (by decide +kernel)
set_option maxRecDepth 20000 in
theorem gX7_refusal_X7_goVoyages : GoodIn wsX7_refusal (wsV RX7 205 RX7 yX7_goVoyages wsX7_goVoyages) := goodIn_app (goodIn_of _ (by decide +kernel)) ggX7_refusal_X7_goVoyages
theorem dX7_refusal_0 : decode cX7_refusal 0 = .ok (.aload_n 0, 1) := by decide +kernel
theorem dX7_refusal_1 : decode cX7_refusal 1 = .ok (.invokevirtual 199, 3) := by decide +kernel
theorem dX7_refusal_4 : decode cX7_refusal 4 = .ok (.aload_n 0, 1) := by decide +kernel
theorem dX7_refusal_5 : decode cX7_refusal 5 = .ok (.invokevirtual 202, 3) := by decide +kernel
theorem dX7_refusal_8 : decode cX7_refusal 8 = .ok (.ifCond .lt 6, 3) := by decide +kernel
theorem dX7_refusal_11 : decode cX7_refusal 11 = .ok (.bipush (-5), 2) := by decide +kernel
theorem dX7_refusal_13 : decode cX7_refusal 13 = .ok (.ireturn, 1) := by decide +kernel
theorem dX7_refusal_14 : decode cX7_refusal 14 = .ok (.aload_n 0, 1) := by decide +kernel
theorem dX7_refusal_15 : decode cX7_refusal 15 = .ok (.invokevirtual 205, 3) := by decide +kernel
theorem dX7_refusal_18 : decode cX7_refusal 18 = .ok (.aload_n 0, 1) := by decide +kernel
theorem dX7_refusal_19 : decode cX7_refusal 19 = .ok (.getfield 183, 3) := by decide +kernel
theorem dX7_refusal_22 : decode cX7_refusal 22 = .ok (.ifCond .lt 8, 3) := by decide +kernel
theorem dX7_refusal_25 : decode cX7_refusal 25 = .ok (.bipush (-3), 2) := by decide +kernel
theorem dX7_refusal_27 : decode cX7_refusal 27 = .ok (.goto 5, 3) := by decide +kernel
theorem dX7_refusal_30 : decode cX7_refusal 30 = .ok (.bipush (-6), 2) := by decide +kernel
theorem dX7_refusal_32 : decode cX7_refusal 32 = .ok (.ireturn, 1) := by decide +kernel
set_option maxRecDepth 20000 in
theorem ggX7_judge_X7_in : GoodIn wsX7_judge wsX7_in := goodIn_r _ [8] (by decide +kernel) (by decide +kernel)
set_option maxRecDepth 20000 in
theorem gX7_judge_X7_in : GoodIn wsX7_judge (va_wsS RX7 71 yX7_in wsX7_in) := goodIn_app (goodIn_of _ (by decide +kernel)) ggX7_judge_X7_in
set_option maxRecDepth 20000 in
theorem ggX7_judge_X7_refusal : GoodIn wsX7_judge wsX7_refusal := goodIn_r _ [12, 2, 13, 14, 15, 7, 16, 17, 18, 19, 20, 21, 22, 23, 24, 25, 26, 27, 28, 29, 30, 31, 32, 33, 34, 35, 36, 37, 38, 39, 40, 41, 5, 6, 8, 42, 43, 44, 45, 46, 47, 48, 49, 50, 51, 52, 53, 54, 55, 56, 3, 57, 4, 58, 59, 60, 61, 62, 63, 64, 65, 66, 67, 68, 69, 70, 71, 72, 73, 74, 75, 76, 77, 78, 79, 80, 81, 82, 83, 84, 85, 86, 87, 88, 89, 90, 91, 92, 93, 94, 95, 96, 97, 98, 99, 100, 101, 102, 103, 104, 105, 106, 107, 108, 109, 110, 111, 112, 113, 114, 115, 116, 117, 118, 119, 120, 125, 126, 127, 128, 129, 130, 131, 132, 133, 134, 135, 136, 137, 138, 139, 140, 141, 142, 143, 144, 145, 146, 147, 148, 149, 150, 151, 152, 153, 154, 155, 156, 157, 158] (by decide +kernel) (by decide +kernel)
set_option maxRecDepth 20000 in
theorem gX7_judge_X7_refusal : GoodIn wsX7_judge (wsV RX7 210 RX7 yX7_refusal wsX7_refusal) := goodIn_app (goodIn_of _ (by decide +kernel)) ggX7_judge_X7_refusal
set_option maxRecDepth 20000 in
theorem ggX7_judge_X7_back : GoodIn wsX7_judge wsX7_back := goodIn_r _ [124, 17, 18, 19, 20, 21, 22, 23, 125, 126, 127, 128, 129, 130, 131, 132, 133, 134, 135, 136, 137, 138, 139, 140, 141, 142, 143, 144, 145, 146, 147, 148, 149, 150, 151, 152, 153, 154, 155, 156, 157, 158] (by decide +kernel) (by decide +kernel)
set_option maxRecDepth 20000 in
theorem gX7_judge_X7_back : GoodIn wsX7_judge (wsV RX7 213 RX7 yX7_back wsX7_back) := goodIn_app (goodIn_of _ (by decide +kernel)) ggX7_judge_X7_back
theorem dX7_judge_0 : decode cX7_judge 0 = .ok (.iload_n 1, 1) := by decide +kernel
theorem dX7_judge_1 : decode cX7_judge 1 = .ok (.i2l, 1) := by decide +kernel
theorem dX7_judge_2 : decode cX7_judge 2 = .ok (.lconst 0, 1) := by decide +kernel
theorem dX7_judge_3 : decode cX7_judge 3 = .ok (.ldc2_w 208, 3) := by decide +kernel
theorem dX7_judge_6 : decode cX7_judge 6 = .ok (.invokestatic 71, 3) := by decide +kernel
theorem dX7_judge_9 : decode cX7_judge 9 = .ok (.ifCond .ne 6, 3) := by decide +kernel
theorem dX7_judge_12 : decode cX7_judge 12 = .ok (.bipush (-2), 2) := by decide +kernel
theorem dX7_judge_14 : decode cX7_judge 14 = .ok (.ireturn, 1) := by decide +kernel
theorem dX7_judge_15 : decode cX7_judge 15 = .ok (.aload_n 0, 1) := by decide +kernel
theorem dX7_judge_16 : decode cX7_judge 16 = .ok (.aload_n 0, 1) := by decide +kernel
theorem dX7_judge_17 : decode cX7_judge 17 = .ok (.invokevirtual 210, 3) := by decide +kernel
theorem dX7_judge_20 : decode cX7_judge 20 = .ok (.invokevirtual 213, 3) := by decide +kernel
theorem dX7_judge_23 : decode cX7_judge 23 = .ok (.istore_n 2, 1) := by decide +kernel
theorem dX7_judge_24 : decode cX7_judge 24 = .ok (.iload_n 2, 1) := by decide +kernel
theorem dX7_judge_25 : decode cX7_judge 25 = .ok (.bipush (-5), 2) := by decide +kernel
theorem dX7_judge_27 : decode cX7_judge 27 = .ok (.if_icmp .eq 14, 3) := by decide +kernel
theorem dX7_judge_30 : decode cX7_judge 30 = .ok (.iload_n 1, 1) := by decide +kernel
theorem dX7_judge_31 : decode cX7_judge 31 = .ok (.iconst 1, 1) := by decide +kernel
theorem dX7_judge_32 : decode cX7_judge 32 = .ok (.if_icmp .le 11, 3) := by decide +kernel
theorem dX7_judge_35 : decode cX7_judge 35 = .ok (.iload_n 2, 1) := by decide +kernel
theorem dX7_judge_36 : decode cX7_judge 36 = .ok (.bipush (-3), 2) := by decide +kernel
theorem dX7_judge_38 : decode cX7_judge 38 = .ok (.if_icmp .ne 5, 3) := by decide +kernel
theorem dX7_judge_41 : decode cX7_judge 41 = .ok (.iload_n 2, 1) := by decide +kernel
theorem dX7_judge_42 : decode cX7_judge 42 = .ok (.ireturn, 1) := by decide +kernel
theorem dX7_judge_43 : decode cX7_judge 43 = .ok (.iload_n 1, 1) := by decide +kernel
theorem dX7_judge_44 : decode cX7_judge 44 = .ok (.ifCond .ne 10, 3) := by decide +kernel
theorem dX7_judge_47 : decode cX7_judge 47 = .ok (.aload_n 0, 1) := by decide +kernel
theorem dX7_judge_48 : decode cX7_judge 48 = .ok (.getfield 183, 3) := by decide +kernel
theorem dX7_judge_51 : decode cX7_judge 51 = .ok (.goto 19, 3) := by decide +kernel
theorem dX7_judge_54 : decode cX7_judge 54 = .ok (.iload_n 1, 1) := by decide +kernel
theorem dX7_judge_55 : decode cX7_judge 55 = .ok (.iconst 1, 1) := by decide +kernel
theorem dX7_judge_56 : decode cX7_judge 56 = .ok (.if_icmp .ne 10, 3) := by decide +kernel
theorem dX7_judge_59 : decode cX7_judge 59 = .ok (.aload_n 0, 1) := by decide +kernel
theorem dX7_judge_60 : decode cX7_judge 60 = .ok (.getfield 186, 3) := by decide +kernel
theorem dX7_judge_63 : decode cX7_judge 63 = .ok (.goto 7, 3) := by decide +kernel
theorem dX7_judge_66 : decode cX7_judge 66 = .ok (.aload_n 0, 1) := by decide +kernel
theorem dX7_judge_67 : decode cX7_judge 67 = .ok (.getfield 158, 3) := by decide +kernel
theorem dX7_judge_70 : decode cX7_judge 70 = .ok (.ireturn, 1) := by decide +kernel
theorem dX7_ofShip_0 : decode cX7_ofShip 0 = .ok (.iload_n 1, 1) := by decide +kernel
theorem dX7_ofShip_1 : decode cX7_ofShip 1 = .ok (.tableswitch 72 0 4 #[35, 40, 45, 50, 67], 35) := by decide +kernel
theorem dX7_ofShip_36 : decode cX7_ofShip 36 = .ok (.aload_n 0, 1) := by decide +kernel
theorem dX7_ofShip_37 : decode cX7_ofShip 37 = .ok (.getfield 59, 3) := by decide +kernel
theorem dX7_ofShip_40 : decode cX7_ofShip 40 = .ok (.ireturn, 1) := by decide +kernel
theorem dX7_ofShip_41 : decode cX7_ofShip 41 = .ok (.aload_n 0, 1) := by decide +kernel
theorem dX7_ofShip_42 : decode cX7_ofShip 42 = .ok (.getfield 63, 3) := by decide +kernel
theorem dX7_ofShip_45 : decode cX7_ofShip 45 = .ok (.ireturn, 1) := by decide +kernel
theorem dX7_ofShip_46 : decode cX7_ofShip 46 = .ok (.aload_n 0, 1) := by decide +kernel
theorem dX7_ofShip_47 : decode cX7_ofShip 47 = .ok (.getfield 66, 3) := by decide +kernel
theorem dX7_ofShip_50 : decode cX7_ofShip 50 = .ok (.ireturn, 1) := by decide +kernel
theorem dX7_ofShip_51 : decode cX7_ofShip 51 = .ok (.aload_n 0, 1) := by decide +kernel
theorem dX7_ofShip_52 : decode cX7_ofShip 52 = .ok (.getfield 66, 3) := by decide +kernel
theorem dX7_ofShip_55 : decode cX7_ofShip 55 = .ok (.ifCond .ge 8, 3) := by decide +kernel
theorem dX7_ofShip_58 : decode cX7_ofShip 58 = .ok (.bipush (-6), 2) := by decide +kernel
theorem dX7_ofShip_60 : decode cX7_ofShip 60 = .ok (.goto 7, 3) := by decide +kernel
theorem dX7_ofShip_63 : decode cX7_ofShip 63 = .ok (.aload_n 0, 1) := by decide +kernel
theorem dX7_ofShip_64 : decode cX7_ofShip 64 = .ok (.getfield 146, 3) := by decide +kernel
theorem dX7_ofShip_67 : decode cX7_ofShip 67 = .ok (.ireturn, 1) := by decide +kernel
theorem dX7_ofShip_68 : decode cX7_ofShip 68 = .ok (.aload_n 0, 1) := by decide +kernel
theorem dX7_ofShip_69 : decode cX7_ofShip 69 = .ok (.getfield 104, 3) := by decide +kernel
theorem dX7_ofShip_72 : decode cX7_ofShip 72 = .ok (.ireturn, 1) := by decide +kernel
theorem dX7_ofShip_73 : decode cX7_ofShip 73 = .ok (.aload_n 0, 1) := by decide +kernel
theorem dX7_ofShip_74 : decode cX7_ofShip 74 = .ok (.getfield 143, 3) := by decide +kernel
theorem dX7_ofShip_77 : decode cX7_ofShip 77 = .ok (.ireturn, 1) := by decide +kernel
set_option maxRecDepth 20000 in
theorem ggX7_behind_X7_in : GoodIn wsX7_behind wsX7_in := goodIn_r _ [5] (by decide +kernel) (by decide +kernel)
set_option maxRecDepth 20000 in
theorem gX7_behind_X7_in : GoodIn wsX7_behind (va_wsS RX7 71 yX7_in wsX7_in) := goodIn_app (goodIn_of _ (by decide +kernel)) ggX7_behind_X7_in
set_option maxRecDepth 20000 in
theorem ggX7_behind_X7_refusal : GoodIn wsX7_behind wsX7_refusal := goodIn_r _ [9, 10, 11, 12, 13, 4, 14, 15, 16, 17, 18, 19, 20, 21, 22, 23, 24, 25, 26, 27, 28, 29, 30, 31, 32, 33, 34, 35, 36, 37, 38, 39, 2, 3, 5, 40, 41, 42, 43, 44, 45, 46, 47, 48, 49, 50, 51, 52, 53, 54, 55, 56, 57, 58, 59, 60, 61, 62, 63, 64, 65, 66, 67, 68, 69, 70, 71, 72, 73, 74, 75, 76, 77, 78, 79, 80, 81, 82, 83, 84, 85, 86, 87, 88, 89, 90, 91, 92, 93, 94, 95, 96, 97, 98, 99, 100, 101, 102, 103, 104, 105, 106, 107, 108, 109, 110, 111, 112, 113, 114, 115, 116, 117, 118, 119, 120, 129, 130, 131, 132, 133, 134, 135, 136, 137, 138, 139, 140, 141, 142, 143, 144, 145, 146, 147, 148, 149, 150, 151, 152, 153, 154, 155, 156, 157, 158, 159, 160, 161, 162] (by decide +kernel) (by decide +kernel)
set_option maxRecDepth 20000 in
theorem gX7_behind_X7_refusal : GoodIn wsX7_behind (wsV RX7 210 RX7 yX7_refusal wsX7_refusal) := goodIn_app (goodIn_of _ (by decide +kernel)) ggX7_behind_X7_refusal
set_option maxRecDepth 20000 in
theorem ggX7_behind_X7_ofShip : GoodIn wsX7_behind wsX7_ofShip := goodIn_r _ [124, 16, 17, 18, 19, 20, 21, 129, 130, 131, 132, 133, 134, 135, 136, 137, 138, 139, 140, 141, 142, 143, 144, 145, 146, 147, 148, 149, 150, 151, 152, 153, 154, 155, 156, 157, 158, 159, 160, 161, 162] (by decide +kernel) (by decide +kernel)
set_option maxRecDepth 20000 in
theorem gX7_behind_X7_ofShip : GoodIn wsX7_behind (wsV RX7 216 RX7 yX7_ofShip wsX7_ofShip) := goodIn_app (goodIn_of _ (by decide +kernel)) ggX7_behind_X7_ofShip
set_option maxRecDepth 20000 in
theorem ggX7_behind_X7_back : GoodIn wsX7_behind wsX7_back := goodIn_r _ [128, 15, 16, 17, 18, 19, 20, 21, 129, 130, 131, 132, 133, 134, 135, 136, 137, 138, 139, 140, 141, 142, 143, 144, 145, 146, 147, 148, 149, 150, 151, 152, 153, 154, 155, 156, 157, 158, 159, 160, 161, 162] (by decide +kernel) (by decide +kernel)
set_option maxRecDepth 20000 in
theorem gX7_behind_X7_back : GoodIn wsX7_behind (wsV RX7 213 RX7 yX7_back wsX7_back) := goodIn_app (goodIn_of _ (by decide +kernel)) ggX7_behind_X7_back
theorem dX7_behind_0 : decode cX7_behind 0 = .ok (.iload_n 1, 1) := by decide +kernel
theorem dX7_behind_1 : decode cX7_behind 1 = .ok (.i2l, 1) := by decide +kernel
theorem dX7_behind_2 : decode cX7_behind 2 = .ok (.lconst 0, 1) := by decide +kernel
theorem dX7_behind_3 : decode cX7_behind 3 = .ok (.ldc2_w 102, 3) := by decide +kernel
theorem dX7_behind_6 : decode cX7_behind 6 = .ok (.invokestatic 71, 3) := by decide +kernel
theorem dX7_behind_9 : decode cX7_behind 9 = .ok (.ifCond .ne 6, 3) := by decide +kernel
theorem dX7_behind_12 : decode cX7_behind 12 = .ok (.bipush (-2), 2) := by decide +kernel
theorem dX7_behind_14 : decode cX7_behind 14 = .ok (.ireturn, 1) := by decide +kernel
theorem dX7_behind_15 : decode cX7_behind 15 = .ok (.aload_n 0, 1) := by decide +kernel
theorem dX7_behind_16 : decode cX7_behind 16 = .ok (.invokevirtual 210, 3) := by decide +kernel
theorem dX7_behind_19 : decode cX7_behind 19 = .ok (.istore_n 2, 1) := by decide +kernel
theorem dX7_behind_20 : decode cX7_behind 20 = .ok (.aload_n 0, 1) := by decide +kernel
theorem dX7_behind_21 : decode cX7_behind 21 = .ok (.iload_n 2, 1) := by decide +kernel
theorem dX7_behind_22 : decode cX7_behind 22 = .ok (.bipush (-6), 2) := by decide +kernel
theorem dX7_behind_24 : decode cX7_behind 24 = .ok (.if_icmp .eq 7, 3) := by decide +kernel
theorem dX7_behind_27 : decode cX7_behind 27 = .ok (.iload_n 2, 1) := by decide +kernel
theorem dX7_behind_28 : decode cX7_behind 28 = .ok (.goto 8, 3) := by decide +kernel
theorem dX7_behind_31 : decode cX7_behind 31 = .ok (.aload_n 0, 1) := by decide +kernel
theorem dX7_behind_32 : decode cX7_behind 32 = .ok (.iload_n 1, 1) := by decide +kernel
theorem dX7_behind_33 : decode cX7_behind 33 = .ok (.invokevirtual 216, 3) := by decide +kernel
theorem dX7_behind_36 : decode cX7_behind 36 = .ok (.invokevirtual 213, 3) := by decide +kernel
theorem dX7_behind_39 : decode cX7_behind 39 = .ok (.ireturn, 1) := by decide +kernel
set_option maxRecDepth 20000 in
theorem ggX7_ofSeen_X7_nearest : GoodIn wsX7_ofSeen wsX7_nearest := goodIn_r _ [7, 2, 8, 9, 10, 6, 11, 12, 13, 14, 15, 16, 17, 18, 19, 20, 21, 22, 23, 1, 24, 25, 30, 31, 32, 33, 34, 35, 36, 37, 38, 39, 40, 41, 42, 43, 44, 45, 46, 47, 48, 49, 50, 51, 52, 53, 54, 55, 56, 57, 58, 59, 60, 61, 62, 63] (by decide +kernel) (by decide +kernel)
set_option maxRecDepth 20000 in
theorem gX7_ofSeen_X7_nearest : GoodIn wsX7_ofSeen (wsV RX7 219 RX7 yX7_nearest wsX7_nearest) := goodIn_app (goodIn_of _ (by decide +kernel)) ggX7_ofSeen_X7_nearest
set_option maxRecDepth 20000 in
theorem ggX7_ofSeen_X7_seenMany : GoodIn wsX7_ofSeen wsX7_seenMany := goodIn_r _ [29, 8, 9, 10, 6, 11, 12, 2, 13, 14, 15, 16, 17, 18, 19, 20, 21, 22, 23, 1, 24, 25, 30, 31, 32, 33, 34, 35, 36, 37, 38, 39, 40, 41, 42, 43, 44, 45, 46, 47, 48, 49, 50, 51, 52, 53, 54, 55, 56, 57, 58, 59, 60, 61, 62, 63] (by decide +kernel) (by decide +kernel)
set_option maxRecDepth 20000 in
theorem gX7_ofSeen_X7_seenMany : GoodIn wsX7_ofSeen (wsV RX7 167 RX7 yX7_seenMany wsX7_seenMany) := goodIn_app (goodIn_of _ (by decide +kernel)) ggX7_ofSeen_X7_seenMany
set_option maxRecDepth 20000 in
theorem ggX7_ofSeen_X7_far : GoodIn wsX7_ofSeen wsX7_far := goodIn_r _ [15, 16, 17, 6, 18] (by decide +kernel) (by decide +kernel)
set_option maxRecDepth 20000 in
theorem gX7_ofSeen_X7_far : GoodIn wsX7_ofSeen (va_wsS RX7 149 yX7_far wsX7_far) := goodIn_app (goodIn_of _ (by decide +kernel)) ggX7_ofSeen_X7_far
theorem dX7_ofSeen_0 : decode cX7_ofSeen 0 = .ok (.aload_n 0, 1) := by decide +kernel
theorem dX7_ofSeen_1 : decode cX7_ofSeen 1 = .ok (.getfield 66, 3) := by decide +kernel
theorem dX7_ofSeen_4 : decode cX7_ofSeen 4 = .ok (.ifCond .ge 6, 3) := by decide +kernel
theorem dX7_ofSeen_7 : decode cX7_ofSeen 7 = .ok (.bipush (-6), 2) := by decide +kernel
theorem dX7_ofSeen_9 : decode cX7_ofSeen 9 = .ok (.ireturn, 1) := by decide +kernel
theorem dX7_ofSeen_10 : decode cX7_ofSeen 10 = .ok (.aload_n 0, 1) := by decide +kernel
theorem dX7_ofSeen_11 : decode cX7_ofSeen 11 = .ok (.invokevirtual 219, 3) := by decide +kernel
theorem dX7_ofSeen_14 : decode cX7_ofSeen 14 = .ok (.istore_n 2, 1) := by decide +kernel
theorem dX7_ofSeen_15 : decode cX7_ofSeen 15 = .ok (.iload_n 1, 1) := by decide +kernel
theorem dX7_ofSeen_16 : decode cX7_ofSeen 16 = .ok (.ifCond .ne 10, 3) := by decide +kernel
theorem dX7_ofSeen_19 : decode cX7_ofSeen 19 = .ok (.aload_n 0, 1) := by decide +kernel
theorem dX7_ofSeen_20 : decode cX7_ofSeen 20 = .ok (.invokevirtual 167, 3) := by decide +kernel
theorem dX7_ofSeen_23 : decode cX7_ofSeen 23 = .ok (.goto 29, 3) := by decide +kernel
theorem dX7_ofSeen_26 : decode cX7_ofSeen 26 = .ok (.iload_n 1, 1) := by decide +kernel
theorem dX7_ofSeen_27 : decode cX7_ofSeen 27 = .ok (.iconst 2, 1) := by decide +kernel
theorem dX7_ofSeen_28 : decode cX7_ofSeen 28 = .ok (.if_icmp .ne 7, 3) := by decide +kernel
theorem dX7_ofSeen_31 : decode cX7_ofSeen 31 = .ok (.iload_n 2, 1) := by decide +kernel
theorem dX7_ofSeen_32 : decode cX7_ofSeen 32 = .ok (.goto 20, 3) := by decide +kernel
theorem dX7_ofSeen_35 : decode cX7_ofSeen 35 = .ok (.iload_n 2, 1) := by decide +kernel
theorem dX7_ofSeen_36 : decode cX7_ofSeen 36 = .ok (.ifCond .ge 8, 3) := by decide +kernel
theorem dX7_ofSeen_39 : decode cX7_ofSeen 39 = .ok (.bipush (-6), 2) := by decide +kernel
theorem dX7_ofSeen_41 : decode cX7_ofSeen 41 = .ok (.goto 11, 3) := by decide +kernel
theorem dX7_ofSeen_44 : decode cX7_ofSeen 44 = .ok (.iload_n 2, 1) := by decide +kernel
theorem dX7_ofSeen_45 : decode cX7_ofSeen 45 = .ok (.aload_n 0, 1) := by decide +kernel
theorem dX7_ofSeen_46 : decode cX7_ofSeen 46 = .ok (.getfield 59, 3) := by decide +kernel
theorem dX7_ofSeen_49 : decode cX7_ofSeen 49 = .ok (.invokestatic 149, 3) := by decide +kernel
theorem dX7_ofSeen_52 : decode cX7_ofSeen 52 = .ok (.ireturn, 1) := by decide +kernel
set_option maxRecDepth 20000 in
theorem ggX7_seen_X7_in : GoodIn wsX7_seen wsX7_in := goodIn_r _ [5] (by decide +kernel) (by decide +kernel)
set_option maxRecDepth 20000 in
theorem gX7_seen_X7_in : GoodIn wsX7_seen (va_wsS RX7 71 yX7_in wsX7_in) := goodIn_app (goodIn_of _ (by decide +kernel)) ggX7_seen_X7_in
set_option maxRecDepth 20000 in
theorem ggX7_seen_X7_refusal : GoodIn wsX7_seen wsX7_refusal := goodIn_r _ [9, 10, 11, 12, 13, 4, 14, 15, 16, 17, 18, 19, 20, 21, 22, 23, 24, 25, 26, 27, 28, 29, 30, 31, 32, 33, 34, 35, 36, 37, 38, 39, 2, 3, 5, 40, 41, 42, 43, 44, 45, 46, 47, 48, 49, 50, 51, 52, 53, 54, 55, 56, 57, 58, 59, 60, 61, 62, 63, 64, 65, 66, 67, 68, 69, 70, 71, 72, 73, 74, 75, 76, 77, 78, 79, 80, 81, 82, 83, 84, 85, 86, 87, 88, 89, 90, 91, 92, 93, 94, 95, 96, 97, 98, 99, 100, 101, 102, 103, 104, 105, 106, 107, 108, 109, 110, 111, 112, 113, 114, 115, 116, 117, 118, 119, 120, 133, 134, 135, 136, 137, 138, 139, 140, 141, 142, 143, 144, 145, 146, 147, 148, 149, 150, 151, 152, 153, 154, 155, 156, 157, 158, 159, 160, 161, 162, 163, 164, 165, 166] (by decide +kernel) (by decide +kernel)
set_option maxRecDepth 20000 in
theorem gX7_seen_X7_refusal : GoodIn wsX7_seen (wsV RX7 210 RX7 yX7_refusal wsX7_refusal) := goodIn_app (goodIn_of _ (by decide +kernel)) ggX7_seen_X7_refusal
set_option maxRecDepth 20000 in
theorem ggX7_seen_X7_ofSeen : GoodIn wsX7_seen wsX7_ofSeen := goodIn_r _ [124, 18, 16, 125, 126, 127, 4, 128, 102, 103, 104, 105, 93, 106, 107, 108, 109, 110, 111, 112, 113, 114, 115, 116, 20, 19, 98, 99, 100, 101, 133, 134, 135, 136, 137, 138, 139, 140, 141, 142, 143, 144, 145, 146, 147, 148, 149, 150, 151, 152, 153, 154, 155, 156, 157, 158, 159, 160, 161, 162, 163, 164, 165, 166] (by decide +kernel) (by decide +kernel)
set_option maxRecDepth 20000 in
theorem gX7_seen_X7_ofSeen : GoodIn wsX7_seen (wsV RX7 222 RX7 yX7_ofSeen wsX7_ofSeen) := goodIn_app (goodIn_of _ (by decide +kernel)) ggX7_seen_X7_ofSeen
set_option maxRecDepth 20000 in
theorem ggX7_seen_X7_back : GoodIn wsX7_seen wsX7_back := goodIn_r _ [132, 15, 16, 17, 18, 19, 20, 21, 133, 134, 135, 136, 137, 138, 139, 140, 141, 142, 143, 144, 145, 146, 147, 148, 149, 150, 151, 152, 153, 154, 155, 156, 157, 158, 159, 160, 161, 162, 163, 164, 165, 166] (by decide +kernel) (by decide +kernel)
set_option maxRecDepth 20000 in
theorem gX7_seen_X7_back : GoodIn wsX7_seen (wsV RX7 213 RX7 yX7_back wsX7_back) := goodIn_app (goodIn_of _ (by decide +kernel)) ggX7_seen_X7_back
theorem dX7_seen_0 : decode cX7_seen 0 = .ok (.iload_n 1, 1) := by decide +kernel
theorem dX7_seen_1 : decode cX7_seen 1 = .ok (.i2l, 1) := by decide +kernel
theorem dX7_seen_2 : decode cX7_seen 2 = .ok (.lconst 0, 1) := by decide +kernel
theorem dX7_seen_3 : decode cX7_seen 3 = .ok (.ldc2_w 208, 3) := by decide +kernel
theorem dX7_seen_6 : decode cX7_seen 6 = .ok (.invokestatic 71, 3) := by decide +kernel
theorem dX7_seen_9 : decode cX7_seen 9 = .ok (.ifCond .ne 6, 3) := by decide +kernel
theorem dX7_seen_12 : decode cX7_seen 12 = .ok (.bipush (-2), 2) := by decide +kernel
theorem dX7_seen_14 : decode cX7_seen 14 = .ok (.ireturn, 1) := by decide +kernel
theorem dX7_seen_15 : decode cX7_seen 15 = .ok (.aload_n 0, 1) := by decide +kernel
theorem dX7_seen_16 : decode cX7_seen 16 = .ok (.invokevirtual 210, 3) := by decide +kernel
theorem dX7_seen_19 : decode cX7_seen 19 = .ok (.istore_n 2, 1) := by decide +kernel
theorem dX7_seen_20 : decode cX7_seen 20 = .ok (.aload_n 0, 1) := by decide +kernel
theorem dX7_seen_21 : decode cX7_seen 21 = .ok (.iload_n 2, 1) := by decide +kernel
theorem dX7_seen_22 : decode cX7_seen 22 = .ok (.bipush (-6), 2) := by decide +kernel
theorem dX7_seen_24 : decode cX7_seen 24 = .ok (.if_icmp .eq 7, 3) := by decide +kernel
theorem dX7_seen_27 : decode cX7_seen 27 = .ok (.iload_n 2, 1) := by decide +kernel
theorem dX7_seen_28 : decode cX7_seen 28 = .ok (.goto 8, 3) := by decide +kernel
theorem dX7_seen_31 : decode cX7_seen 31 = .ok (.aload_n 0, 1) := by decide +kernel
theorem dX7_seen_32 : decode cX7_seen 32 = .ok (.iload_n 1, 1) := by decide +kernel
theorem dX7_seen_33 : decode cX7_seen 33 = .ok (.invokevirtual 222, 3) := by decide +kernel
theorem dX7_seen_36 : decode cX7_seen 36 = .ok (.invokevirtual 213, 3) := by decide +kernel
theorem dX7_seen_39 : decode cX7_seen 39 = .ok (.ireturn, 1) := by decide +kernel
set_option maxRecDepth 20000 in
theorem ggX7_silence_X7_in : GoodIn wsX7_silence wsX7_in := goodIn_r _ [6] (by decide +kernel) (by decide +kernel)
set_option maxRecDepth 20000 in
theorem gX7_silence_X7_in : GoodIn wsX7_silence (va_wsS RX7 71 yX7_in wsX7_in) := goodIn_app (goodIn_of _ (by decide +kernel)) ggX7_silence_X7_in
set_option maxRecDepth 20000 in
theorem ggX7_silence_X7_refusal : GoodIn wsX7_silence wsX7_refusal := goodIn_r _ [10, 11, 12, 13, 14, 5, 15, 16, 17, 18, 19, 20, 21, 22, 23, 24, 25, 26, 27, 28, 29, 30, 31, 32, 33, 34, 35, 36, 37, 38, 39, 40, 3, 4, 6, 41, 42, 43, 44, 45, 46, 47, 48, 49, 50, 51, 52, 53, 54, 55, 56, 1, 57, 2, 58, 59, 60, 61, 62, 63, 64, 65, 66, 67, 68, 69, 70, 71, 72, 73, 74, 75, 76, 77, 78, 79, 80, 81, 82, 83, 84, 85, 86, 87, 88, 89, 90, 91, 92, 93, 94, 95, 96, 97, 98, 99, 100, 101, 102, 103, 104, 105, 106, 107, 108, 109, 110, 111, 112, 113, 114, 115, 116, 117, 118, 119, 124, 125, 126, 127, 128, 129, 130, 131, 132, 133, 134, 135, 136, 137, 138, 139, 140, 141, 142, 143, 144, 145, 146, 147, 148, 149, 150, 151, 152, 153, 154, 155, 156, 157] (by decide +kernel) (by decide +kernel)
set_option maxRecDepth 20000 in
theorem gX7_silence_X7_refusal : GoodIn wsX7_silence (wsV RX7 210 RX7 yX7_refusal wsX7_refusal) := goodIn_app (goodIn_of _ (by decide +kernel)) ggX7_silence_X7_refusal
set_option maxRecDepth 20000 in
theorem ggX7_silence_X7_back : GoodIn wsX7_silence wsX7_back := goodIn_r _ [123, 16, 17, 18, 19, 20, 21, 22, 124, 125, 126, 127, 128, 129, 130, 131, 132, 133, 134, 135, 136, 137, 138, 139, 140, 141, 142, 143, 144, 145, 146, 147, 148, 149, 150, 151, 152, 153, 154, 155, 156, 157] (by decide +kernel) (by decide +kernel)
set_option maxRecDepth 20000 in
theorem gX7_silence_X7_back : GoodIn wsX7_silence (wsV RX7 213 RX7 yX7_back wsX7_back) := goodIn_app (goodIn_of _ (by decide +kernel)) ggX7_silence_X7_back
theorem dX7_silence_0 : decode cX7_silence 0 = .ok (.iload_n 1, 1) := by decide +kernel
theorem dX7_silence_1 : decode cX7_silence 1 = .ok (.i2l, 1) := by decide +kernel
theorem dX7_silence_2 : decode cX7_silence 2 = .ok (.lconst 0, 1) := by decide +kernel
theorem dX7_silence_3 : decode cX7_silence 3 = .ok (.lconst 1, 1) := by decide +kernel
theorem dX7_silence_4 : decode cX7_silence 4 = .ok (.invokestatic 71, 3) := by decide +kernel
theorem dX7_silence_7 : decode cX7_silence 7 = .ok (.ifCond .ne 6, 3) := by decide +kernel
theorem dX7_silence_10 : decode cX7_silence 10 = .ok (.bipush (-2), 2) := by decide +kernel
theorem dX7_silence_12 : decode cX7_silence 12 = .ok (.ireturn, 1) := by decide +kernel
theorem dX7_silence_13 : decode cX7_silence 13 = .ok (.aload_n 0, 1) := by decide +kernel
theorem dX7_silence_14 : decode cX7_silence 14 = .ok (.aload_n 0, 1) := by decide +kernel
theorem dX7_silence_15 : decode cX7_silence 15 = .ok (.invokevirtual 210, 3) := by decide +kernel
theorem dX7_silence_18 : decode cX7_silence 18 = .ok (.invokevirtual 213, 3) := by decide +kernel
theorem dX7_silence_21 : decode cX7_silence 21 = .ok (.istore_n 2, 1) := by decide +kernel
theorem dX7_silence_22 : decode cX7_silence 22 = .ok (.iload_n 2, 1) := by decide +kernel
theorem dX7_silence_23 : decode cX7_silence 23 = .ok (.bipush (-6), 2) := by decide +kernel
theorem dX7_silence_25 : decode cX7_silence 25 = .ok (.if_icmp .eq 7, 3) := by decide +kernel
theorem dX7_silence_28 : decode cX7_silence 28 = .ok (.iload_n 2, 1) := by decide +kernel
theorem dX7_silence_29 : decode cX7_silence 29 = .ok (.goto 18, 3) := by decide +kernel
theorem dX7_silence_32 : decode cX7_silence 32 = .ok (.iload_n 1, 1) := by decide +kernel
theorem dX7_silence_33 : decode cX7_silence 33 = .ok (.ifCond .ne 10, 3) := by decide +kernel
theorem dX7_silence_36 : decode cX7_silence 36 = .ok (.aload_n 0, 1) := by decide +kernel
theorem dX7_silence_37 : decode cX7_silence 37 = .ok (.getfield 189, 3) := by decide +kernel
theorem dX7_silence_40 : decode cX7_silence 40 = .ok (.goto 7, 3) := by decide +kernel
theorem dX7_silence_43 : decode cX7_silence 43 = .ok (.aload_n 0, 1) := by decide +kernel
theorem dX7_silence_44 : decode cX7_silence 44 = .ok (.getfield 161, 3) := by decide +kernel
theorem dX7_silence_47 : decode cX7_silence 47 = .ok (.ireturn, 1) := by decide +kernel
set_option maxRecDepth 20000 in
theorem ggX7_done_X7_refusal : GoodIn wsX7_done wsX7_refusal := goodIn_r _ [7, 8, 9, 10, 11, 6, 12, 13, 14, 15, 16, 17, 18, 19, 20, 21, 22, 23, 2, 1, 24, 25, 26, 27, 28, 29, 30, 31, 32, 33, 34, 35, 36, 37, 38, 39, 40, 41, 42, 43, 44, 45, 46, 47, 48, 49, 50, 51, 52, 53, 54, 55, 56, 57, 58, 59, 60, 61, 62, 63, 64, 65, 66, 67, 68, 69, 70, 71, 72, 73, 74, 75, 76, 77, 78, 79, 80, 81, 82, 83, 84, 85, 86, 87, 88, 89, 90, 91, 92, 93, 94, 95, 96, 97, 98, 99, 100, 101, 102, 103, 104, 105, 106, 107, 108, 109, 110, 111, 112, 113, 114, 115, 116, 117, 118, 119, 124, 125, 126, 127, 128, 129, 130, 131, 132, 133, 134, 135, 136, 137, 138, 139, 140, 141, 142, 143, 144, 145, 146, 147, 148, 149, 150, 151, 152, 153, 154, 155, 156, 157] (by decide +kernel) (by decide +kernel)
set_option maxRecDepth 20000 in
theorem gX7_done_X7_refusal : GoodIn wsX7_done (wsV RX7 210 RX7 yX7_refusal wsX7_refusal) := goodIn_app (goodIn_of _ (by decide +kernel)) ggX7_done_X7_refusal
set_option maxRecDepth 20000 in
theorem ggX7_done_X7_back : GoodIn wsX7_done wsX7_back := goodIn_r _ [123, 13, 14, 15, 16, 17, 18, 19, 124, 125, 126, 127, 128, 129, 130, 131, 132, 133, 134, 135, 136, 137, 138, 139, 140, 141, 142, 143, 144, 145, 146, 147, 148, 149, 150, 151, 152, 153, 154, 155, 156, 157] (by decide +kernel) (by decide +kernel)
set_option maxRecDepth 20000 in
theorem gX7_done_X7_back : GoodIn wsX7_done (wsV RX7 213 RX7 yX7_back wsX7_back) := goodIn_app (goodIn_of _ (by decide +kernel)) ggX7_done_X7_back
theorem dX7_done_0 : decode cX7_done 0 = .ok (.aload_n 0, 1) := by decide +kernel
theorem dX7_done_1 : decode cX7_done 1 = .ok (.invokevirtual 210, 3) := by decide +kernel
theorem dX7_done_4 : decode cX7_done 4 = .ok (.istore_n 1, 1) := by decide +kernel
theorem dX7_done_5 : decode cX7_done 5 = .ok (.iload_n 1, 1) := by decide +kernel
theorem dX7_done_6 : decode cX7_done 6 = .ok (.bipush (-6), 2) := by decide +kernel
theorem dX7_done_8 : decode cX7_done 8 = .ok (.if_icmp .eq 9, 3) := by decide +kernel
theorem dX7_done_11 : decode cX7_done 11 = .ok (.aload_n 0, 1) := by decide +kernel
theorem dX7_done_12 : decode cX7_done 12 = .ok (.iload_n 1, 1) := by decide +kernel
theorem dX7_done_13 : decode cX7_done 13 = .ok (.invokevirtual 213, 3) := by decide +kernel
theorem dX7_done_16 : decode cX7_done 16 = .ok (.ireturn, 1) := by decide +kernel
theorem dX7_done_17 : decode cX7_done 17 = .ok (.aload_n 0, 1) := by decide +kernel
theorem dX7_done_18 : decode cX7_done 18 = .ok (.iconst 0, 1) := by decide +kernel
theorem dX7_done_19 : decode cX7_done 19 = .ok (.putfield 111, 3) := by decide +kernel
theorem dX7_done_22 : decode cX7_done 22 = .ok (.aload_n 0, 1) := by decide +kernel
theorem dX7_done_23 : decode cX7_done 23 = .ok (.getfield 114, 3) := by decide +kernel
theorem dX7_done_26 : decode cX7_done 26 = .ok (.ireturn, 1) := by decide +kernel
set_option maxRecDepth 20000 in
theorem ggX7_wayTo_X7_ahead : GoodIn wsX7_wayTo wsX7_ahead := goodIn_r _ [5, 6, 7, 4, 8, 9, 10, 11, 12, 13, 14, 15, 16, 17, 18] (by decide +kernel) (by decide +kernel)
set_option maxRecDepth 20000 in
theorem gX7_wayTo_X7_ahead : GoodIn wsX7_wayTo (va_wsS RX7 137 yX7_ahead wsX7_ahead) := goodIn_app (goodIn_of _ (by decide +kernel)) ggX7_wayTo_X7_ahead
theorem dX7_wayTo_0 : decode cX7_wayTo 0 = .ok (.bipush (-6), 2) := by decide +kernel
theorem dX7_wayTo_2 : decode cX7_wayTo 2 = .ok (.istore_n 3, 1) := by decide +kernel
theorem dX7_wayTo_3 : decode cX7_wayTo 3 = .ok (.bipush 7, 2) := by decide +kernel
theorem dX7_wayTo_5 : decode cX7_wayTo 5 = .ok (.istore 4, 2) := by decide +kernel
theorem dX7_wayTo_7 : decode cX7_wayTo 7 = .ok (.iload 4, 2) := by decide +kernel
theorem dX7_wayTo_9 : decode cX7_wayTo 9 = .ok (.ifCond .lt 40, 3) := by decide +kernel
theorem dX7_wayTo_12 : decode cX7_wayTo 12 = .ok (.iload_n 1, 1) := by decide +kernel
theorem dX7_wayTo_13 : decode cX7_wayTo 13 = .ok (.iload 4, 2) := by decide +kernel
theorem dX7_wayTo_15 : decode cX7_wayTo 15 = .ok (.invokestatic 137, 3) := by decide +kernel
theorem dX7_wayTo_18 : decode cX7_wayTo 18 = .ok (.istore 5, 2) := by decide +kernel
theorem dX7_wayTo_20 : decode cX7_wayTo 20 = .ok (.iload 5, 2) := by decide +kernel
theorem dX7_wayTo_22 : decode cX7_wayTo 22 = .ok (.ifCond .lt 19, 3) := by decide +kernel
theorem dX7_wayTo_25 : decode cX7_wayTo 25 = .ok (.aload_n 0, 1) := by decide +kernel
theorem dX7_wayTo_26 : decode cX7_wayTo 26 = .ok (.getfield 37, 3) := by decide +kernel
theorem dX7_wayTo_29 : decode cX7_wayTo 29 = .ok (.iload 5, 2) := by decide +kernel
theorem dX7_wayTo_31 : decode cX7_wayTo 31 = .ok (.iaload, 1) := by decide +kernel
theorem dX7_wayTo_32 : decode cX7_wayTo 32 = .ok (.iload_n 2, 1) := by decide +kernel
theorem dX7_wayTo_33 : decode cX7_wayTo 33 = .ok (.if_icmp .ne 8, 3) := by decide +kernel
theorem dX7_wayTo_36 : decode cX7_wayTo 36 = .ok (.iload 4, 2) := by decide +kernel
theorem dX7_wayTo_38 : decode cX7_wayTo 38 = .ok (.goto 4, 3) := by decide +kernel
theorem dX7_wayTo_41 : decode cX7_wayTo 41 = .ok (.iload_n 3, 1) := by decide +kernel
theorem dX7_wayTo_42 : decode cX7_wayTo 42 = .ok (.istore_n 3, 1) := by decide +kernel
theorem dX7_wayTo_43 : decode cX7_wayTo 43 = .ok (.iinc 4 (-1), 3) := by decide +kernel
theorem dX7_wayTo_46 : decode cX7_wayTo 46 = .ok (.goto (-39), 3) := by decide +kernel
theorem dX7_wayTo_49 : decode cX7_wayTo 49 = .ok (.iload_n 3, 1) := by decide +kernel
theorem dX7_wayTo_50 : decode cX7_wayTo 50 = .ok (.ireturn, 1) := by decide +kernel
set_option maxRecDepth 20000 in
theorem ggX7_oneStepMore_X7_wayTo : GoodIn wsX7_oneStepMore wsX7_wayTo := goodIn_r _ [7, 1, 8, 9, 6, 10, 11, 12, 13, 14, 15, 16, 17, 18, 19, 20, 21, 22, 23, 24, 25, 26, 27, 28, 29, 30, 31, 32, 33, 34, 35, 36, 37, 38, 39, 40, 41, 42, 43, 44, 45, 46, 47, 48, 49, 50, 51, 52, 53, 54, 55, 56, 57] (by decide +kernel) (by decide +kernel)
set_option maxRecDepth 20000 in
theorem gX7_oneStepMore_X7_wayTo : GoodIn wsX7_oneStepMore (wsV RX7 225 RX7 yX7_wayTo wsX7_wayTo) := goodIn_app (goodIn_of _ (by decide +kernel)) ggX7_oneStepMore_X7_wayTo
theorem dX7_oneStepMore_0 : decode cX7_oneStepMore 0 = .ok (.iconst 0, 1) := by decide +kernel
theorem dX7_oneStepMore_1 : decode cX7_oneStepMore 1 = .ok (.istore_n 2, 1) := by decide +kernel
theorem dX7_oneStepMore_2 : decode cX7_oneStepMore 2 = .ok (.iconst 0, 1) := by decide +kernel
theorem dX7_oneStepMore_3 : decode cX7_oneStepMore 3 = .ok (.istore_n 3, 1) := by decide +kernel
theorem dX7_oneStepMore_4 : decode cX7_oneStepMore 4 = .ok (.iload_n 3, 1) := by decide +kernel
theorem dX7_oneStepMore_5 : decode cX7_oneStepMore 5 = .ok (.bipush 64, 2) := by decide +kernel
theorem dX7_oneStepMore_7 : decode cX7_oneStepMore 7 = .ok (.if_icmp .ge 81, 3) := by decide +kernel
theorem dX7_oneStepMore_10 : decode cX7_oneStepMore 10 = .ok (.aload_n 0, 1) := by decide +kernel
theorem dX7_oneStepMore_11 : decode cX7_oneStepMore 11 = .ok (.getfield 37, 3) := by decide +kernel
theorem dX7_oneStepMore_14 : decode cX7_oneStepMore 14 = .ok (.iload_n 3, 1) := by decide +kernel
theorem dX7_oneStepMore_15 : decode cX7_oneStepMore 15 = .ok (.iaload, 1) := by decide +kernel
theorem dX7_oneStepMore_16 : decode cX7_oneStepMore 16 = .ok (.ifCond .ge 27, 3) := by decide +kernel
theorem dX7_oneStepMore_19 : decode cX7_oneStepMore 19 = .ok (.aload_n 0, 1) := by decide +kernel
theorem dX7_oneStepMore_20 : decode cX7_oneStepMore 20 = .ok (.getfield 7, 3) := by decide +kernel
theorem dX7_oneStepMore_23 : decode cX7_oneStepMore 23 = .ok (.iload_n 3, 1) := by decide +kernel
theorem dX7_oneStepMore_24 : decode cX7_oneStepMore 24 = .ok (.iaload, 1) := by decide +kernel
theorem dX7_oneStepMore_25 : decode cX7_oneStepMore 25 = .ok (.ifCond .ne 18, 3) := by decide +kernel
theorem dX7_oneStepMore_28 : decode cX7_oneStepMore 28 = .ok (.aload_n 0, 1) := by decide +kernel
theorem dX7_oneStepMore_29 : decode cX7_oneStepMore 29 = .ok (.iload_n 3, 1) := by decide +kernel
theorem dX7_oneStepMore_30 : decode cX7_oneStepMore 30 = .ok (.iload_n 1, 1) := by decide +kernel
theorem dX7_oneStepMore_31 : decode cX7_oneStepMore 31 = .ok (.iconst 1, 1) := by decide +kernel
theorem dX7_oneStepMore_32 : decode cX7_oneStepMore 32 = .ok (.isub, 1) := by decide +kernel
theorem dX7_oneStepMore_33 : decode cX7_oneStepMore 33 = .ok (.invokevirtual 225, 3) := by decide +kernel
theorem dX7_oneStepMore_36 : decode cX7_oneStepMore 36 = .ok (.ifCond .lt 7, 3) := by decide +kernel
theorem dX7_oneStepMore_39 : decode cX7_oneStepMore 39 = .ok (.iconst 1, 1) := by decide +kernel
theorem dX7_oneStepMore_40 : decode cX7_oneStepMore 40 = .ok (.goto 4, 3) := by decide +kernel
theorem dX7_oneStepMore_43 : decode cX7_oneStepMore 43 = .ok (.iconst 0, 1) := by decide +kernel
theorem dX7_oneStepMore_44 : decode cX7_oneStepMore 44 = .ok (.istore 4, 2) := by decide +kernel
theorem dX7_oneStepMore_46 : decode cX7_oneStepMore 46 = .ok (.aload_n 0, 1) := by decide +kernel
theorem dX7_oneStepMore_47 : decode cX7_oneStepMore 47 = .ok (.getfield 37, 3) := by decide +kernel
theorem dX7_oneStepMore_50 : decode cX7_oneStepMore 50 = .ok (.iload_n 3, 1) := by decide +kernel
theorem dX7_oneStepMore_51 : decode cX7_oneStepMore 51 = .ok (.iload 4, 2) := by decide +kernel
theorem dX7_oneStepMore_53 : decode cX7_oneStepMore 53 = .ok (.ifCond .eq 7, 3) := by decide +kernel
theorem dX7_oneStepMore_56 : decode cX7_oneStepMore 56 = .ok (.iload_n 1, 1) := by decide +kernel
theorem dX7_oneStepMore_57 : decode cX7_oneStepMore 57 = .ok (.goto 9, 3) := by decide +kernel
theorem dX7_oneStepMore_60 : decode cX7_oneStepMore 60 = .ok (.aload_n 0, 1) := by decide +kernel
theorem dX7_oneStepMore_61 : decode cX7_oneStepMore 61 = .ok (.getfield 37, 3) := by decide +kernel
theorem dX7_oneStepMore_64 : decode cX7_oneStepMore 64 = .ok (.iload_n 3, 1) := by decide +kernel
theorem dX7_oneStepMore_65 : decode cX7_oneStepMore 65 = .ok (.iaload, 1) := by decide +kernel
theorem dX7_oneStepMore_66 : decode cX7_oneStepMore 66 = .ok (.iastore, 1) := by decide +kernel
theorem dX7_oneStepMore_67 : decode cX7_oneStepMore 67 = .ok (.iload_n 2, 1) := by decide +kernel
theorem dX7_oneStepMore_68 : decode cX7_oneStepMore 68 = .ok (.ifCond .ne 8, 3) := by decide +kernel
theorem dX7_oneStepMore_71 : decode cX7_oneStepMore 71 = .ok (.iload 4, 2) := by decide +kernel
theorem dX7_oneStepMore_73 : decode cX7_oneStepMore 73 = .ok (.ifCond .eq 7, 3) := by decide +kernel
theorem dX7_oneStepMore_76 : decode cX7_oneStepMore 76 = .ok (.iconst 1, 1) := by decide +kernel
theorem dX7_oneStepMore_77 : decode cX7_oneStepMore 77 = .ok (.goto 4, 3) := by decide +kernel
theorem dX7_oneStepMore_80 : decode cX7_oneStepMore 80 = .ok (.iconst 0, 1) := by decide +kernel
theorem dX7_oneStepMore_81 : decode cX7_oneStepMore 81 = .ok (.istore_n 2, 1) := by decide +kernel
theorem dX7_oneStepMore_82 : decode cX7_oneStepMore 82 = .ok (.iinc 3 1, 3) := by decide +kernel
theorem dX7_oneStepMore_85 : decode cX7_oneStepMore 85 = .ok (.goto (-81), 3) := by decide +kernel
theorem dX7_oneStepMore_88 : decode cX7_oneStepMore 88 = .ok (.iload_n 2, 1) := by decide +kernel
theorem dX7_oneStepMore_89 : decode cX7_oneStepMore 89 = .ok (.ireturn, 1) := by decide +kernel
set_option maxRecDepth 20000 in
theorem ggX7_course_X7_isCell : GoodIn wsX7_course wsX7_isCell := goodIn_r _ [6, 7, 8, 9, 5, 10] (by decide +kernel) (by decide +kernel)
set_option maxRecDepth 20000 in
theorem gX7_course_X7_isCell : GoodIn wsX7_course (va_wsS RX7 92 yX7_isCell wsX7_isCell) := goodIn_app (goodIn_of _ (by decide +kernel)) ggX7_course_X7_isCell
set_option maxRecDepth 20000 in
theorem ggX7_course_X7_in : GoodIn wsX7_course wsX7_in := goodIn_r _ [10] (by decide +kernel) (by decide +kernel)
set_option maxRecDepth 20000 in
theorem gX7_course_X7_in : GoodIn wsX7_course (va_wsS RX7 71 yX7_in wsX7_in) := goodIn_app (goodIn_of _ (by decide +kernel)) ggX7_course_X7_in
set_option maxRecDepth 20000 in
theorem ggX7_course_X7_oneStepMore : GoodIn wsX7_course wsX7_oneStepMore := goodIn_r _ [14, 1, 2, 15, 16, 17, 5, 18, 19, 20, 21, 22, 23, 24, 25, 26, 27, 28, 29, 30, 31, 8, 9, 10, 32, 33, 34, 35, 36, 37, 38, 39, 40, 41, 42, 43, 44, 45, 46, 47, 48, 49, 50, 51, 52, 53, 54, 55, 56, 57, 58, 59, 60, 61, 62, 63, 64, 65] (by decide +kernel) (by decide +kernel)
set_option maxRecDepth 20000 in
theorem gX7_course_X7_oneStepMore : GoodIn wsX7_course (wsV RX7 228 RX7 yX7_oneStepMore wsX7_oneStepMore) := goodIn_app (goodIn_of _ (by decide +kernel)) ggX7_course_X7_oneStepMore
set_option maxRecDepth 20000 in
theorem ggX7_course_X7_wayTo : GoodIn wsX7_course wsX7_wayTo := goodIn_r _ [18, 1, 19, 20, 5, 21, 22, 23, 24, 25, 26, 27, 28, 29, 30, 31, 8, 9, 10, 32, 33, 34, 35, 36, 37, 38, 39, 40, 41, 42, 43, 44, 45, 46, 47, 48, 49, 50, 51, 52, 53, 54, 55, 56, 57, 58, 59, 60, 61, 62, 63, 64, 65] (by decide +kernel) (by decide +kernel)
set_option maxRecDepth 20000 in
theorem gX7_course_X7_wayTo : GoodIn wsX7_course (wsV RX7 225 RX7 yX7_wayTo wsX7_wayTo) := goodIn_app (goodIn_of _ (by decide +kernel)) ggX7_course_X7_wayTo
end
section
theorem dX7_course_0 : decode cX7_course 0 = .ok (.iload_n 1, 1) := by decide +kernel
theorem dX7_course_1 : decode cX7_course 1 = .ok (.invokestatic 92, 3) := by decide +kernel
theorem dX7_course_4 : decode cX7_course 4 = .ok (.ifCond .eq 10, 3) := by decide +kernel
theorem dX7_course_7 : decode cX7_course 7 = .ok (.iload_n 2, 1) := by decide +kernel
theorem dX7_course_8 : decode cX7_course 8 = .ok (.invokestatic 92, 3) := by decide +kernel
theorem dX7_course_11 : decode cX7_course 11 = .ok (.ifCond .ne 5, 3) := by decide +kernel
theorem dX7_course_14 : decode cX7_course 14 = .ok (.iconst (-1), 1) := by decide +kernel
theorem dX7_course_15 : decode cX7_course 15 = .ok (.ireturn, 1) := by decide +kernel
theorem dX7_course_16 : decode cX7_course 16 = .ok (.iload_n 3, 1) := by decide +kernel
theorem dX7_course_17 : decode cX7_course 17 = .ok (.i2l, 1) := by decide +kernel
theorem dX7_course_18 : decode cX7_course 18 = .ok (.lconst 0, 1) := by decide +kernel
theorem dX7_course_19 : decode cX7_course 19 = .ok (.lconst 1, 1) := by decide +kernel
theorem dX7_course_20 : decode cX7_course 20 = .ok (.invokestatic 71, 3) := by decide +kernel
theorem dX7_course_23 : decode cX7_course 23 = .ok (.ifCond .ne 6, 3) := by decide +kernel
theorem dX7_course_26 : decode cX7_course 26 = .ok (.bipush (-2), 2) := by decide +kernel
theorem dX7_course_28 : decode cX7_course 28 = .ok (.ireturn, 1) := by decide +kernel
theorem dX7_course_29 : decode cX7_course 29 = .ok (.iconst 0, 1) := by decide +kernel
theorem dX7_course_30 : decode cX7_course 30 = .ok (.istore 4, 2) := by decide +kernel
theorem dX7_course_32 : decode cX7_course 32 = .ok (.iload 4, 2) := by decide +kernel
theorem dX7_course_34 : decode cX7_course 34 = .ok (.bipush 64, 2) := by decide +kernel
theorem dX7_course_36 : decode cX7_course 36 = .ok (.if_icmp .ge 38, 3) := by decide +kernel
theorem dX7_course_39 : decode cX7_course 39 = .ok (.aload_n 0, 1) := by decide +kernel
theorem dX7_course_40 : decode cX7_course 40 = .ok (.getfield 37, 3) := by decide +kernel
theorem dX7_course_43 : decode cX7_course 43 = .ok (.iload 4, 2) := by decide +kernel
theorem dX7_course_45 : decode cX7_course 45 = .ok (.iload 4, 2) := by decide +kernel
theorem dX7_course_47 : decode cX7_course 47 = .ok (.iload_n 2, 1) := by decide +kernel
theorem dX7_course_48 : decode cX7_course 48 = .ok (.if_icmp .ne 17, 3) := by decide +kernel
theorem dX7_course_51 : decode cX7_course 51 = .ok (.aload_n 0, 1) := by decide +kernel
theorem dX7_course_52 : decode cX7_course 52 = .ok (.getfield 7, 3) := by decide +kernel
theorem dX7_course_55 : decode cX7_course 55 = .ok (.iload 4, 2) := by decide +kernel
theorem dX7_course_57 : decode cX7_course 57 = .ok (.iaload, 1) := by decide +kernel
theorem dX7_course_58 : decode cX7_course 58 = .ok (.ifCond .ne 7, 3) := by decide +kernel
theorem dX7_course_61 : decode cX7_course 61 = .ok (.iconst 0, 1) := by decide +kernel
theorem dX7_course_62 : decode cX7_course 62 = .ok (.goto 5, 3) := by decide +kernel
theorem dX7_course_65 : decode cX7_course 65 = .ok (.bipush (-6), 2) := by decide +kernel
theorem dX7_course_67 : decode cX7_course 67 = .ok (.iastore, 1) := by decide +kernel
theorem dX7_course_68 : decode cX7_course 68 = .ok (.iinc 4 1, 3) := by decide +kernel
theorem dX7_course_71 : decode cX7_course 71 = .ok (.goto (-39), 3) := by decide +kernel
theorem dX7_course_74 : decode cX7_course 74 = .ok (.iconst 1, 1) := by decide +kernel
theorem dX7_course_75 : decode cX7_course 75 = .ok (.istore 4, 2) := by decide +kernel
theorem dX7_course_77 : decode cX7_course 77 = .ok (.iconst 1, 1) := by decide +kernel
theorem dX7_course_78 : decode cX7_course 78 = .ok (.istore 5, 2) := by decide +kernel
theorem dX7_course_80 : decode cX7_course 80 = .ok (.iload 4, 2) := by decide +kernel
theorem dX7_course_82 : decode cX7_course 82 = .ok (.ifCond .eq 17, 3) := by decide +kernel
theorem dX7_course_85 : decode cX7_course 85 = .ok (.aload_n 0, 1) := by decide +kernel
theorem dX7_course_86 : decode cX7_course 86 = .ok (.iload 5, 2) := by decide +kernel
theorem dX7_course_88 : decode cX7_course 88 = .ok (.invokevirtual 228, 3) := by decide +kernel
theorem dX7_course_91 : decode cX7_course 91 = .ok (.istore 4, 2) := by decide +kernel
theorem dX7_course_93 : decode cX7_course 93 = .ok (.iinc 5 1, 3) := by decide +kernel
theorem dX7_course_96 : decode cX7_course 96 = .ok (.goto (-16), 3) := by decide +kernel
theorem dX7_course_99 : decode cX7_course 99 = .ok (.iload_n 3, 1) := by decide +kernel
theorem dX7_course_100 : decode cX7_course 100 = .ok (.ifCond .ne 12, 3) := by decide +kernel
theorem dX7_course_103 : decode cX7_course 103 = .ok (.aload_n 0, 1) := by decide +kernel
theorem dX7_course_104 : decode cX7_course 104 = .ok (.getfield 37, 3) := by decide +kernel
theorem dX7_course_107 : decode cX7_course 107 = .ok (.iload_n 1, 1) := by decide +kernel
theorem dX7_course_108 : decode cX7_course 108 = .ok (.iaload, 1) := by decide +kernel
theorem dX7_course_109 : decode cX7_course 109 = .ok (.goto 31, 3) := by decide +kernel
theorem dX7_course_112 : decode cX7_course 112 = .ok (.aload_n 0, 1) := by decide +kernel
theorem dX7_course_113 : decode cX7_course 113 = .ok (.getfield 37, 3) := by decide +kernel
theorem dX7_course_116 : decode cX7_course 116 = .ok (.iload_n 1, 1) := by decide +kernel
theorem dX7_course_117 : decode cX7_course 117 = .ok (.iaload, 1) := by decide +kernel
theorem dX7_course_118 : decode cX7_course 118 = .ok (.iconst 1, 1) := by decide +kernel
theorem dX7_course_119 : decode cX7_course 119 = .ok (.if_icmp .ge 8, 3) := by decide +kernel
theorem dX7_course_122 : decode cX7_course 122 = .ok (.bipush (-6), 2) := by decide +kernel
theorem dX7_course_124 : decode cX7_course 124 = .ok (.goto 16, 3) := by decide +kernel
theorem dX7_course_127 : decode cX7_course 127 = .ok (.aload_n 0, 1) := by decide +kernel
theorem dX7_course_128 : decode cX7_course 128 = .ok (.iload_n 1, 1) := by decide +kernel
theorem dX7_course_129 : decode cX7_course 129 = .ok (.aload_n 0, 1) := by decide +kernel
theorem dX7_course_130 : decode cX7_course 130 = .ok (.getfield 37, 3) := by decide +kernel
theorem dX7_course_133 : decode cX7_course 133 = .ok (.iload_n 1, 1) := by decide +kernel
theorem dX7_course_134 : decode cX7_course 134 = .ok (.iaload, 1) := by decide +kernel
theorem dX7_course_135 : decode cX7_course 135 = .ok (.iconst 1, 1) := by decide +kernel
theorem dX7_course_136 : decode cX7_course 136 = .ok (.isub, 1) := by decide +kernel
theorem dX7_course_137 : decode cX7_course 137 = .ok (.invokevirtual 225, 3) := by decide +kernel
theorem dX7_course_140 : decode cX7_course 140 = .ok (.ireturn, 1) := by decide +kernel
set_option maxRecDepth 20000 in
theorem ggX7_bears_X7_ahead : GoodIn wsX7_bears wsX7_ahead := goodIn_r _ [4, 5, 6, 3, 7, 8, 9, 10, 11, 12, 13, 14, 15, 16, 17] (by decide +kernel) (by decide +kernel)
set_option maxRecDepth 20000 in
theorem gX7_bears_X7_ahead : GoodIn wsX7_bears (va_wsS RX7 137 yX7_ahead wsX7_ahead) := goodIn_app (goodIn_of _ (by decide +kernel)) ggX7_bears_X7_ahead
theorem dX7_bears_0 : decode cX7_bears 0 = .ok (.iload_n 1, 1) := by decide +kernel
theorem dX7_bears_1 : decode cX7_bears 1 = .ok (.iload_n 2, 1) := by decide +kernel
theorem dX7_bears_2 : decode cX7_bears 2 = .ok (.invokestatic 137, 3) := by decide +kernel
theorem dX7_bears_5 : decode cX7_bears 5 = .ok (.istore_n 3, 1) := by decide +kernel
theorem dX7_bears_6 : decode cX7_bears 6 = .ok (.iconst 0, 1) := by decide +kernel
theorem dX7_bears_7 : decode cX7_bears 7 = .ok (.istore 4, 2) := by decide +kernel
theorem dX7_bears_9 : decode cX7_bears 9 = .ok (.iload_n 3, 1) := by decide +kernel
theorem dX7_bears_10 : decode cX7_bears 10 = .ok (.ifCond .lt 29, 3) := by decide +kernel
theorem dX7_bears_13 : decode cX7_bears 13 = .ok (.iload 4, 2) := by decide +kernel
theorem dX7_bears_15 : decode cX7_bears 15 = .ok (.ifCond .ne 8, 3) := by decide +kernel
theorem dX7_bears_18 : decode cX7_bears 18 = .ok (.iload_n 3, 1) := by decide +kernel
theorem dX7_bears_19 : decode cX7_bears 19 = .ok (.iload_n 0, 1) := by decide +kernel
theorem dX7_bears_20 : decode cX7_bears 20 = .ok (.if_icmp .ne 7, 3) := by decide +kernel
theorem dX7_bears_23 : decode cX7_bears 23 = .ok (.iconst 1, 1) := by decide +kernel
theorem dX7_bears_24 : decode cX7_bears 24 = .ok (.goto 4, 3) := by decide +kernel
theorem dX7_bears_27 : decode cX7_bears 27 = .ok (.iconst 0, 1) := by decide +kernel
theorem dX7_bears_28 : decode cX7_bears 28 = .ok (.istore 4, 2) := by decide +kernel
theorem dX7_bears_30 : decode cX7_bears 30 = .ok (.iload_n 3, 1) := by decide +kernel
theorem dX7_bears_31 : decode cX7_bears 31 = .ok (.iload_n 2, 1) := by decide +kernel
theorem dX7_bears_32 : decode cX7_bears 32 = .ok (.invokestatic 137, 3) := by decide +kernel
theorem dX7_bears_35 : decode cX7_bears 35 = .ok (.istore_n 3, 1) := by decide +kernel
theorem dX7_bears_36 : decode cX7_bears 36 = .ok (.goto (-27), 3) := by decide +kernel
theorem dX7_bears_39 : decode cX7_bears 39 = .ok (.iload 4, 2) := by decide +kernel
theorem dX7_bears_41 : decode cX7_bears 41 = .ok (.ireturn, 1) := by decide +kernel
set_option maxRecDepth 20000 in
theorem ggX7_cross_X7_isCell : GoodIn wsX7_cross wsX7_isCell := goodIn_r _ [4, 5, 6, 7, 3, 8] (by decide +kernel) (by decide +kernel)
set_option maxRecDepth 20000 in
theorem gX7_cross_X7_isCell : GoodIn wsX7_cross (va_wsS RX7 92 yX7_isCell wsX7_isCell) := goodIn_app (goodIn_of _ (by decide +kernel)) ggX7_cross_X7_isCell
set_option maxRecDepth 20000 in
theorem ggX7_cross_X7_isWay : GoodIn wsX7_cross wsX7_isWay := goodIn_r _ [11, 12, 6, 7, 3, 8] (by decide +kernel) (by decide +kernel)
set_option maxRecDepth 20000 in
theorem gX7_cross_X7_isWay : GoodIn wsX7_cross (va_wsS RX7 231 yX7_isWay wsX7_isWay) := goodIn_app (goodIn_of _ (by decide +kernel)) ggX7_cross_X7_isWay
set_option maxRecDepth 20000 in
theorem ggX7_cross_X7_in : GoodIn wsX7_cross wsX7_in := goodIn_r _ [8] (by decide +kernel) (by decide +kernel)
set_option maxRecDepth 20000 in
theorem gX7_cross_X7_in : GoodIn wsX7_cross (va_wsS RX7 71 yX7_in wsX7_in) := goodIn_app (goodIn_of _ (by decide +kernel)) ggX7_cross_X7_in
set_option maxRecDepth 20000 in
theorem ggX7_cross_X7_bears : GoodIn wsX7_cross wsX7_bears := goodIn_r _ [15, 16, 17, 3, 18, 19, 20, 21, 22, 23, 24, 25, 26, 27, 12, 6, 7, 8] (by decide +kernel) (by decide +kernel)
set_option maxRecDepth 20000 in
theorem gX7_cross_X7_bears : GoodIn wsX7_cross (va_wsS RX7 234 yX7_bears wsX7_bears) := goodIn_app (goodIn_of _ (by decide +kernel)) ggX7_cross_X7_bears
theorem dX7_cross_0 : decode cX7_cross 0 = .ok (.iload_n 1, 1) := by decide +kernel
theorem dX7_cross_1 : decode cX7_cross 1 = .ok (.invokestatic 92, 3) := by decide +kernel
theorem dX7_cross_4 : decode cX7_cross 4 = .ok (.ifCond .eq 10, 3) := by decide +kernel
theorem dX7_cross_7 : decode cX7_cross 7 = .ok (.iload_n 3, 1) := by decide +kernel
theorem dX7_cross_8 : decode cX7_cross 8 = .ok (.invokestatic 92, 3) := by decide +kernel
theorem dX7_cross_11 : decode cX7_cross 11 = .ok (.ifCond .ne 5, 3) := by decide +kernel
theorem dX7_cross_14 : decode cX7_cross 14 = .ok (.iconst (-1), 1) := by decide +kernel
theorem dX7_cross_15 : decode cX7_cross 15 = .ok (.ireturn, 1) := by decide +kernel
theorem dX7_cross_16 : decode cX7_cross 16 = .ok (.iload_n 2, 1) := by decide +kernel
theorem dX7_cross_17 : decode cX7_cross 17 = .ok (.invokestatic 231, 3) := by decide +kernel
theorem dX7_cross_20 : decode cX7_cross 20 = .ok (.ifCond .eq 22, 3) := by decide +kernel
theorem dX7_cross_23 : decode cX7_cross 23 = .ok (.iload 4, 2) := by decide +kernel
theorem dX7_cross_25 : decode cX7_cross 25 = .ok (.invokestatic 231, 3) := by decide +kernel
theorem dX7_cross_28 : decode cX7_cross 28 = .ok (.ifCond .eq 14, 3) := by decide +kernel
theorem dX7_cross_31 : decode cX7_cross 31 = .ok (.iload 5, 2) := by decide +kernel
theorem dX7_cross_33 : decode cX7_cross 33 = .ok (.i2l, 1) := by decide +kernel
theorem dX7_cross_34 : decode cX7_cross 34 = .ok (.lconst 0, 1) := by decide +kernel
theorem dX7_cross_35 : decode cX7_cross 35 = .ok (.lconst 1, 1) := by decide +kernel
theorem dX7_cross_36 : decode cX7_cross 36 = .ok (.invokestatic 71, 3) := by decide +kernel
theorem dX7_cross_39 : decode cX7_cross 39 = .ok (.ifCond .ne 6, 3) := by decide +kernel
theorem dX7_cross_42 : decode cX7_cross 42 = .ok (.bipush (-2), 2) := by decide +kernel
theorem dX7_cross_44 : decode cX7_cross 44 = .ok (.ireturn, 1) := by decide +kernel
theorem dX7_cross_45 : decode cX7_cross 45 = .ok (.iconst 0, 1) := by decide +kernel
theorem dX7_cross_46 : decode cX7_cross 46 = .ok (.istore 6, 2) := by decide +kernel
theorem dX7_cross_48 : decode cX7_cross 48 = .ok (.bipush (-6), 2) := by decide +kernel
theorem dX7_cross_50 : decode cX7_cross 50 = .ok (.istore 7, 2) := by decide +kernel
theorem dX7_cross_52 : decode cX7_cross 52 = .ok (.bipush 63, 2) := by decide +kernel
theorem dX7_cross_54 : decode cX7_cross 54 = .ok (.istore 8, 2) := by decide +kernel
theorem dX7_cross_56 : decode cX7_cross 56 = .ok (.iload 8, 2) := by decide +kernel
theorem dX7_cross_58 : decode cX7_cross 58 = .ok (.ifCond .lt 66, 3) := by decide +kernel
theorem dX7_cross_61 : decode cX7_cross 61 = .ok (.iload 8, 2) := by decide +kernel
theorem dX7_cross_63 : decode cX7_cross 63 = .ok (.iload_n 1, 1) := by decide +kernel
theorem dX7_cross_64 : decode cX7_cross 64 = .ok (.iload_n 2, 1) := by decide +kernel
theorem dX7_cross_65 : decode cX7_cross 65 = .ok (.invokestatic 234, 3) := by decide +kernel
theorem dX7_cross_68 : decode cX7_cross 68 = .ok (.ifCond .eq 18, 3) := by decide +kernel
theorem dX7_cross_71 : decode cX7_cross 71 = .ok (.iload 8, 2) := by decide +kernel
theorem dX7_cross_73 : decode cX7_cross 73 = .ok (.iload_n 3, 1) := by decide +kernel
theorem dX7_cross_74 : decode cX7_cross 74 = .ok (.iload 4, 2) := by decide +kernel
theorem dX7_cross_76 : decode cX7_cross 76 = .ok (.invokestatic 234, 3) := by decide +kernel
theorem dX7_cross_79 : decode cX7_cross 79 = .ok (.ifCond .eq 7, 3) := by decide +kernel
theorem dX7_cross_82 : decode cX7_cross 82 = .ok (.iconst 1, 1) := by decide +kernel
theorem dX7_cross_83 : decode cX7_cross 83 = .ok (.goto 4, 3) := by decide +kernel
theorem dX7_cross_86 : decode cX7_cross 86 = .ok (.iconst 0, 1) := by decide +kernel
theorem dX7_cross_87 : decode cX7_cross 87 = .ok (.istore 9, 2) := by decide +kernel
theorem dX7_cross_89 : decode cX7_cross 89 = .ok (.iload 6, 2) := by decide +kernel
theorem dX7_cross_91 : decode cX7_cross 91 = .ok (.iload 9, 2) := by decide +kernel
theorem dX7_cross_93 : decode cX7_cross 93 = .ok (.ifCond .eq 7, 3) := by decide +kernel
theorem dX7_cross_96 : decode cX7_cross 96 = .ok (.iconst 1, 1) := by decide +kernel
theorem dX7_cross_97 : decode cX7_cross 97 = .ok (.goto 4, 3) := by decide +kernel
theorem dX7_cross_100 : decode cX7_cross 100 = .ok (.iconst 0, 1) := by decide +kernel
theorem dX7_cross_101 : decode cX7_cross 101 = .ok (.iadd, 1) := by decide +kernel
theorem dX7_cross_102 : decode cX7_cross 102 = .ok (.istore 6, 2) := by decide +kernel
theorem dX7_cross_104 : decode cX7_cross 104 = .ok (.iload 9, 2) := by decide +kernel
theorem dX7_cross_106 : decode cX7_cross 106 = .ok (.ifCond .eq 8, 3) := by decide +kernel
theorem dX7_cross_109 : decode cX7_cross 109 = .ok (.iload 8, 2) := by decide +kernel
theorem dX7_cross_111 : decode cX7_cross 111 = .ok (.goto 5, 3) := by decide +kernel
theorem dX7_cross_114 : decode cX7_cross 114 = .ok (.iload 7, 2) := by decide +kernel
theorem dX7_cross_116 : decode cX7_cross 116 = .ok (.istore 7, 2) := by decide +kernel
theorem dX7_cross_118 : decode cX7_cross 118 = .ok (.iinc 8 (-1), 3) := by decide +kernel
theorem dX7_cross_121 : decode cX7_cross 121 = .ok (.goto (-65), 3) := by decide +kernel
theorem dX7_cross_124 : decode cX7_cross 124 = .ok (.iload 5, 2) := by decide +kernel
theorem dX7_cross_126 : decode cX7_cross 126 = .ok (.ifCond .ne 8, 3) := by decide +kernel
theorem dX7_cross_129 : decode cX7_cross 129 = .ok (.iload 6, 2) := by decide +kernel
theorem dX7_cross_131 : decode cX7_cross 131 = .ok (.goto 5, 3) := by decide +kernel
theorem dX7_cross_134 : decode cX7_cross 134 = .ok (.iload 7, 2) := by decide +kernel
theorem dX7_cross_136 : decode cX7_cross 136 = .ok (.ireturn, 1) := by decide +kernel
theorem dX7_readPieces_0 : decode cX7_readPieces 0 = .ok (.iload_n 1, 1) := by decide +kernel
theorem dX7_readPieces_1 : decode cX7_readPieces 1 = .ok (.istore_n 3, 1) := by decide +kernel
theorem dX7_readPieces_2 : decode cX7_readPieces 2 = .ok (.iload_n 1, 1) := by decide +kernel
theorem dX7_readPieces_3 : decode cX7_readPieces 3 = .ok (.ifCond .lt 7, 3) := by decide +kernel
theorem dX7_readPieces_6 : decode cX7_readPieces 6 = .ok (.iconst 1, 1) := by decide +kernel
theorem dX7_readPieces_7 : decode cX7_readPieces 7 = .ok (.goto 4, 3) := by decide +kernel
theorem dX7_readPieces_10 : decode cX7_readPieces 10 = .ok (.iconst 0, 1) := by decide +kernel
theorem dX7_readPieces_11 : decode cX7_readPieces 11 = .ok (.istore 4, 2) := by decide +kernel
theorem dX7_readPieces_13 : decode cX7_readPieces 13 = .ok (.iload_n 2, 1) := by decide +kernel
theorem dX7_readPieces_14 : decode cX7_readPieces 14 = .ok (.iconst 1, 1) := by decide +kernel
theorem dX7_readPieces_15 : decode cX7_readPieces 15 = .ok (.isub, 1) := by decide +kernel
theorem dX7_readPieces_16 : decode cX7_readPieces 16 = .ok (.istore 5, 2) := by decide +kernel
theorem dX7_readPieces_18 : decode cX7_readPieces 18 = .ok (.iload 5, 2) := by decide +kernel
theorem dX7_readPieces_20 : decode cX7_readPieces 20 = .ok (.ifCond .lt 47, 3) := by decide +kernel
theorem dX7_readPieces_23 : decode cX7_readPieces 23 = .ok (.aload_n 0, 1) := by decide +kernel
theorem dX7_readPieces_24 : decode cX7_readPieces 24 = .ok (.getfield 40, 3) := by decide +kernel
theorem dX7_readPieces_27 : decode cX7_readPieces 27 = .ok (.iload 5, 2) := by decide +kernel
theorem dX7_readPieces_29 : decode cX7_readPieces 29 = .ok (.iload_n 3, 1) := by decide +kernel
theorem dX7_readPieces_30 : decode cX7_readPieces 30 = .ok (.bipush 10, 2) := by decide +kernel
theorem dX7_readPieces_32 : decode cX7_readPieces 32 = .ok (.irem, 1) := by decide +kernel
theorem dX7_readPieces_33 : decode cX7_readPieces 33 = .ok (.iastore, 1) := by decide +kernel
theorem dX7_readPieces_34 : decode cX7_readPieces 34 = .ok (.iload 4, 2) := by decide +kernel
theorem dX7_readPieces_36 : decode cX7_readPieces 36 = .ok (.ifCond .eq 17, 3) := by decide +kernel
theorem dX7_readPieces_39 : decode cX7_readPieces 39 = .ok (.aload_n 0, 1) := by decide +kernel
theorem dX7_readPieces_40 : decode cX7_readPieces 40 = .ok (.getfield 40, 3) := by decide +kernel
theorem dX7_readPieces_43 : decode cX7_readPieces 43 = .ok (.iload 5, 2) := by decide +kernel
theorem dX7_readPieces_45 : decode cX7_readPieces 45 = .ok (.iaload, 1) := by decide +kernel
theorem dX7_readPieces_46 : decode cX7_readPieces 46 = .ok (.ifCond .le 7, 3) := by decide +kernel
theorem dX7_readPieces_49 : decode cX7_readPieces 49 = .ok (.iconst 1, 1) := by decide +kernel
theorem dX7_readPieces_50 : decode cX7_readPieces 50 = .ok (.goto 4, 3) := by decide +kernel
theorem dX7_readPieces_53 : decode cX7_readPieces 53 = .ok (.iconst 0, 1) := by decide +kernel
theorem dX7_readPieces_54 : decode cX7_readPieces 54 = .ok (.istore 4, 2) := by decide +kernel
theorem dX7_readPieces_56 : decode cX7_readPieces 56 = .ok (.iload_n 3, 1) := by decide +kernel
theorem dX7_readPieces_57 : decode cX7_readPieces 57 = .ok (.bipush 10, 2) := by decide +kernel
theorem dX7_readPieces_59 : decode cX7_readPieces 59 = .ok (.idiv, 1) := by decide +kernel
theorem dX7_readPieces_60 : decode cX7_readPieces 60 = .ok (.istore_n 3, 1) := by decide +kernel
theorem dX7_readPieces_61 : decode cX7_readPieces 61 = .ok (.iinc 5 (-1), 3) := by decide +kernel
theorem dX7_readPieces_64 : decode cX7_readPieces 64 = .ok (.goto (-46), 3) := by decide +kernel
theorem dX7_readPieces_67 : decode cX7_readPieces 67 = .ok (.iload 4, 2) := by decide +kernel
theorem dX7_readPieces_69 : decode cX7_readPieces 69 = .ok (.ifCond .eq 11, 3) := by decide +kernel
theorem dX7_readPieces_72 : decode cX7_readPieces 72 = .ok (.iload_n 3, 1) := by decide +kernel
theorem dX7_readPieces_73 : decode cX7_readPieces 73 = .ok (.ifCond .ne 7, 3) := by decide +kernel
theorem dX7_readPieces_76 : decode cX7_readPieces 76 = .ok (.iconst 1, 1) := by decide +kernel
theorem dX7_readPieces_77 : decode cX7_readPieces 77 = .ok (.goto 4, 3) := by decide +kernel
theorem dX7_readPieces_80 : decode cX7_readPieces 80 = .ok (.iconst 0, 1) := by decide +kernel
theorem dX7_readPieces_81 : decode cX7_readPieces 81 = .ok (.ireturn, 1) := by decide +kernel
theorem dX7_cutMore_0 : decode cX7_cutMore 0 = .ok (.iload_n 0, 1) := by decide +kernel
theorem dX7_cutMore_1 : decode cX7_cutMore 1 = .ok (.bipush 100, 2) := by decide +kernel
theorem dX7_cutMore_3 : decode cX7_cutMore 3 = .ok (.irem, 1) := by decide +kernel
theorem dX7_cutMore_4 : decode cX7_cutMore 4 = .ok (.iload_n 1, 1) := by decide +kernel
theorem dX7_cutMore_5 : decode cX7_cutMore 5 = .ok (.iadd, 1) := by decide +kernel
theorem dX7_cutMore_6 : decode cX7_cutMore 6 = .ok (.istore_n 3, 1) := by decide +kernel
theorem dX7_cutMore_7 : decode cX7_cutMore 7 = .ok (.iload_n 3, 1) := by decide +kernel
theorem dX7_cutMore_8 : decode cX7_cutMore 8 = .ok (.iload_n 2, 1) := by decide +kernel
theorem dX7_cutMore_9 : decode cX7_cutMore 9 = .ok (.if_icmp .gt 9, 3) := by decide +kernel
theorem dX7_cutMore_12 : decode cX7_cutMore 12 = .ok (.iload_n 0, 1) := by decide +kernel
theorem dX7_cutMore_13 : decode cX7_cutMore 13 = .ok (.iload_n 1, 1) := by decide +kernel
theorem dX7_cutMore_14 : decode cX7_cutMore 14 = .ok (.iadd, 1) := by decide +kernel
theorem dX7_cutMore_15 : decode cX7_cutMore 15 = .ok (.goto 14, 3) := by decide +kernel
theorem dX7_cutMore_18 : decode cX7_cutMore 18 = .ok (.iload_n 0, 1) := by decide +kernel
theorem dX7_cutMore_19 : decode cX7_cutMore 19 = .ok (.iload_n 0, 1) := by decide +kernel
theorem dX7_cutMore_20 : decode cX7_cutMore 20 = .ok (.bipush 100, 2) := by decide +kernel
theorem dX7_cutMore_22 : decode cX7_cutMore 22 = .ok (.irem, 1) := by decide +kernel
theorem dX7_cutMore_23 : decode cX7_cutMore 23 = .ok (.isub, 1) := by decide +kernel
theorem dX7_cutMore_24 : decode cX7_cutMore 24 = .ok (.bipush 100, 2) := by decide +kernel
theorem dX7_cutMore_26 : decode cX7_cutMore 26 = .ok (.iadd, 1) := by decide +kernel
theorem dX7_cutMore_27 : decode cX7_cutMore 27 = .ok (.iload_n 1, 1) := by decide +kernel
theorem dX7_cutMore_28 : decode cX7_cutMore 28 = .ok (.iadd, 1) := by decide +kernel
theorem dX7_cutMore_29 : decode cX7_cutMore 29 = .ok (.ireturn, 1) := by decide +kernel
set_option maxRecDepth 20000 in
theorem ggX7_ropesOf_X7_cutMore : GoodIn wsX7_ropesOf wsX7_cutMore := goodIn_r _ [6] (by decide +kernel) (by decide +kernel)
set_option maxRecDepth 20000 in
theorem gX7_ropesOf_X7_cutMore : GoodIn wsX7_ropesOf (va_wsS RX7 238 yX7_cutMore wsX7_cutMore) := goodIn_app (goodIn_of _ (by decide +kernel)) ggX7_ropesOf_X7_cutMore
theorem dX7_ropesOf_0 : decode cX7_ropesOf 0 = .ok (.aload_n 0, 1) := by decide +kernel
theorem dX7_ropesOf_1 : decode cX7_ropesOf 1 = .ok (.getfield 43, 3) := by decide +kernel
theorem dX7_ropesOf_4 : decode cX7_ropesOf 4 = .ok (.iconst 0, 1) := by decide +kernel
theorem dX7_ropesOf_5 : decode cX7_ropesOf 5 = .ok (.iconst 0, 1) := by decide +kernel
theorem dX7_ropesOf_6 : decode cX7_ropesOf 6 = .ok (.iastore, 1) := by decide +kernel
theorem dX7_ropesOf_7 : decode cX7_ropesOf 7 = .ok (.iconst 1, 1) := by decide +kernel
theorem dX7_ropesOf_8 : decode cX7_ropesOf 8 = .ok (.istore_n 3, 1) := by decide +kernel
theorem dX7_ropesOf_9 : decode cX7_ropesOf 9 = .ok (.iload_n 3, 1) := by decide +kernel
theorem dX7_ropesOf_10 : decode cX7_ropesOf 10 = .ok (.iconst 1, 1) := by decide +kernel
theorem dX7_ropesOf_11 : decode cX7_ropesOf 11 = .ok (.iload_n 1, 1) := by decide +kernel
theorem dX7_ropesOf_12 : decode cX7_ropesOf 12 = .ok (.ishl, 1) := by decide +kernel
theorem dX7_ropesOf_13 : decode cX7_ropesOf 13 = .ok (.if_icmp .ge 115, 3) := by decide +kernel
theorem dX7_ropesOf_16 : decode cX7_ropesOf 16 = .ok (.bipush (-6), 2) := by decide +kernel
theorem dX7_ropesOf_18 : decode cX7_ropesOf 18 = .ok (.istore 4, 2) := by decide +kernel
theorem dX7_ropesOf_20 : decode cX7_ropesOf 20 = .ok (.iconst 0, 1) := by decide +kernel
theorem dX7_ropesOf_21 : decode cX7_ropesOf 21 = .ok (.istore 5, 2) := by decide +kernel
theorem dX7_ropesOf_23 : decode cX7_ropesOf 23 = .ok (.iload 5, 2) := by decide +kernel
theorem dX7_ropesOf_25 : decode cX7_ropesOf 25 = .ok (.iload_n 1, 1) := by decide +kernel
theorem dX7_ropesOf_26 : decode cX7_ropesOf 26 = .ok (.if_icmp .ge 88, 3) := by decide +kernel
theorem dX7_ropesOf_29 : decode cX7_ropesOf 29 = .ok (.iload_n 3, 1) := by decide +kernel
theorem dX7_ropesOf_30 : decode cX7_ropesOf 30 = .ok (.iload 5, 2) := by decide +kernel
theorem dX7_ropesOf_32 : decode cX7_ropesOf 32 = .ok (.ishr, 1) := by decide +kernel
theorem dX7_ropesOf_33 : decode cX7_ropesOf 33 = .ok (.iconst 1, 1) := by decide +kernel
theorem dX7_ropesOf_34 : decode cX7_ropesOf 34 = .ok (.iand, 1) := by decide +kernel
theorem dX7_ropesOf_35 : decode cX7_ropesOf 35 = .ok (.iconst 1, 1) := by decide +kernel
theorem dX7_ropesOf_36 : decode cX7_ropesOf 36 = .ok (.if_icmp .ne 7, 3) := by decide +kernel
theorem dX7_ropesOf_39 : decode cX7_ropesOf 39 = .ok (.iconst 1, 1) := by decide +kernel
theorem dX7_ropesOf_40 : decode cX7_ropesOf 40 = .ok (.goto 4, 3) := by decide +kernel
theorem dX7_ropesOf_43 : decode cX7_ropesOf 43 = .ok (.iconst 0, 1) := by decide +kernel
theorem dX7_ropesOf_44 : decode cX7_ropesOf 44 = .ok (.istore 6, 2) := by decide +kernel
theorem dX7_ropesOf_46 : decode cX7_ropesOf 46 = .ok (.iload 6, 2) := by decide +kernel
theorem dX7_ropesOf_48 : decode cX7_ropesOf 48 = .ok (.ifCond .eq 30, 3) := by decide +kernel
theorem dX7_ropesOf_51 : decode cX7_ropesOf 51 = .ok (.aload_n 0, 1) := by decide +kernel
theorem dX7_ropesOf_52 : decode cX7_ropesOf 52 = .ok (.getfield 43, 3) := by decide +kernel
theorem dX7_ropesOf_55 : decode cX7_ropesOf 55 = .ok (.iload_n 3, 1) := by decide +kernel
theorem dX7_ropesOf_56 : decode cX7_ropesOf 56 = .ok (.iconst 1, 1) := by decide +kernel
theorem dX7_ropesOf_57 : decode cX7_ropesOf 57 = .ok (.iload 5, 2) := by decide +kernel
theorem dX7_ropesOf_59 : decode cX7_ropesOf 59 = .ok (.ishl, 1) := by decide +kernel
theorem dX7_ropesOf_60 : decode cX7_ropesOf 60 = .ok (.iconst (-1), 1) := by decide +kernel
theorem dX7_ropesOf_61 : decode cX7_ropesOf 61 = .ok (.ixor, 1) := by decide +kernel
theorem dX7_ropesOf_62 : decode cX7_ropesOf 62 = .ok (.iand, 1) := by decide +kernel
theorem dX7_ropesOf_63 : decode cX7_ropesOf 63 = .ok (.iaload, 1) := by decide +kernel
theorem dX7_ropesOf_64 : decode cX7_ropesOf 64 = .ok (.aload_n 0, 1) := by decide +kernel
theorem dX7_ropesOf_65 : decode cX7_ropesOf 65 = .ok (.getfield 40, 3) := by decide +kernel
theorem dX7_ropesOf_68 : decode cX7_ropesOf 68 = .ok (.iload 5, 2) := by decide +kernel
theorem dX7_ropesOf_70 : decode cX7_ropesOf 70 = .ok (.iaload, 1) := by decide +kernel
theorem dX7_ropesOf_71 : decode cX7_ropesOf 71 = .ok (.iload_n 2, 1) := by decide +kernel
theorem dX7_ropesOf_72 : decode cX7_ropesOf 72 = .ok (.invokestatic 238, 3) := by decide +kernel
theorem dX7_ropesOf_75 : decode cX7_ropesOf 75 = .ok (.goto 5, 3) := by decide +kernel
theorem dX7_ropesOf_78 : decode cX7_ropesOf 78 = .ok (.bipush (-6), 2) := by decide +kernel
theorem dX7_ropesOf_80 : decode cX7_ropesOf 80 = .ok (.istore 7, 2) := by decide +kernel
theorem dX7_ropesOf_82 : decode cX7_ropesOf 82 = .ok (.iload 6, 2) := by decide +kernel
theorem dX7_ropesOf_84 : decode cX7_ropesOf 84 = .ok (.ifCond .eq 20, 3) := by decide +kernel
theorem dX7_ropesOf_87 : decode cX7_ropesOf 87 = .ok (.iload 4, 2) := by decide +kernel
theorem dX7_ropesOf_89 : decode cX7_ropesOf 89 = .ok (.ifCond .lt 10, 3) := by decide +kernel
theorem dX7_ropesOf_92 : decode cX7_ropesOf 92 = .ok (.iload 7, 2) := by decide +kernel
theorem dX7_ropesOf_94 : decode cX7_ropesOf 94 = .ok (.iload 4, 2) := by decide +kernel
theorem dX7_ropesOf_96 : decode cX7_ropesOf 96 = .ok (.if_icmp .ge 8, 3) := by decide +kernel
theorem dX7_ropesOf_99 : decode cX7_ropesOf 99 = .ok (.iload 7, 2) := by decide +kernel
theorem dX7_ropesOf_101 : decode cX7_ropesOf 101 = .ok (.goto 5, 3) := by decide +kernel
theorem dX7_ropesOf_104 : decode cX7_ropesOf 104 = .ok (.iload 4, 2) := by decide +kernel
theorem dX7_ropesOf_106 : decode cX7_ropesOf 106 = .ok (.istore 4, 2) := by decide +kernel
theorem dX7_ropesOf_108 : decode cX7_ropesOf 108 = .ok (.iinc 5 1, 3) := by decide +kernel
theorem dX7_ropesOf_111 : decode cX7_ropesOf 111 = .ok (.goto (-88), 3) := by decide +kernel
theorem dX7_ropesOf_114 : decode cX7_ropesOf 114 = .ok (.aload_n 0, 1) := by decide +kernel
theorem dX7_ropesOf_115 : decode cX7_ropesOf 115 = .ok (.getfield 43, 3) := by decide +kernel
theorem dX7_ropesOf_118 : decode cX7_ropesOf 118 = .ok (.iload_n 3, 1) := by decide +kernel
theorem dX7_ropesOf_119 : decode cX7_ropesOf 119 = .ok (.iload 4, 2) := by decide +kernel
theorem dX7_ropesOf_121 : decode cX7_ropesOf 121 = .ok (.iastore, 1) := by decide +kernel
theorem dX7_ropesOf_122 : decode cX7_ropesOf 122 = .ok (.iinc 3 1, 3) := by decide +kernel
theorem dX7_ropesOf_125 : decode cX7_ropesOf 125 = .ok (.goto (-116), 3) := by decide +kernel
theorem dX7_ropesOf_128 : decode cX7_ropesOf 128 = .ok (.iconst 1, 1) := by decide +kernel
theorem dX7_ropesOf_129 : decode cX7_ropesOf 129 = .ok (.aload_n 0, 1) := by decide +kernel
theorem dX7_ropesOf_130 : decode cX7_ropesOf 130 = .ok (.getfield 43, 3) := by decide +kernel
theorem dX7_ropesOf_133 : decode cX7_ropesOf 133 = .ok (.iconst 1, 1) := by decide +kernel
theorem dX7_ropesOf_134 : decode cX7_ropesOf 134 = .ok (.iload_n 1, 1) := by decide +kernel
theorem dX7_ropesOf_135 : decode cX7_ropesOf 135 = .ok (.ishl, 1) := by decide +kernel
theorem dX7_ropesOf_136 : decode cX7_ropesOf 136 = .ok (.iconst 1, 1) := by decide +kernel
theorem dX7_ropesOf_137 : decode cX7_ropesOf 137 = .ok (.isub, 1) := by decide +kernel
theorem dX7_ropesOf_138 : decode cX7_ropesOf 138 = .ok (.iaload, 1) := by decide +kernel
theorem dX7_ropesOf_139 : decode cX7_ropesOf 139 = .ok (.bipush 100, 2) := by decide +kernel
theorem dX7_ropesOf_141 : decode cX7_ropesOf 141 = .ok (.idiv, 1) := by decide +kernel
theorem dX7_ropesOf_142 : decode cX7_ropesOf 142 = .ok (.iadd, 1) := by decide +kernel
theorem dX7_ropesOf_143 : decode cX7_ropesOf 143 = .ok (.ireturn, 1) := by decide +kernel
theorem dX7_mostPieces_0 : decode cX7_mostPieces 0 = .ok (.iconst 0, 1) := by decide +kernel
theorem dX7_mostPieces_1 : decode cX7_mostPieces 1 = .ok (.istore_n 3, 1) := by decide +kernel
theorem dX7_mostPieces_2 : decode cX7_mostPieces 2 = .ok (.iconst 0, 1) := by decide +kernel
theorem dX7_mostPieces_3 : decode cX7_mostPieces 3 = .ok (.istore 4, 2) := by decide +kernel
theorem dX7_mostPieces_5 : decode cX7_mostPieces 5 = .ok (.iconst 1, 1) := by decide +kernel
theorem dX7_mostPieces_6 : decode cX7_mostPieces 6 = .ok (.istore 5, 2) := by decide +kernel
theorem dX7_mostPieces_8 : decode cX7_mostPieces 8 = .ok (.iload 5, 2) := by decide +kernel
theorem dX7_mostPieces_10 : decode cX7_mostPieces 10 = .ok (.bipush 10, 2) := by decide +kernel
theorem dX7_mostPieces_12 : decode cX7_mostPieces 12 = .ok (.if_icmp .ge 55, 3) := by decide +kernel
theorem dX7_mostPieces_15 : decode cX7_mostPieces 15 = .ok (.iconst 0, 1) := by decide +kernel
theorem dX7_mostPieces_16 : decode cX7_mostPieces 16 = .ok (.istore 6, 2) := by decide +kernel
theorem dX7_mostPieces_18 : decode cX7_mostPieces 18 = .ok (.iload 6, 2) := by decide +kernel
theorem dX7_mostPieces_20 : decode cX7_mostPieces 20 = .ok (.iload_n 1, 1) := by decide +kernel
theorem dX7_mostPieces_21 : decode cX7_mostPieces 21 = .ok (.if_icmp .ge 40, 3) := by decide +kernel
theorem dX7_mostPieces_24 : decode cX7_mostPieces 24 = .ok (.aload_n 0, 1) := by decide +kernel
theorem dX7_mostPieces_25 : decode cX7_mostPieces 25 = .ok (.getfield 40, 3) := by decide +kernel
theorem dX7_mostPieces_28 : decode cX7_mostPieces 28 = .ok (.iload 6, 2) := by decide +kernel
theorem dX7_mostPieces_30 : decode cX7_mostPieces 30 = .ok (.iaload, 1) := by decide +kernel
theorem dX7_mostPieces_31 : decode cX7_mostPieces 31 = .ok (.iload 5, 2) := by decide +kernel
theorem dX7_mostPieces_33 : decode cX7_mostPieces 33 = .ok (.if_icmp .ne 22, 3) := by decide +kernel
theorem dX7_mostPieces_36 : decode cX7_mostPieces 36 = .ok (.iload 4, 2) := by decide +kernel
theorem dX7_mostPieces_38 : decode cX7_mostPieces 38 = .ok (.iload 5, 2) := by decide +kernel
theorem dX7_mostPieces_40 : decode cX7_mostPieces 40 = .ok (.iadd, 1) := by decide +kernel
theorem dX7_mostPieces_41 : decode cX7_mostPieces 41 = .ok (.iload_n 2, 1) := by decide +kernel
theorem dX7_mostPieces_42 : decode cX7_mostPieces 42 = .ok (.if_icmp .gt 13, 3) := by decide +kernel
theorem dX7_mostPieces_45 : decode cX7_mostPieces 45 = .ok (.iload 4, 2) := by decide +kernel
theorem dX7_mostPieces_47 : decode cX7_mostPieces 47 = .ok (.iload 5, 2) := by decide +kernel
theorem dX7_mostPieces_49 : decode cX7_mostPieces 49 = .ok (.iadd, 1) := by decide +kernel
theorem dX7_mostPieces_50 : decode cX7_mostPieces 50 = .ok (.istore 4, 2) := by decide +kernel
theorem dX7_mostPieces_52 : decode cX7_mostPieces 52 = .ok (.iinc 3 1, 3) := by decide +kernel
theorem dX7_mostPieces_55 : decode cX7_mostPieces 55 = .ok (.iinc 6 1, 3) := by decide +kernel
theorem dX7_mostPieces_58 : decode cX7_mostPieces 58 = .ok (.goto (-40), 3) := by decide +kernel
theorem dX7_mostPieces_61 : decode cX7_mostPieces 61 = .ok (.iinc 5 1, 3) := by decide +kernel
theorem dX7_mostPieces_64 : decode cX7_mostPieces 64 = .ok (.goto (-56), 3) := by decide +kernel
theorem dX7_mostPieces_67 : decode cX7_mostPieces 67 = .ok (.iload_n 3, 1) := by decide +kernel
theorem dX7_mostPieces_68 : decode cX7_mostPieces 68 = .ok (.ireturn, 1) := by decide +kernel
set_option maxRecDepth 20000 in
theorem ggX7_ropes_X7_in : GoodIn wsX7_ropes wsX7_in := goodIn_r _ [6] (by decide +kernel) (by decide +kernel)
set_option maxRecDepth 20000 in
theorem gX7_ropes_X7_in : GoodIn wsX7_ropes (va_wsS RX7 71 yX7_in wsX7_in) := goodIn_app (goodIn_of _ (by decide +kernel)) ggX7_ropes_X7_in
set_option maxRecDepth 20000 in
theorem ggX7_ropes_X7_readPieces : GoodIn wsX7_ropes wsX7_readPieces := goodIn_r _ [10, 11, 24, 25, 26, 27, 28, 29, 30, 31, 32, 33, 34, 35, 36, 37, 38, 39, 40, 41, 42, 43, 44, 45, 46, 47, 48, 49, 50, 51, 52, 53, 54, 55, 56, 57] (by decide +kernel) (by decide +kernel)
set_option maxRecDepth 20000 in
theorem gX7_ropes_X7_readPieces : GoodIn wsX7_ropes (wsV RX7 241 RX7 yX7_readPieces wsX7_readPieces) := goodIn_app (goodIn_of _ (by decide +kernel)) ggX7_ropes_X7_readPieces
set_option maxRecDepth 20000 in
theorem ggX7_ropes_X7_ropesOf : GoodIn wsX7_ropes wsX7_ropesOf := goodIn_r _ [15, 16, 11, 17, 18, 5, 19, 24, 25, 26, 27, 28, 29, 30, 31, 32, 33, 34, 35, 36, 37, 38, 39, 40, 41, 42, 43, 44, 45, 46, 47, 48, 49, 50, 51, 52, 53, 54, 55, 56, 57] (by decide +kernel) (by decide +kernel)
set_option maxRecDepth 20000 in
theorem gX7_ropes_X7_ropesOf : GoodIn wsX7_ropes (wsV RX7 247 RX7 yX7_ropesOf wsX7_ropesOf) := goodIn_app (goodIn_of _ (by decide +kernel)) ggX7_ropes_X7_ropesOf
set_option maxRecDepth 20000 in
theorem ggX7_ropes_X7_mostPieces : GoodIn wsX7_ropes wsX7_mostPieces := goodIn_r _ [23, 11, 24, 25, 26, 27, 28, 29, 30, 31, 32, 33, 34, 35, 36, 37, 38, 39, 40, 41, 42, 43, 44, 45, 46, 47, 48, 49, 50, 51, 52, 53, 54, 55, 56, 57] (by decide +kernel) (by decide +kernel)
set_option maxRecDepth 20000 in
theorem gX7_ropes_X7_mostPieces : GoodIn wsX7_ropes (wsV RX7 250 RX7 yX7_mostPieces wsX7_mostPieces) := goodIn_app (goodIn_of _ (by decide +kernel)) ggX7_ropes_X7_mostPieces
theorem dX7_ropes_0 : decode cX7_ropes 0 = .ok (.iload_n 2, 1) := by decide +kernel
theorem dX7_ropes_1 : decode cX7_ropes 1 = .ok (.i2l, 1) := by decide +kernel
theorem dX7_ropes_2 : decode cX7_ropes 2 = .ok (.lconst 1, 1) := by decide +kernel
theorem dX7_ropes_3 : decode cX7_ropes 3 = .ok (.ldc2_w 100, 3) := by decide +kernel
theorem dX7_ropes_6 : decode cX7_ropes 6 = .ok (.invokestatic 71, 3) := by decide +kernel
theorem dX7_ropes_9 : decode cX7_ropes 9 = .ok (.ifCond .eq 37, 3) := by decide +kernel
theorem dX7_ropes_12 : decode cX7_ropes 12 = .ok (.aload_n 0, 1) := by decide +kernel
theorem dX7_ropes_13 : decode cX7_ropes 13 = .ok (.iload_n 1, 1) := by decide +kernel
theorem dX7_ropes_14 : decode cX7_ropes 14 = .ok (.iload_n 2, 1) := by decide +kernel
theorem dX7_ropes_15 : decode cX7_ropes 15 = .ok (.invokevirtual 241, 3) := by decide +kernel
theorem dX7_ropes_18 : decode cX7_ropes 18 = .ok (.ifCond .eq 28, 3) := by decide +kernel
theorem dX7_ropes_21 : decode cX7_ropes 21 = .ok (.iload_n 3, 1) := by decide +kernel
theorem dX7_ropes_22 : decode cX7_ropes 22 = .ok (.i2l, 1) := by decide +kernel
theorem dX7_ropes_23 : decode cX7_ropes 23 = .ok (.ldc2_w 100, 3) := by decide +kernel
theorem dX7_ropes_26 : decode cX7_ropes 26 = .ok (.ldc2_w 245, 3) := by decide +kernel
theorem dX7_ropes_29 : decode cX7_ropes 29 = .ok (.invokestatic 71, 3) := by decide +kernel
theorem dX7_ropes_32 : decode cX7_ropes 32 = .ok (.ifCond .eq 14, 3) := by decide +kernel
theorem dX7_ropes_35 : decode cX7_ropes 35 = .ok (.iload 4, 2) := by decide +kernel
theorem dX7_ropes_37 : decode cX7_ropes 37 = .ok (.i2l, 1) := by decide +kernel
theorem dX7_ropes_38 : decode cX7_ropes 38 = .ok (.lconst 0, 1) := by decide +kernel
theorem dX7_ropes_39 : decode cX7_ropes 39 = .ok (.lconst 1, 1) := by decide +kernel
theorem dX7_ropes_40 : decode cX7_ropes 40 = .ok (.invokestatic 71, 3) := by decide +kernel
theorem dX7_ropes_43 : decode cX7_ropes 43 = .ok (.ifCond .ne 6, 3) := by decide +kernel
theorem dX7_ropes_46 : decode cX7_ropes 46 = .ok (.bipush (-2), 2) := by decide +kernel
theorem dX7_ropes_48 : decode cX7_ropes 48 = .ok (.ireturn, 1) := by decide +kernel
theorem dX7_ropes_49 : decode cX7_ropes 49 = .ok (.iload 4, 2) := by decide +kernel
theorem dX7_ropes_51 : decode cX7_ropes 51 = .ok (.ifCond .ne 12, 3) := by decide +kernel
theorem dX7_ropes_54 : decode cX7_ropes 54 = .ok (.aload_n 0, 1) := by decide +kernel
theorem dX7_ropes_55 : decode cX7_ropes 55 = .ok (.iload_n 2, 1) := by decide +kernel
theorem dX7_ropes_56 : decode cX7_ropes 56 = .ok (.iload_n 3, 1) := by decide +kernel
theorem dX7_ropes_57 : decode cX7_ropes 57 = .ok (.invokevirtual 247, 3) := by decide +kernel
theorem dX7_ropes_60 : decode cX7_ropes 60 = .ok (.goto 9, 3) := by decide +kernel
theorem dX7_ropes_63 : decode cX7_ropes 63 = .ok (.aload_n 0, 1) := by decide +kernel
theorem dX7_ropes_64 : decode cX7_ropes 64 = .ok (.iload_n 2, 1) := by decide +kernel
theorem dX7_ropes_65 : decode cX7_ropes 65 = .ok (.iload_n 3, 1) := by decide +kernel
theorem dX7_ropes_66 : decode cX7_ropes 66 = .ok (.invokevirtual 250, 3) := by decide +kernel
theorem dX7_ropes_69 : decode cX7_ropes 69 = .ok (.ireturn, 1) := by decide +kernel
set_option maxRecDepth 20000 in
theorem ggX7_look_X7_isCell : GoodIn wsX7_look wsX7_isCell := goodIn_r _ [9, 10, 11, 12, 8, 13] (by decide +kernel) (by decide +kernel)
set_option maxRecDepth 20000 in
theorem gX7_look_X7_isCell : GoodIn wsX7_look (va_wsS RX7 92 yX7_isCell wsX7_isCell) := goodIn_app (goodIn_of _ (by decide +kernel)) ggX7_look_X7_isCell
set_option maxRecDepth 20000 in
theorem ggX7_look_X7_in : GoodIn wsX7_look wsX7_in := goodIn_r _ [13] (by decide +kernel) (by decide +kernel)
set_option maxRecDepth 20000 in
theorem gX7_look_X7_in : GoodIn wsX7_look (va_wsS RX7 71 yX7_in wsX7_in) := goodIn_app (goodIn_of _ (by decide +kernel)) ggX7_look_X7_in
theorem dX7_look_0 : decode cX7_look 0 = .ok (.iload_n 1, 1) := by decide +kernel
theorem dX7_look_1 : decode cX7_look 1 = .ok (.invokestatic 92, 3) := by decide +kernel
theorem dX7_look_4 : decode cX7_look 4 = .ok (.ifCond .ne 5, 3) := by decide +kernel
theorem dX7_look_7 : decode cX7_look 7 = .ok (.iconst (-1), 1) := by decide +kernel
theorem dX7_look_8 : decode cX7_look 8 = .ok (.ireturn, 1) := by decide +kernel
theorem dX7_look_9 : decode cX7_look 9 = .ok (.iload_n 2, 1) := by decide +kernel
theorem dX7_look_10 : decode cX7_look 10 = .ok (.i2l, 1) := by decide +kernel
theorem dX7_look_11 : decode cX7_look 11 = .ok (.lconst 0, 1) := by decide +kernel
theorem dX7_look_12 : decode cX7_look 12 = .ok (.ldc2_w 75, 3) := by decide +kernel
theorem dX7_look_15 : decode cX7_look 15 = .ok (.invokestatic 71, 3) := by decide +kernel
theorem dX7_look_18 : decode cX7_look 18 = .ok (.ifCond .ne 6, 3) := by decide +kernel
theorem dX7_look_21 : decode cX7_look 21 = .ok (.bipush (-2), 2) := by decide +kernel
theorem dX7_look_23 : decode cX7_look 23 = .ok (.ireturn, 1) := by decide +kernel
theorem dX7_look_24 : decode cX7_look 24 = .ok (.aload_n 0, 1) := by decide +kernel
theorem dX7_look_25 : decode cX7_look 25 = .ok (.getfield 253, 3) := by decide +kernel
theorem dX7_look_28 : decode cX7_look 28 = .ok (.bipush 8, 2) := by decide +kernel
theorem dX7_look_30 : decode cX7_look 30 = .ok (.if_icmp .ne 6, 3) := by decide +kernel
theorem dX7_look_33 : decode cX7_look 33 = .ok (.bipush (-4), 2) := by decide +kernel
theorem dX7_look_35 : decode cX7_look 35 = .ok (.ireturn, 1) := by decide +kernel
theorem dX7_look_36 : decode cX7_look 36 = .ok (.aload_n 0, 1) := by decide +kernel
theorem dX7_look_37 : decode cX7_look 37 = .ok (.getfield 16, 3) := by decide +kernel
theorem dX7_look_40 : decode cX7_look 40 = .ok (.aload_n 0, 1) := by decide +kernel
theorem dX7_look_41 : decode cX7_look 41 = .ok (.getfield 253, 3) := by decide +kernel
theorem dX7_look_44 : decode cX7_look 44 = .ok (.iload_n 1, 1) := by decide +kernel
theorem dX7_look_45 : decode cX7_look 45 = .ok (.iastore, 1) := by decide +kernel
theorem dX7_look_46 : decode cX7_look 46 = .ok (.aload_n 0, 1) := by decide +kernel
theorem dX7_look_47 : decode cX7_look 47 = .ok (.getfield 19, 3) := by decide +kernel
theorem dX7_look_50 : decode cX7_look 50 = .ok (.aload_n 0, 1) := by decide +kernel
theorem dX7_look_51 : decode cX7_look 51 = .ok (.getfield 253, 3) := by decide +kernel
theorem dX7_look_54 : decode cX7_look 54 = .ok (.iload_n 2, 1) := by decide +kernel
theorem dX7_look_55 : decode cX7_look 55 = .ok (.iastore, 1) := by decide +kernel
theorem dX7_look_56 : decode cX7_look 56 = .ok (.aload_n 0, 1) := by decide +kernel
theorem dX7_look_57 : decode cX7_look 57 = .ok (.getfield 22, 3) := by decide +kernel
theorem dX7_look_60 : decode cX7_look 60 = .ok (.aload_n 0, 1) := by decide +kernel
theorem dX7_look_61 : decode cX7_look 61 = .ok (.getfield 253, 3) := by decide +kernel
theorem dX7_look_64 : decode cX7_look 64 = .ok (.iload_n 3, 1) := by decide +kernel
theorem dX7_look_65 : decode cX7_look 65 = .ok (.ifCond .eq 7, 3) := by decide +kernel
theorem dX7_look_68 : decode cX7_look 68 = .ok (.iconst 1, 1) := by decide +kernel
theorem dX7_look_69 : decode cX7_look 69 = .ok (.goto 4, 3) := by decide +kernel
theorem dX7_look_72 : decode cX7_look 72 = .ok (.iconst 0, 1) := by decide +kernel
theorem dX7_look_73 : decode cX7_look 73 = .ok (.iastore, 1) := by decide +kernel
theorem dX7_look_74 : decode cX7_look 74 = .ok (.aload_n 0, 1) := by decide +kernel
theorem dX7_look_75 : decode cX7_look 75 = .ok (.dup, 1) := by decide +kernel
theorem dX7_look_76 : decode cX7_look 76 = .ok (.getfield 253, 3) := by decide +kernel
theorem dX7_look_79 : decode cX7_look 79 = .ok (.iconst 1, 1) := by decide +kernel
theorem dX7_look_80 : decode cX7_look 80 = .ok (.iadd, 1) := by decide +kernel
theorem dX7_look_81 : decode cX7_look 81 = .ok (.putfield 253, 3) := by decide +kernel
theorem dX7_look_84 : decode cX7_look 84 = .ok (.aload_n 0, 1) := by decide +kernel
theorem dX7_look_85 : decode cX7_look 85 = .ok (.getfield 253, 3) := by decide +kernel
theorem dX7_look_88 : decode cX7_look 88 = .ok (.ireturn, 1) := by decide +kernel
theorem dX7_forget_0 : decode cX7_forget 0 = .ok (.aload_n 0, 1) := by decide +kernel
theorem dX7_forget_1 : decode cX7_forget 1 = .ok (.getfield 253, 3) := by decide +kernel
theorem dX7_forget_4 : decode cX7_forget 4 = .ok (.istore_n 1, 1) := by decide +kernel
theorem dX7_forget_5 : decode cX7_forget 5 = .ok (.aload_n 0, 1) := by decide +kernel
theorem dX7_forget_6 : decode cX7_forget 6 = .ok (.iconst 0, 1) := by decide +kernel
theorem dX7_forget_7 : decode cX7_forget 7 = .ok (.putfield 253, 3) := by decide +kernel
theorem dX7_forget_10 : decode cX7_forget 10 = .ok (.iload_n 1, 1) := by decide +kernel
theorem dX7_forget_11 : decode cX7_forget 11 = .ok (.ireturn, 1) := by decide +kernel
set_option maxRecDepth 20000 in
theorem ggX7_isFit_X7_far : GoodIn wsX7_isFit wsX7_far := goodIn_r _ [8, 9, 10, 7, 11] (by decide +kernel) (by decide +kernel)
set_option maxRecDepth 20000 in
theorem gX7_isFit_X7_far : GoodIn wsX7_isFit (va_wsS RX7 149 yX7_far wsX7_far) := goodIn_app (goodIn_of _ (by decide +kernel)) ggX7_isFit_X7_far
theorem dX7_isFit_0 : decode cX7_isFit 0 = .ok (.iconst 1, 1) := by decide +kernel
theorem dX7_isFit_1 : decode cX7_isFit 1 = .ok (.istore_n 2, 1) := by decide +kernel
theorem dX7_isFit_2 : decode cX7_isFit 2 = .ok (.iconst 0, 1) := by decide +kernel
theorem dX7_isFit_3 : decode cX7_isFit 3 = .ok (.istore_n 3, 1) := by decide +kernel
theorem dX7_isFit_4 : decode cX7_isFit 4 = .ok (.iload_n 3, 1) := by decide +kernel
theorem dX7_isFit_5 : decode cX7_isFit 5 = .ok (.aload_n 0, 1) := by decide +kernel
theorem dX7_isFit_6 : decode cX7_isFit 6 = .ok (.getfield 253, 3) := by decide +kernel
theorem dX7_isFit_9 : decode cX7_isFit 9 = .ok (.if_icmp .ge 65, 3) := by decide +kernel
theorem dX7_isFit_12 : decode cX7_isFit 12 = .ok (.iload_n 1, 1) := by decide +kernel
theorem dX7_isFit_13 : decode cX7_isFit 13 = .ok (.aload_n 0, 1) := by decide +kernel
theorem dX7_isFit_14 : decode cX7_isFit 14 = .ok (.getfield 16, 3) := by decide +kernel
theorem dX7_isFit_17 : decode cX7_isFit 17 = .ok (.iload_n 3, 1) := by decide +kernel
theorem dX7_isFit_18 : decode cX7_isFit 18 = .ok (.iaload, 1) := by decide +kernel
theorem dX7_isFit_19 : decode cX7_isFit 19 = .ok (.invokestatic 149, 3) := by decide +kernel
theorem dX7_isFit_22 : decode cX7_isFit 22 = .ok (.aload_n 0, 1) := by decide +kernel
theorem dX7_isFit_23 : decode cX7_isFit 23 = .ok (.getfield 19, 3) := by decide +kernel
theorem dX7_isFit_26 : decode cX7_isFit 26 = .ok (.iload_n 3, 1) := by decide +kernel
theorem dX7_isFit_27 : decode cX7_isFit 27 = .ok (.iaload, 1) := by decide +kernel
theorem dX7_isFit_28 : decode cX7_isFit 28 = .ok (.if_icmp .gt 7, 3) := by decide +kernel
theorem dX7_isFit_31 : decode cX7_isFit 31 = .ok (.iconst 1, 1) := by decide +kernel
theorem dX7_isFit_32 : decode cX7_isFit 32 = .ok (.goto 4, 3) := by decide +kernel
theorem dX7_isFit_35 : decode cX7_isFit 35 = .ok (.iconst 0, 1) := by decide +kernel
theorem dX7_isFit_36 : decode cX7_isFit 36 = .ok (.istore 4, 2) := by decide +kernel
theorem dX7_isFit_38 : decode cX7_isFit 38 = .ok (.iload_n 2, 1) := by decide +kernel
theorem dX7_isFit_39 : decode cX7_isFit 39 = .ok (.ifCond .eq 27, 3) := by decide +kernel
theorem dX7_isFit_42 : decode cX7_isFit 42 = .ok (.iload 4, 2) := by decide +kernel
theorem dX7_isFit_44 : decode cX7_isFit 44 = .ok (.aload_n 0, 1) := by decide +kernel
theorem dX7_isFit_45 : decode cX7_isFit 45 = .ok (.getfield 22, 3) := by decide +kernel
theorem dX7_isFit_48 : decode cX7_isFit 48 = .ok (.iload_n 3, 1) := by decide +kernel
theorem dX7_isFit_49 : decode cX7_isFit 49 = .ok (.iaload, 1) := by decide +kernel
theorem dX7_isFit_50 : decode cX7_isFit 50 = .ok (.iconst 1, 1) := by decide +kernel
theorem dX7_isFit_51 : decode cX7_isFit 51 = .ok (.if_icmp .ne 7, 3) := by decide +kernel
theorem dX7_isFit_54 : decode cX7_isFit 54 = .ok (.iconst 1, 1) := by decide +kernel
theorem dX7_isFit_55 : decode cX7_isFit 55 = .ok (.goto 4, 3) := by decide +kernel
theorem dX7_isFit_58 : decode cX7_isFit 58 = .ok (.iconst 0, 1) := by decide +kernel
theorem dX7_isFit_59 : decode cX7_isFit 59 = .ok (.if_icmp .ne 7, 3) := by decide +kernel
theorem dX7_isFit_62 : decode cX7_isFit 62 = .ok (.iconst 1, 1) := by decide +kernel
theorem dX7_isFit_63 : decode cX7_isFit 63 = .ok (.goto 4, 3) := by decide +kernel
theorem dX7_isFit_66 : decode cX7_isFit 66 = .ok (.iconst 0, 1) := by decide +kernel
theorem dX7_isFit_67 : decode cX7_isFit 67 = .ok (.istore_n 2, 1) := by decide +kernel
theorem dX7_isFit_68 : decode cX7_isFit 68 = .ok (.iinc 3 1, 3) := by decide +kernel
theorem dX7_isFit_71 : decode cX7_isFit 71 = .ok (.goto (-67), 3) := by decide +kernel
theorem dX7_isFit_74 : decode cX7_isFit 74 = .ok (.iload_n 2, 1) := by decide +kernel
theorem dX7_isFit_75 : decode cX7_isFit 75 = .ok (.ireturn, 1) := by decide +kernel
set_option maxRecDepth 20000 in
theorem ggX7_findFits_X7_isFit : GoodIn wsX7_findFits wsX7_isFit := goodIn_r _ [7, 8, 9, 10, 11, 12, 13, 6, 14, 15, 16, 17, 18, 19, 20, 21, 22, 23, 24, 25, 26, 27, 28, 29, 30, 31, 32, 33, 34, 35, 36, 37, 38, 39, 40, 41, 42, 43, 44, 45, 46, 47, 48, 49, 50, 51] (by decide +kernel) (by decide +kernel)
set_option maxRecDepth 20000 in
theorem gX7_findFits_X7_isFit : GoodIn wsX7_findFits (wsV RX7 259 RX7 yX7_isFit wsX7_isFit) := goodIn_app (goodIn_of _ (by decide +kernel)) ggX7_findFits_X7_isFit
theorem dX7_findFits_0 : decode cX7_findFits 0 = .ok (.aload_n 0, 1) := by decide +kernel
theorem dX7_findFits_1 : decode cX7_findFits 1 = .ok (.iconst 0, 1) := by decide +kernel
theorem dX7_findFits_2 : decode cX7_findFits 2 = .ok (.putfield 256, 3) := by decide +kernel
theorem dX7_findFits_5 : decode cX7_findFits 5 = .ok (.iconst 0, 1) := by decide +kernel
theorem dX7_findFits_6 : decode cX7_findFits 6 = .ok (.istore_n 1, 1) := by decide +kernel
theorem dX7_findFits_7 : decode cX7_findFits 7 = .ok (.iload_n 1, 1) := by decide +kernel
theorem dX7_findFits_8 : decode cX7_findFits 8 = .ok (.bipush 64, 2) := by decide +kernel
theorem dX7_findFits_10 : decode cX7_findFits 10 = .ok (.if_icmp .ge 37, 3) := by decide +kernel
theorem dX7_findFits_13 : decode cX7_findFits 13 = .ok (.aload_n 0, 1) := by decide +kernel
theorem dX7_findFits_14 : decode cX7_findFits 14 = .ok (.iload_n 1, 1) := by decide +kernel
theorem dX7_findFits_15 : decode cX7_findFits 15 = .ok (.invokevirtual 259, 3) := by decide +kernel
theorem dX7_findFits_18 : decode cX7_findFits 18 = .ok (.ifCond .eq 23, 3) := by decide +kernel
theorem dX7_findFits_21 : decode cX7_findFits 21 = .ok (.aload_n 0, 1) := by decide +kernel
theorem dX7_findFits_22 : decode cX7_findFits 22 = .ok (.getfield 46, 3) := by decide +kernel
theorem dX7_findFits_25 : decode cX7_findFits 25 = .ok (.aload_n 0, 1) := by decide +kernel
theorem dX7_findFits_26 : decode cX7_findFits 26 = .ok (.getfield 256, 3) := by decide +kernel
theorem dX7_findFits_29 : decode cX7_findFits 29 = .ok (.iload_n 1, 1) := by decide +kernel
theorem dX7_findFits_30 : decode cX7_findFits 30 = .ok (.iastore, 1) := by decide +kernel
theorem dX7_findFits_31 : decode cX7_findFits 31 = .ok (.aload_n 0, 1) := by decide +kernel
theorem dX7_findFits_32 : decode cX7_findFits 32 = .ok (.dup, 1) := by decide +kernel
theorem dX7_findFits_33 : decode cX7_findFits 33 = .ok (.getfield 256, 3) := by decide +kernel
theorem dX7_findFits_36 : decode cX7_findFits 36 = .ok (.iconst 1, 1) := by decide +kernel
theorem dX7_findFits_37 : decode cX7_findFits 37 = .ok (.iadd, 1) := by decide +kernel
theorem dX7_findFits_38 : decode cX7_findFits 38 = .ok (.putfield 256, 3) := by decide +kernel
theorem dX7_findFits_41 : decode cX7_findFits 41 = .ok (.iinc 1 1, 3) := by decide +kernel
theorem dX7_findFits_44 : decode cX7_findFits 44 = .ok (.goto (-37), 3) := by decide +kernel
theorem dX7_findFits_47 : decode cX7_findFits 47 = .ok (.return_, 1) := by decide +kernel
set_option maxRecDepth 20000 in
theorem ggX7_light_X7_findFits : GoodIn wsX7_light wsX7_findFits := goodIn_r _ [7, 1, 2, 8, 9, 10, 6, 11, 12, 13, 14, 15, 16, 17, 18, 19, 20, 21, 25, 26, 27, 28, 29, 30, 31, 32, 33, 34, 35, 36, 37, 38, 39, 40, 41, 42, 43, 44, 45, 46, 47, 48, 49, 50, 51, 52, 53, 54, 55, 56, 57, 58] (by decide +kernel) (by decide +kernel)
set_option maxRecDepth 20000 in
theorem gX7_light_X7_findFits : GoodIn wsX7_light (wsV RX7 262 RX7 yX7_findFits wsX7_findFits) := goodIn_app (goodIn_of _ (by decide +kernel)) ggX7_light_X7_findFits
set_option maxRecDepth 20000 in
theorem ggX7_light_X7_in : GoodIn wsX7_light wsX7_in := goodIn_r _ [24] (by decide +kernel) (by decide +kernel)
set_option maxRecDepth 20000 in
theorem gX7_light_X7_in : GoodIn wsX7_light (va_wsS RX7 71 yX7_in wsX7_in) := goodIn_app (goodIn_of _ (by decide +kernel)) ggX7_light_X7_in
theorem dX7_light_0 : decode cX7_light 0 = .ok (.aload_n 0, 1) := by decide +kernel
theorem dX7_light_1 : decode cX7_light 1 = .ok (.invokevirtual 262, 3) := by decide +kernel
theorem dX7_light_4 : decode cX7_light 4 = .ok (.iload_n 1, 1) := by decide +kernel
theorem dX7_light_5 : decode cX7_light 5 = .ok (.iconst (-1), 1) := by decide +kernel
theorem dX7_light_6 : decode cX7_light 6 = .ok (.if_icmp .ne 10, 3) := by decide +kernel
theorem dX7_light_9 : decode cX7_light 9 = .ok (.aload_n 0, 1) := by decide +kernel
theorem dX7_light_10 : decode cX7_light 10 = .ok (.getfield 256, 3) := by decide +kernel
theorem dX7_light_13 : decode cX7_light 13 = .ok (.goto 30, 3) := by decide +kernel
theorem dX7_light_16 : decode cX7_light 16 = .ok (.iload_n 1, 1) := by decide +kernel
theorem dX7_light_17 : decode cX7_light 17 = .ok (.i2l, 1) := by decide +kernel
theorem dX7_light_18 : decode cX7_light 18 = .ok (.lconst 0, 1) := by decide +kernel
theorem dX7_light_19 : decode cX7_light 19 = .ok (.aload_n 0, 1) := by decide +kernel
theorem dX7_light_20 : decode cX7_light 20 = .ok (.getfield 256, 3) := by decide +kernel
theorem dX7_light_23 : decode cX7_light 23 = .ok (.iconst 1, 1) := by decide +kernel
theorem dX7_light_24 : decode cX7_light 24 = .ok (.isub, 1) := by decide +kernel
theorem dX7_light_25 : decode cX7_light 25 = .ok (.i2l, 1) := by decide +kernel
theorem dX7_light_26 : decode cX7_light 26 = .ok (.invokestatic 71, 3) := by decide +kernel
theorem dX7_light_29 : decode cX7_light 29 = .ok (.ifCond .eq 12, 3) := by decide +kernel
theorem dX7_light_32 : decode cX7_light 32 = .ok (.aload_n 0, 1) := by decide +kernel
theorem dX7_light_33 : decode cX7_light 33 = .ok (.getfield 46, 3) := by decide +kernel
theorem dX7_light_36 : decode cX7_light 36 = .ok (.iload_n 1, 1) := by decide +kernel
theorem dX7_light_37 : decode cX7_light 37 = .ok (.iaload, 1) := by decide +kernel
theorem dX7_light_38 : decode cX7_light 38 = .ok (.goto 5, 3) := by decide +kernel
theorem dX7_light_41 : decode cX7_light 41 = .ok (.bipush (-6), 2) := by decide +kernel
theorem dX7_light_43 : decode cX7_light 43 = .ok (.ireturn, 1) := by decide +kernel
set_option maxRecDepth 20000 in
theorem ggX7_mostLeft_X7_far : GoodIn wsX7_mostLeft wsX7_far := goodIn_r _ [6, 7, 8, 5, 9] (by decide +kernel) (by decide +kernel)
set_option maxRecDepth 20000 in
theorem gX7_mostLeft_X7_far : GoodIn wsX7_mostLeft (va_wsS RX7 149 yX7_far wsX7_far) := goodIn_app (goodIn_of _ (by decide +kernel)) ggX7_mostLeft_X7_far
theorem dX7_mostLeft_0 : decode cX7_mostLeft 0 = .ok (.iconst 0, 1) := by decide +kernel
theorem dX7_mostLeft_1 : decode cX7_mostLeft 1 = .ok (.istore_n 3, 1) := by decide +kernel
theorem dX7_mostLeft_2 : decode cX7_mostLeft 2 = .ok (.iconst 0, 1) := by decide +kernel
theorem dX7_mostLeft_3 : decode cX7_mostLeft 3 = .ok (.istore 4, 2) := by decide +kernel
theorem dX7_mostLeft_5 : decode cX7_mostLeft 5 = .ok (.iload 4, 2) := by decide +kernel
theorem dX7_mostLeft_7 : decode cX7_mostLeft 7 = .ok (.aload_n 0, 1) := by decide +kernel
theorem dX7_mostLeft_8 : decode cX7_mostLeft 8 = .ok (.getfield 256, 3) := by decide +kernel
theorem dX7_mostLeft_11 : decode cX7_mostLeft 11 = .ok (.if_icmp .ge 32, 3) := by decide +kernel
theorem dX7_mostLeft_14 : decode cX7_mostLeft 14 = .ok (.iload_n 3, 1) := by decide +kernel
theorem dX7_mostLeft_15 : decode cX7_mostLeft 15 = .ok (.aload_n 0, 1) := by decide +kernel
theorem dX7_mostLeft_16 : decode cX7_mostLeft 16 = .ok (.getfield 46, 3) := by decide +kernel
theorem dX7_mostLeft_19 : decode cX7_mostLeft 19 = .ok (.iload 4, 2) := by decide +kernel
theorem dX7_mostLeft_21 : decode cX7_mostLeft 21 = .ok (.iaload, 1) := by decide +kernel
theorem dX7_mostLeft_22 : decode cX7_mostLeft 22 = .ok (.iload_n 1, 1) := by decide +kernel
theorem dX7_mostLeft_23 : decode cX7_mostLeft 23 = .ok (.invokestatic 149, 3) := by decide +kernel
theorem dX7_mostLeft_26 : decode cX7_mostLeft 26 = .ok (.iload_n 2, 1) := by decide +kernel
theorem dX7_mostLeft_27 : decode cX7_mostLeft 27 = .ok (.if_icmp .gt 7, 3) := by decide +kernel
theorem dX7_mostLeft_30 : decode cX7_mostLeft 30 = .ok (.iconst 1, 1) := by decide +kernel
theorem dX7_mostLeft_31 : decode cX7_mostLeft 31 = .ok (.goto 4, 3) := by decide +kernel
theorem dX7_mostLeft_34 : decode cX7_mostLeft 34 = .ok (.iconst 0, 1) := by decide +kernel
theorem dX7_mostLeft_35 : decode cX7_mostLeft 35 = .ok (.iadd, 1) := by decide +kernel
theorem dX7_mostLeft_36 : decode cX7_mostLeft 36 = .ok (.istore_n 3, 1) := by decide +kernel
theorem dX7_mostLeft_37 : decode cX7_mostLeft 37 = .ok (.iinc 4 1, 3) := by decide +kernel
theorem dX7_mostLeft_40 : decode cX7_mostLeft 40 = .ok (.goto (-35), 3) := by decide +kernel
theorem dX7_mostLeft_43 : decode cX7_mostLeft 43 = .ok (.iload_n 3, 1) := by decide +kernel
theorem dX7_mostLeft_44 : decode cX7_mostLeft 44 = .ok (.aload_n 0, 1) := by decide +kernel
theorem dX7_mostLeft_45 : decode cX7_mostLeft 45 = .ok (.getfield 256, 3) := by decide +kernel
theorem dX7_mostLeft_48 : decode cX7_mostLeft 48 = .ok (.iload_n 3, 1) := by decide +kernel
theorem dX7_mostLeft_49 : decode cX7_mostLeft 49 = .ok (.isub, 1) := by decide +kernel
theorem dX7_mostLeft_50 : decode cX7_mostLeft 50 = .ok (.if_icmp .le 7, 3) := by decide +kernel
theorem dX7_mostLeft_53 : decode cX7_mostLeft 53 = .ok (.iload_n 3, 1) := by decide +kernel
theorem dX7_mostLeft_54 : decode cX7_mostLeft 54 = .ok (.goto 9, 3) := by decide +kernel
theorem dX7_mostLeft_57 : decode cX7_mostLeft 57 = .ok (.aload_n 0, 1) := by decide +kernel
theorem dX7_mostLeft_58 : decode cX7_mostLeft 58 = .ok (.getfield 256, 3) := by decide +kernel
theorem dX7_mostLeft_61 : decode cX7_mostLeft 61 = .ok (.iload_n 3, 1) := by decide +kernel
theorem dX7_mostLeft_62 : decode cX7_mostLeft 62 = .ok (.isub, 1) := by decide +kernel
theorem dX7_mostLeft_63 : decode cX7_mostLeft 63 = .ok (.ireturn, 1) := by decide +kernel
set_option maxRecDepth 20000 in
theorem ggX7_ask_X7_in : GoodIn wsX7_ask wsX7_in := goodIn_r _ [5] (by decide +kernel) (by decide +kernel)
set_option maxRecDepth 20000 in
theorem gX7_ask_X7_in : GoodIn wsX7_ask (va_wsS RX7 71 yX7_in wsX7_in) := goodIn_app (goodIn_of _ (by decide +kernel)) ggX7_ask_X7_in
set_option maxRecDepth 20000 in
theorem ggX7_ask_X7_findFits : GoodIn wsX7_ask wsX7_findFits := goodIn_r _ [9, 1, 10, 11, 12, 13, 4, 14, 15, 16, 17, 18, 19, 20, 21, 22, 23, 24, 32, 33, 34, 35, 36, 37, 38, 39, 40, 41, 42, 43, 44, 45, 46, 47, 48, 49, 50, 51, 52, 53, 54, 55, 56, 57, 58, 59, 60, 61, 62, 63, 64, 65] (by decide +kernel) (by decide +kernel)
set_option maxRecDepth 20000 in
theorem gX7_ask_X7_findFits : GoodIn wsX7_ask (wsV RX7 262 RX7 yX7_findFits wsX7_findFits) := goodIn_app (goodIn_of _ (by decide +kernel)) ggX7_ask_X7_findFits
set_option maxRecDepth 20000 in
theorem ggX7_ask_X7_mostLeft : GoodIn wsX7_ask wsX7_mostLeft := goodIn_r _ [28, 1, 10, 19, 20, 4, 21, 22, 23, 24, 32, 33, 34, 35, 36, 37, 38, 39, 40, 41, 42, 43, 44, 45, 46, 47, 48, 49, 50, 51, 52, 53, 54, 55, 56, 57, 58, 59, 60, 61, 62, 63, 64, 65] (by decide +kernel) (by decide +kernel)
set_option maxRecDepth 20000 in
theorem gX7_ask_X7_mostLeft : GoodIn wsX7_ask (wsV RX7 265 RX7 yX7_mostLeft wsX7_mostLeft) := goodIn_app (goodIn_of _ (by decide +kernel)) ggX7_ask_X7_mostLeft
set_option maxRecDepth 20000 in
theorem ggX7_ask_X7_less : GoodIn wsX7_ask wsX7_less := goodIn_r _ [31] (by decide +kernel) (by decide +kernel)
set_option maxRecDepth 20000 in
theorem gX7_ask_X7_less : GoodIn wsX7_ask (va_wsS RX7 268 yX7_less wsX7_less) := goodIn_app (goodIn_of _ (by decide +kernel)) ggX7_ask_X7_less
theorem dX7_ask_0 : decode cX7_ask 0 = .ok (.iload_n 1, 1) := by decide +kernel
theorem dX7_ask_1 : decode cX7_ask 1 = .ok (.i2l, 1) := by decide +kernel
theorem dX7_ask_2 : decode cX7_ask 2 = .ok (.lconst 0, 1) := by decide +kernel
theorem dX7_ask_3 : decode cX7_ask 3 = .ok (.lconst 1, 1) := by decide +kernel
theorem dX7_ask_4 : decode cX7_ask 4 = .ok (.invokestatic 71, 3) := by decide +kernel
theorem dX7_ask_7 : decode cX7_ask 7 = .ok (.ifCond .ne 6, 3) := by decide +kernel
theorem dX7_ask_10 : decode cX7_ask 10 = .ok (.bipush (-2), 2) := by decide +kernel
theorem dX7_ask_12 : decode cX7_ask 12 = .ok (.ireturn, 1) := by decide +kernel
theorem dX7_ask_13 : decode cX7_ask 13 = .ok (.aload_n 0, 1) := by decide +kernel
theorem dX7_ask_14 : decode cX7_ask 14 = .ok (.invokevirtual 262, 3) := by decide +kernel
theorem dX7_ask_17 : decode cX7_ask 17 = .ok (.bipush (-6), 2) := by decide +kernel
theorem dX7_ask_19 : decode cX7_ask 19 = .ok (.istore_n 2, 1) := by decide +kernel
theorem dX7_ask_20 : decode cX7_ask 20 = .ok (.aload_n 0, 1) := by decide +kernel
theorem dX7_ask_21 : decode cX7_ask 21 = .ok (.getfield 256, 3) := by decide +kernel
theorem dX7_ask_24 : decode cX7_ask 24 = .ok (.iconst 1, 1) := by decide +kernel
theorem dX7_ask_25 : decode cX7_ask 25 = .ok (.iadd, 1) := by decide +kernel
theorem dX7_ask_26 : decode cX7_ask 26 = .ok (.istore_n 3, 1) := by decide +kernel
theorem dX7_ask_27 : decode cX7_ask 27 = .ok (.iconst 0, 1) := by decide +kernel
theorem dX7_ask_28 : decode cX7_ask 28 = .ok (.istore 4, 2) := by decide +kernel
theorem dX7_ask_30 : decode cX7_ask 30 = .ok (.iload 4, 2) := by decide +kernel
theorem dX7_ask_32 : decode cX7_ask 32 = .ok (.sipush 640, 3) := by decide +kernel
theorem dX7_ask_35 : decode cX7_ask 35 = .ok (.if_icmp .ge 66, 3) := by decide +kernel
theorem dX7_ask_38 : decode cX7_ask 38 = .ok (.aload_n 0, 1) := by decide +kernel
theorem dX7_ask_39 : decode cX7_ask 39 = .ok (.getfield 256, 3) := by decide +kernel
theorem dX7_ask_42 : decode cX7_ask 42 = .ok (.ifCond .le 59, 3) := by decide +kernel
theorem dX7_ask_45 : decode cX7_ask 45 = .ok (.iload 4, 2) := by decide +kernel
theorem dX7_ask_47 : decode cX7_ask 47 = .ok (.bipush 10, 2) := by decide +kernel
theorem dX7_ask_49 : decode cX7_ask 49 = .ok (.irem, 1) := by decide +kernel
theorem dX7_ask_50 : decode cX7_ask 50 = .ok (.bipush 8, 2) := by decide +kernel
theorem dX7_ask_52 : decode cX7_ask 52 = .ok (.if_icmp .ge 20, 3) := by decide +kernel
theorem dX7_ask_55 : decode cX7_ask 55 = .ok (.aload_n 0, 1) := by decide +kernel
theorem dX7_ask_56 : decode cX7_ask 56 = .ok (.iload 4, 2) := by decide +kernel
theorem dX7_ask_58 : decode cX7_ask 58 = .ok (.bipush 10, 2) := by decide +kernel
theorem dX7_ask_60 : decode cX7_ask 60 = .ok (.idiv, 1) := by decide +kernel
theorem dX7_ask_61 : decode cX7_ask 61 = .ok (.iload 4, 2) := by decide +kernel
theorem dX7_ask_63 : decode cX7_ask 63 = .ok (.bipush 10, 2) := by decide +kernel
theorem dX7_ask_65 : decode cX7_ask 65 = .ok (.irem, 1) := by decide +kernel
theorem dX7_ask_66 : decode cX7_ask 66 = .ok (.invokevirtual 265, 3) := by decide +kernel
theorem dX7_ask_69 : decode cX7_ask 69 = .ok (.goto 4, 3) := by decide +kernel
theorem dX7_ask_72 : decode cX7_ask 72 = .ok (.iload_n 3, 1) := by decide +kernel
theorem dX7_ask_73 : decode cX7_ask 73 = .ok (.istore 5, 2) := by decide +kernel
theorem dX7_ask_75 : decode cX7_ask 75 = .ok (.iload 5, 2) := by decide +kernel
theorem dX7_ask_77 : decode cX7_ask 77 = .ok (.iload_n 3, 1) := by decide +kernel
theorem dX7_ask_78 : decode cX7_ask 78 = .ok (.if_icmp .ge 8, 3) := by decide +kernel
theorem dX7_ask_81 : decode cX7_ask 81 = .ok (.iload 4, 2) := by decide +kernel
theorem dX7_ask_83 : decode cX7_ask 83 = .ok (.goto 4, 3) := by decide +kernel
theorem dX7_ask_86 : decode cX7_ask 86 = .ok (.iload_n 2, 1) := by decide +kernel
theorem dX7_ask_87 : decode cX7_ask 87 = .ok (.istore_n 2, 1) := by decide +kernel
theorem dX7_ask_88 : decode cX7_ask 88 = .ok (.iload_n 3, 1) := by decide +kernel
theorem dX7_ask_89 : decode cX7_ask 89 = .ok (.iload 5, 2) := by decide +kernel
theorem dX7_ask_91 : decode cX7_ask 91 = .ok (.invokestatic 268, 3) := by decide +kernel
theorem dX7_ask_94 : decode cX7_ask 94 = .ok (.istore_n 3, 1) := by decide +kernel
theorem dX7_ask_95 : decode cX7_ask 95 = .ok (.iinc 4 1, 3) := by decide +kernel
theorem dX7_ask_98 : decode cX7_ask 98 = .ok (.goto (-68), 3) := by decide +kernel
theorem dX7_ask_101 : decode cX7_ask 101 = .ok (.iload_n 2, 1) := by decide +kernel
theorem dX7_ask_102 : decode cX7_ask 102 = .ok (.ifCond .lt 7, 3) := by decide +kernel
theorem dX7_ask_105 : decode cX7_ask 105 = .ok (.iload_n 1, 1) := by decide +kernel
theorem dX7_ask_106 : decode cX7_ask 106 = .ok (.ifCond .ne 7, 3) := by decide +kernel
theorem dX7_ask_109 : decode cX7_ask 109 = .ok (.iload_n 2, 1) := by decide +kernel
theorem dX7_ask_110 : decode cX7_ask 110 = .ok (.goto 4, 3) := by decide +kernel
theorem dX7_ask_113 : decode cX7_ask 113 = .ok (.iload_n 3, 1) := by decide +kernel
theorem dX7_ask_114 : decode cX7_ask 114 = .ok (.ireturn, 1) := by decide +kernel
set_option maxRecDepth 20000 in
theorem ggX7_tackTo_X7_beside : GoodIn wsX7_tackTo wsX7_beside := goodIn_r _ [4, 5, 6, 7, 3, 8] (by decide +kernel) (by decide +kernel)
set_option maxRecDepth 20000 in
theorem gX7_tackTo_X7_beside : GoodIn wsX7_tackTo (va_wsS RX7 88 yX7_beside wsX7_beside) := goodIn_app (goodIn_of _ (by decide +kernel)) ggX7_tackTo_X7_beside
theorem dX7_tackTo_0 : decode cX7_tackTo 0 = .ok (.iload_n 1, 1) := by decide +kernel
theorem dX7_tackTo_1 : decode cX7_tackTo 1 = .ok (.tableswitch 51 0 2 #[27, 35, 43], 27) := by decide +kernel
theorem dX7_tackTo_28 : decode cX7_tackTo 28 = .ok (.iload_n 0, 1) := by decide +kernel
theorem dX7_tackTo_29 : decode cX7_tackTo 29 = .ok (.bipush (-2), 2) := by decide +kernel
theorem dX7_tackTo_31 : decode cX7_tackTo 31 = .ok (.iconst 1, 1) := by decide +kernel
theorem dX7_tackTo_32 : decode cX7_tackTo 32 = .ok (.invokestatic 88, 3) := by decide +kernel
theorem dX7_tackTo_35 : decode cX7_tackTo 35 = .ok (.ireturn, 1) := by decide +kernel
theorem dX7_tackTo_36 : decode cX7_tackTo 36 = .ok (.iload_n 0, 1) := by decide +kernel
theorem dX7_tackTo_37 : decode cX7_tackTo 37 = .ok (.bipush (-2), 2) := by decide +kernel
theorem dX7_tackTo_39 : decode cX7_tackTo 39 = .ok (.iconst (-1), 1) := by decide +kernel
theorem dX7_tackTo_40 : decode cX7_tackTo 40 = .ok (.invokestatic 88, 3) := by decide +kernel
theorem dX7_tackTo_43 : decode cX7_tackTo 43 = .ok (.ireturn, 1) := by decide +kernel
theorem dX7_tackTo_44 : decode cX7_tackTo 44 = .ok (.iload_n 0, 1) := by decide +kernel
theorem dX7_tackTo_45 : decode cX7_tackTo 45 = .ok (.iconst 1, 1) := by decide +kernel
theorem dX7_tackTo_46 : decode cX7_tackTo 46 = .ok (.bipush (-2), 2) := by decide +kernel
theorem dX7_tackTo_48 : decode cX7_tackTo 48 = .ok (.invokestatic 88, 3) := by decide +kernel
theorem dX7_tackTo_51 : decode cX7_tackTo 51 = .ok (.ireturn, 1) := by decide +kernel
theorem dX7_tackTo_52 : decode cX7_tackTo 52 = .ok (.iload_n 0, 1) := by decide +kernel
theorem dX7_tackTo_53 : decode cX7_tackTo 53 = .ok (.iconst (-1), 1) := by decide +kernel
theorem dX7_tackTo_54 : decode cX7_tackTo 54 = .ok (.bipush (-2), 2) := by decide +kernel
theorem dX7_tackTo_56 : decode cX7_tackTo 56 = .ok (.invokestatic 88, 3) := by decide +kernel
theorem dX7_tackTo_59 : decode cX7_tackTo 59 = .ok (.ireturn, 1) := by decide +kernel
set_option maxRecDepth 20000 in
theorem ggX7_leastTack_X7_tackTo : GoodIn wsX7_leastTack wsX7_tackTo := goodIn_r _ [5, 6, 7, 4, 8, 9, 10, 11, 12] (by decide +kernel) (by decide +kernel)
set_option maxRecDepth 20000 in
theorem gX7_leastTack_X7_tackTo : GoodIn wsX7_leastTack (va_wsS RX7 271 yX7_tackTo wsX7_tackTo) := goodIn_app (goodIn_of _ (by decide +kernel)) ggX7_leastTack_X7_tackTo
theorem dX7_leastTack_0 : decode cX7_leastTack 0 = .ok (.bipush (-6), 2) := by decide +kernel
theorem dX7_leastTack_2 : decode cX7_leastTack 2 = .ok (.istore_n 2, 1) := by decide +kernel
theorem dX7_leastTack_3 : decode cX7_leastTack 3 = .ok (.iconst 0, 1) := by decide +kernel
theorem dX7_leastTack_4 : decode cX7_leastTack 4 = .ok (.istore_n 3, 1) := by decide +kernel
theorem dX7_leastTack_5 : decode cX7_leastTack 5 = .ok (.iload_n 3, 1) := by decide +kernel
theorem dX7_leastTack_6 : decode cX7_leastTack 6 = .ok (.iconst 4, 1) := by decide +kernel
theorem dX7_leastTack_7 : decode cX7_leastTack 7 = .ok (.if_icmp .ge 60, 3) := by decide +kernel
theorem dX7_leastTack_10 : decode cX7_leastTack 10 = .ok (.iload_n 1, 1) := by decide +kernel
theorem dX7_leastTack_11 : decode cX7_leastTack 11 = .ok (.iload_n 3, 1) := by decide +kernel
theorem dX7_leastTack_12 : decode cX7_leastTack 12 = .ok (.invokestatic 271, 3) := by decide +kernel
theorem dX7_leastTack_15 : decode cX7_leastTack 15 = .ok (.istore 4, 2) := by decide +kernel
theorem dX7_leastTack_17 : decode cX7_leastTack 17 = .ok (.iload 4, 2) := by decide +kernel
theorem dX7_leastTack_19 : decode cX7_leastTack 19 = .ok (.ifCond .lt 17, 3) := by decide +kernel
theorem dX7_leastTack_22 : decode cX7_leastTack 22 = .ok (.aload_n 0, 1) := by decide +kernel
theorem dX7_leastTack_23 : decode cX7_leastTack 23 = .ok (.getfield 49, 3) := by decide +kernel
theorem dX7_leastTack_26 : decode cX7_leastTack 26 = .ok (.iload 4, 2) := by decide +kernel
theorem dX7_leastTack_28 : decode cX7_leastTack 28 = .ok (.baload, 1) := by decide +kernel
theorem dX7_leastTack_29 : decode cX7_leastTack 29 = .ok (.ifCond .ne 7, 3) := by decide +kernel
theorem dX7_leastTack_32 : decode cX7_leastTack 32 = .ok (.iconst 1, 1) := by decide +kernel
theorem dX7_leastTack_33 : decode cX7_leastTack 33 = .ok (.goto 4, 3) := by decide +kernel
theorem dX7_leastTack_36 : decode cX7_leastTack 36 = .ok (.iconst 0, 1) := by decide +kernel
theorem dX7_leastTack_37 : decode cX7_leastTack 37 = .ok (.istore 5, 2) := by decide +kernel
theorem dX7_leastTack_39 : decode cX7_leastTack 39 = .ok (.iload 5, 2) := by decide +kernel
theorem dX7_leastTack_41 : decode cX7_leastTack 41 = .ok (.ifCond .eq 18, 3) := by decide +kernel
theorem dX7_leastTack_44 : decode cX7_leastTack 44 = .ok (.iload_n 2, 1) := by decide +kernel
theorem dX7_leastTack_45 : decode cX7_leastTack 45 = .ok (.ifCond .lt 9, 3) := by decide +kernel
theorem dX7_leastTack_48 : decode cX7_leastTack 48 = .ok (.iload 4, 2) := by decide +kernel
theorem dX7_leastTack_50 : decode cX7_leastTack 50 = .ok (.iload_n 2, 1) := by decide +kernel
theorem dX7_leastTack_51 : decode cX7_leastTack 51 = .ok (.if_icmp .ge 8, 3) := by decide +kernel
theorem dX7_leastTack_54 : decode cX7_leastTack 54 = .ok (.iload 4, 2) := by decide +kernel
theorem dX7_leastTack_56 : decode cX7_leastTack 56 = .ok (.goto 4, 3) := by decide +kernel
theorem dX7_leastTack_59 : decode cX7_leastTack 59 = .ok (.iload_n 2, 1) := by decide +kernel
theorem dX7_leastTack_60 : decode cX7_leastTack 60 = .ok (.istore_n 2, 1) := by decide +kernel
theorem dX7_leastTack_61 : decode cX7_leastTack 61 = .ok (.iinc 3 1, 3) := by decide +kernel
theorem dX7_leastTack_64 : decode cX7_leastTack 64 = .ok (.goto (-59), 3) := by decide +kernel
theorem dX7_leastTack_67 : decode cX7_leastTack 67 = .ok (.iload_n 2, 1) := by decide +kernel
theorem dX7_leastTack_68 : decode cX7_leastTack 68 = .ok (.ireturn, 1) := by decide +kernel
set_option maxRecDepth 20000 in
theorem ggX7_tack_X7_isCell : GoodIn wsX7_tack wsX7_isCell := goodIn_r _ [5, 6, 7, 8, 4, 9] (by decide +kernel) (by decide +kernel)
set_option maxRecDepth 20000 in
theorem gX7_tack_X7_isCell : GoodIn wsX7_tack (va_wsS RX7 92 yX7_isCell wsX7_isCell) := goodIn_app (goodIn_of _ (by decide +kernel)) ggX7_tack_X7_isCell
set_option maxRecDepth 20000 in
theorem ggX7_tack_X7_in : GoodIn wsX7_tack wsX7_in := goodIn_r _ [9] (by decide +kernel) (by decide +kernel)
set_option maxRecDepth 20000 in
theorem gX7_tack_X7_in : GoodIn wsX7_tack (va_wsS RX7 71 yX7_in wsX7_in) := goodIn_app (goodIn_of _ (by decide +kernel)) ggX7_tack_X7_in
set_option maxRecDepth 20000 in
theorem ggX7_tack_X7_leastTack : GoodIn wsX7_tack wsX7_leastTack := goodIn_r _ [13, 1, 14, 15, 4, 16, 17, 18, 19, 20, 7, 8, 9, 21, 22, 23, 24, 25, 26, 27, 28, 29, 30, 31, 32, 33, 34, 35, 36, 37, 38, 39, 40, 41, 42, 43, 44, 45, 46, 47, 48, 49, 50, 51, 52, 53, 54] (by decide +kernel) (by decide +kernel)
set_option maxRecDepth 20000 in
theorem gX7_tack_X7_leastTack : GoodIn wsX7_tack (wsV RX7 274 RX7 yX7_leastTack wsX7_leastTack) := goodIn_app (goodIn_of _ (by decide +kernel)) ggX7_tack_X7_leastTack
theorem dX7_tack_0 : decode cX7_tack 0 = .ok (.iload_n 1, 1) := by decide +kernel
theorem dX7_tack_1 : decode cX7_tack 1 = .ok (.invokestatic 92, 3) := by decide +kernel
theorem dX7_tack_4 : decode cX7_tack 4 = .ok (.ifCond .ne 5, 3) := by decide +kernel
theorem dX7_tack_7 : decode cX7_tack 7 = .ok (.iconst (-1), 1) := by decide +kernel
theorem dX7_tack_8 : decode cX7_tack 8 = .ok (.ireturn, 1) := by decide +kernel
theorem dX7_tack_9 : decode cX7_tack 9 = .ok (.iload_n 2, 1) := by decide +kernel
theorem dX7_tack_10 : decode cX7_tack 10 = .ok (.i2l, 1) := by decide +kernel
theorem dX7_tack_11 : decode cX7_tack 11 = .ok (.lconst 0, 1) := by decide +kernel
theorem dX7_tack_12 : decode cX7_tack 12 = .ok (.lconst 1, 1) := by decide +kernel
theorem dX7_tack_13 : decode cX7_tack 13 = .ok (.invokestatic 71, 3) := by decide +kernel
theorem dX7_tack_16 : decode cX7_tack 16 = .ok (.ifCond .ne 6, 3) := by decide +kernel
theorem dX7_tack_19 : decode cX7_tack 19 = .ok (.bipush (-2), 2) := by decide +kernel
theorem dX7_tack_21 : decode cX7_tack 21 = .ok (.ireturn, 1) := by decide +kernel
theorem dX7_tack_22 : decode cX7_tack 22 = .ok (.iconst 0, 1) := by decide +kernel
theorem dX7_tack_23 : decode cX7_tack 23 = .ok (.istore_n 3, 1) := by decide +kernel
theorem dX7_tack_24 : decode cX7_tack 24 = .ok (.iload_n 3, 1) := by decide +kernel
theorem dX7_tack_25 : decode cX7_tack 25 = .ok (.bipush 15, 2) := by decide +kernel
theorem dX7_tack_27 : decode cX7_tack 27 = .ok (.if_icmp .ge 61, 3) := by decide +kernel
theorem dX7_tack_30 : decode cX7_tack 30 = .ok (.iconst 0, 1) := by decide +kernel
theorem dX7_tack_31 : decode cX7_tack 31 = .ok (.istore 4, 2) := by decide +kernel
theorem dX7_tack_33 : decode cX7_tack 33 = .ok (.iload 4, 2) := by decide +kernel
theorem dX7_tack_35 : decode cX7_tack 35 = .ok (.bipush 64, 2) := by decide +kernel
theorem dX7_tack_37 : decode cX7_tack 37 = .ok (.if_icmp .ge 45, 3) := by decide +kernel
theorem dX7_tack_40 : decode cX7_tack 40 = .ok (.iload 4, 2) := by decide +kernel
theorem dX7_tack_42 : decode cX7_tack 42 = .ok (.bipush 8, 2) := by decide +kernel
theorem dX7_tack_44 : decode cX7_tack 44 = .ok (.idiv, 1) := by decide +kernel
theorem dX7_tack_45 : decode cX7_tack 45 = .ok (.iload 4, 2) := by decide +kernel
theorem dX7_tack_47 : decode cX7_tack 47 = .ok (.bipush 8, 2) := by decide +kernel
theorem dX7_tack_49 : decode cX7_tack 49 = .ok (.irem, 1) := by decide +kernel
theorem dX7_tack_50 : decode cX7_tack 50 = .ok (.iadd, 1) := by decide +kernel
theorem dX7_tack_51 : decode cX7_tack 51 = .ok (.iload_n 3, 1) := by decide +kernel
theorem dX7_tack_52 : decode cX7_tack 52 = .ok (.if_icmp .ne 24, 3) := by decide +kernel
theorem dX7_tack_55 : decode cX7_tack 55 = .ok (.aload_n 0, 1) := by decide +kernel
theorem dX7_tack_56 : decode cX7_tack 56 = .ok (.getfield 49, 3) := by decide +kernel
theorem dX7_tack_59 : decode cX7_tack 59 = .ok (.iload 4, 2) := by decide +kernel
theorem dX7_tack_61 : decode cX7_tack 61 = .ok (.aload_n 0, 1) := by decide +kernel
theorem dX7_tack_62 : decode cX7_tack 62 = .ok (.iload 4, 2) := by decide +kernel
theorem dX7_tack_64 : decode cX7_tack 64 = .ok (.invokevirtual 274, 3) := by decide +kernel
theorem dX7_tack_67 : decode cX7_tack 67 = .ok (.ifCond .lt 7, 3) := by decide +kernel
theorem dX7_tack_70 : decode cX7_tack 70 = .ok (.iconst 1, 1) := by decide +kernel
theorem dX7_tack_71 : decode cX7_tack 71 = .ok (.goto 4, 3) := by decide +kernel
theorem dX7_tack_74 : decode cX7_tack 74 = .ok (.iconst 0, 1) := by decide +kernel
theorem dX7_tack_75 : decode cX7_tack 75 = .ok (.bastore, 1) := by decide +kernel
theorem dX7_tack_76 : decode cX7_tack 76 = .ok (.iinc 4 1, 3) := by decide +kernel
theorem dX7_tack_79 : decode cX7_tack 79 = .ok (.goto (-46), 3) := by decide +kernel
theorem dX7_tack_82 : decode cX7_tack 82 = .ok (.iinc 3 1, 3) := by decide +kernel
theorem dX7_tack_85 : decode cX7_tack 85 = .ok (.goto (-61), 3) := by decide +kernel
theorem dX7_tack_88 : decode cX7_tack 88 = .ok (.iload_n 2, 1) := by decide +kernel
theorem dX7_tack_89 : decode cX7_tack 89 = .ok (.iconst 1, 1) := by decide +kernel
theorem dX7_tack_90 : decode cX7_tack 90 = .ok (.if_icmp .ne 11, 3) := by decide +kernel
theorem dX7_tack_93 : decode cX7_tack 93 = .ok (.aload_n 0, 1) := by decide +kernel
theorem dX7_tack_94 : decode cX7_tack 94 = .ok (.iload_n 1, 1) := by decide +kernel
theorem dX7_tack_95 : decode cX7_tack 95 = .ok (.invokevirtual 274, 3) := by decide +kernel
theorem dX7_tack_98 : decode cX7_tack 98 = .ok (.goto 17, 3) := by decide +kernel
theorem dX7_tack_101 : decode cX7_tack 101 = .ok (.aload_n 0, 1) := by decide +kernel
theorem dX7_tack_102 : decode cX7_tack 102 = .ok (.getfield 49, 3) := by decide +kernel
theorem dX7_tack_105 : decode cX7_tack 105 = .ok (.iload_n 1, 1) := by decide +kernel
theorem dX7_tack_106 : decode cX7_tack 106 = .ok (.baload, 1) := by decide +kernel
theorem dX7_tack_107 : decode cX7_tack 107 = .ok (.ifCond .eq 7, 3) := by decide +kernel
theorem dX7_tack_110 : decode cX7_tack 110 = .ok (.iconst 1, 1) := by decide +kernel
theorem dX7_tack_111 : decode cX7_tack 111 = .ok (.goto 4, 3) := by decide +kernel
theorem dX7_tack_114 : decode cX7_tack 114 = .ok (.iconst 0, 1) := by decide +kernel
theorem dX7_tack_115 : decode cX7_tack 115 = .ok (.ireturn, 1) := by decide +kernel
theorem dX7_lowest_0 : decode cX7_lowest 0 = .ok (.lload_n 2, 1) := by decide +kernel
theorem dX7_lowest_1 : decode cX7_lowest 1 = .ok (.lstore 5, 2) := by decide +kernel
theorem dX7_lowest_3 : decode cX7_lowest 3 = .ok (.lload_n 0, 1) := by decide +kernel
theorem dX7_lowest_4 : decode cX7_lowest 4 = .ok (.lstore 7, 2) := by decide +kernel
theorem dX7_lowest_6 : decode cX7_lowest 6 = .ok (.lload 7, 2) := by decide +kernel
theorem dX7_lowest_8 : decode cX7_lowest 8 = .ok (.lconst 0, 1) := by decide +kernel
theorem dX7_lowest_9 : decode cX7_lowest 9 = .ok (.lcmp, 1) := by decide +kernel
theorem dX7_lowest_10 : decode cX7_lowest 10 = .ok (.ifCond .eq 21, 3) := by decide +kernel
theorem dX7_lowest_13 : decode cX7_lowest 13 = .ok (.lload 5, 2) := by decide +kernel
theorem dX7_lowest_15 : decode cX7_lowest 15 = .ok (.lload 7, 2) := by decide +kernel
theorem dX7_lowest_17 : decode cX7_lowest 17 = .ok (.lrem, 1) := by decide +kernel
theorem dX7_lowest_18 : decode cX7_lowest 18 = .ok (.lstore 9, 2) := by decide +kernel
theorem dX7_lowest_20 : decode cX7_lowest 20 = .ok (.lload 7, 2) := by decide +kernel
theorem dX7_lowest_22 : decode cX7_lowest 22 = .ok (.lstore 5, 2) := by decide +kernel
theorem dX7_lowest_24 : decode cX7_lowest 24 = .ok (.lload 9, 2) := by decide +kernel
theorem dX7_lowest_26 : decode cX7_lowest 26 = .ok (.lstore 7, 2) := by decide +kernel
theorem dX7_lowest_28 : decode cX7_lowest 28 = .ok (.goto (-22), 3) := by decide +kernel
theorem dX7_lowest_31 : decode cX7_lowest 31 = .ok (.iload 4, 2) := by decide +kernel
theorem dX7_lowest_33 : decode cX7_lowest 33 = .ok (.ifCond .ne 10, 3) := by decide +kernel
theorem dX7_lowest_36 : decode cX7_lowest 36 = .ok (.lload_n 0, 1) := by decide +kernel
theorem dX7_lowest_37 : decode cX7_lowest 37 = .ok (.lload 5, 2) := by decide +kernel
theorem dX7_lowest_39 : decode cX7_lowest 39 = .ok (.ldiv, 1) := by decide +kernel
theorem dX7_lowest_40 : decode cX7_lowest 40 = .ok (.goto 7, 3) := by decide +kernel
theorem dX7_lowest_43 : decode cX7_lowest 43 = .ok (.lload_n 2, 1) := by decide +kernel
theorem dX7_lowest_44 : decode cX7_lowest 44 = .ok (.lload 5, 2) := by decide +kernel
theorem dX7_lowest_46 : decode cX7_lowest 46 = .ok (.ldiv, 1) := by decide +kernel
theorem dX7_lowest_47 : decode cX7_lowest 47 = .ok (.lreturn, 1) := by decide +kernel
set_option maxRecDepth 20000 in
theorem ggX7_first_X7_in : GoodIn wsX7_first wsX7_in := goodIn_r _ [8] (by decide +kernel) (by decide +kernel)
set_option maxRecDepth 20000 in
theorem gX7_first_X7_in : GoodIn wsX7_first (va_wsS RX7 71 yX7_in wsX7_in) := goodIn_app (goodIn_of _ (by decide +kernel)) ggX7_first_X7_in
set_option maxRecDepth 20000 in
theorem ggX7_first_X7_lowest : GoodIn wsX7_first wsX7_lowest := goodIn_r _ [11] (by decide +kernel) (by decide +kernel)
set_option maxRecDepth 20000 in
theorem gX7_first_X7_lowest : GoodIn wsX7_first (va_wsS RX7 283 yX7_lowest wsX7_lowest) := goodIn_app (goodIn_of _ (by decide +kernel)) ggX7_first_X7_lowest
theorem dX7_first_0 : decode cX7_first 0 = .ok (.iload_n 1, 1) := by decide +kernel
theorem dX7_first_1 : decode cX7_first 1 = .ok (.i2l, 1) := by decide +kernel
theorem dX7_first_2 : decode cX7_first 2 = .ok (.lconst 0, 1) := by decide +kernel
theorem dX7_first_3 : decode cX7_first 3 = .ok (.ldc2_w 277, 3) := by decide +kernel
theorem dX7_first_6 : decode cX7_first 6 = .ok (.invokestatic 71, 3) := by decide +kernel
theorem dX7_first_9 : decode cX7_first 9 = .ok (.ifCond .eq 51, 3) := by decide +kernel
theorem dX7_first_12 : decode cX7_first 12 = .ok (.iload_n 2, 1) := by decide +kernel
theorem dX7_first_13 : decode cX7_first 13 = .ok (.i2l, 1) := by decide +kernel
theorem dX7_first_14 : decode cX7_first 14 = .ok (.lconst 0, 1) := by decide +kernel
theorem dX7_first_15 : decode cX7_first 15 = .ok (.ldc2_w 277, 3) := by decide +kernel
theorem dX7_first_18 : decode cX7_first 18 = .ok (.invokestatic 71, 3) := by decide +kernel
theorem dX7_first_21 : decode cX7_first 21 = .ok (.ifCond .eq 39, 3) := by decide +kernel
theorem dX7_first_24 : decode cX7_first 24 = .ok (.iload_n 3, 1) := by decide +kernel
theorem dX7_first_25 : decode cX7_first 25 = .ok (.i2l, 1) := by decide +kernel
theorem dX7_first_26 : decode cX7_first 26 = .ok (.lconst 0, 1) := by decide +kernel
theorem dX7_first_27 : decode cX7_first 27 = .ok (.ldc2_w 279, 3) := by decide +kernel
theorem dX7_first_30 : decode cX7_first 30 = .ok (.invokestatic 71, 3) := by decide +kernel
theorem dX7_first_33 : decode cX7_first 33 = .ok (.ifCond .eq 27, 3) := by decide +kernel
theorem dX7_first_36 : decode cX7_first 36 = .ok (.iload 4, 2) := by decide +kernel
theorem dX7_first_38 : decode cX7_first 38 = .ok (.i2l, 1) := by decide +kernel
theorem dX7_first_39 : decode cX7_first 39 = .ok (.lconst 0, 1) := by decide +kernel
theorem dX7_first_40 : decode cX7_first 40 = .ok (.ldc2_w 208, 3) := by decide +kernel
theorem dX7_first_43 : decode cX7_first 43 = .ok (.invokestatic 71, 3) := by decide +kernel
theorem dX7_first_46 : decode cX7_first 46 = .ok (.ifCond .eq 14, 3) := by decide +kernel
theorem dX7_first_49 : decode cX7_first 49 = .ok (.iload 5, 2) := by decide +kernel
theorem dX7_first_51 : decode cX7_first 51 = .ok (.i2l, 1) := by decide +kernel
theorem dX7_first_52 : decode cX7_first 52 = .ok (.lconst 0, 1) := by decide +kernel
theorem dX7_first_53 : decode cX7_first 53 = .ok (.lconst 1, 1) := by decide +kernel
theorem dX7_first_54 : decode cX7_first 54 = .ok (.invokestatic 71, 3) := by decide +kernel
theorem dX7_first_57 : decode cX7_first 57 = .ok (.ifCond .ne 7, 3) := by decide +kernel
theorem dX7_first_60 : decode cX7_first 60 = .ok (.ldc2_w 281, 3) := by decide +kernel
theorem dX7_first_63 : decode cX7_first 63 = .ok (.lreturn, 1) := by decide +kernel
theorem dX7_first_64 : decode cX7_first 64 = .ok (.lconst 0, 1) := by decide +kernel
theorem dX7_first_65 : decode cX7_first 65 = .ok (.lstore 6, 2) := by decide +kernel
theorem dX7_first_67 : decode cX7_first 67 = .ok (.lconst 0, 1) := by decide +kernel
theorem dX7_first_68 : decode cX7_first 68 = .ok (.lstore 8, 2) := by decide +kernel
theorem dX7_first_70 : decode cX7_first 70 = .ok (.lconst 1, 1) := by decide +kernel
theorem dX7_first_71 : decode cX7_first 71 = .ok (.lstore 10, 2) := by decide +kernel
theorem dX7_first_73 : decode cX7_first 73 = .ok (.iconst 0, 1) := by decide +kernel
theorem dX7_first_74 : decode cX7_first 74 = .ok (.istore 12, 2) := by decide +kernel
theorem dX7_first_76 : decode cX7_first 76 = .ok (.iload 12, 2) := by decide +kernel
theorem dX7_first_78 : decode cX7_first 78 = .ok (.iload_n 3, 1) := by decide +kernel
theorem dX7_first_79 : decode cX7_first 79 = .ok (.if_icmp .ge 80, 3) := by decide +kernel
theorem dX7_first_82 : decode cX7_first 82 = .ok (.ldc2_w 277, 3) := by decide +kernel
theorem dX7_first_85 : decode cX7_first 85 = .ok (.lload 6, 2) := by decide +kernel
theorem dX7_first_87 : decode cX7_first 87 = .ok (.lmul, 1) := by decide +kernel
theorem dX7_first_88 : decode cX7_first 88 = .ok (.iload 12, 2) := by decide +kernel
theorem dX7_first_90 : decode cX7_first 90 = .ok (.iconst 2, 1) := by decide +kernel
theorem dX7_first_91 : decode cX7_first 91 = .ok (.irem, 1) := by decide +kernel
theorem dX7_first_92 : decode cX7_first 92 = .ok (.ifCond .ne 11, 3) := by decide +kernel
theorem dX7_first_95 : decode cX7_first 95 = .ok (.iload_n 1, 1) := by decide +kernel
theorem dX7_first_96 : decode cX7_first 96 = .ok (.i2l, 1) := by decide +kernel
theorem dX7_first_97 : decode cX7_first 97 = .ok (.lload 10, 2) := by decide +kernel
theorem dX7_first_99 : decode cX7_first 99 = .ok (.lmul, 1) := by decide +kernel
theorem dX7_first_100 : decode cX7_first 100 = .ok (.goto 4, 3) := by decide +kernel
theorem dX7_first_103 : decode cX7_first 103 = .ok (.lconst 0, 1) := by decide +kernel
theorem dX7_first_104 : decode cX7_first 104 = .ok (.ladd, 1) := by decide +kernel
theorem dX7_first_105 : decode cX7_first 105 = .ok (.lstore 6, 2) := by decide +kernel
theorem dX7_first_107 : decode cX7_first 107 = .ok (.ldc2_w 277, 3) := by decide +kernel
theorem dX7_first_110 : decode cX7_first 110 = .ok (.lload 8, 2) := by decide +kernel
theorem dX7_first_112 : decode cX7_first 112 = .ok (.lmul, 1) := by decide +kernel
theorem dX7_first_113 : decode cX7_first 113 = .ok (.iload 12, 2) := by decide +kernel
theorem dX7_first_115 : decode cX7_first 115 = .ok (.iconst 2, 1) := by decide +kernel
theorem dX7_first_116 : decode cX7_first 116 = .ok (.irem, 1) := by decide +kernel
theorem dX7_first_117 : decode cX7_first 117 = .ok (.ifCond .ne 7, 3) := by decide +kernel
theorem dX7_first_120 : decode cX7_first 120 = .ok (.lconst 0, 1) := by decide +kernel
theorem dX7_first_121 : decode cX7_first 121 = .ok (.goto 8, 3) := by decide +kernel
theorem dX7_first_124 : decode cX7_first 124 = .ok (.iload_n 2, 1) := by decide +kernel
theorem dX7_first_125 : decode cX7_first 125 = .ok (.i2l, 1) := by decide +kernel
theorem dX7_first_126 : decode cX7_first 126 = .ok (.lload 10, 2) := by decide +kernel
theorem dX7_first_128 : decode cX7_first 128 = .ok (.lmul, 1) := by decide +kernel
theorem dX7_first_129 : decode cX7_first 129 = .ok (.ladd, 1) := by decide +kernel
theorem dX7_first_130 : decode cX7_first 130 = .ok (.lstore 8, 2) := by decide +kernel
theorem dX7_first_132 : decode cX7_first 132 = .ok (.lload 10, 2) := by decide +kernel
theorem dX7_first_134 : decode cX7_first 134 = .ok (.bipush 10, 2) := by decide +kernel
theorem dX7_first_136 : decode cX7_first 136 = .ok (.iload 12, 2) := by decide +kernel
theorem dX7_first_138 : decode cX7_first 138 = .ok (.iconst 2, 1) := by decide +kernel
theorem dX7_first_139 : decode cX7_first 139 = .ok (.irem, 1) := by decide +kernel
theorem dX7_first_140 : decode cX7_first 140 = .ok (.ifCond .ne 7, 3) := by decide +kernel
theorem dX7_first_143 : decode cX7_first 143 = .ok (.iload_n 1, 1) := by decide +kernel
theorem dX7_first_144 : decode cX7_first 144 = .ok (.goto 4, 3) := by decide +kernel
theorem dX7_first_147 : decode cX7_first 147 = .ok (.iload_n 2, 1) := by decide +kernel
theorem dX7_first_148 : decode cX7_first 148 = .ok (.isub, 1) := by decide +kernel
theorem dX7_first_149 : decode cX7_first 149 = .ok (.i2l, 1) := by decide +kernel
theorem dX7_first_150 : decode cX7_first 150 = .ok (.lmul, 1) := by decide +kernel
theorem dX7_first_151 : decode cX7_first 151 = .ok (.lstore 10, 2) := by decide +kernel
theorem dX7_first_153 : decode cX7_first 153 = .ok (.iinc 12 1, 3) := by decide +kernel
theorem dX7_first_156 : decode cX7_first 156 = .ok (.goto (-80), 3) := by decide +kernel
theorem dX7_first_159 : decode cX7_first 159 = .ok (.iload 4, 2) := by decide +kernel
theorem dX7_first_161 : decode cX7_first 161 = .ok (.ifCond .ne 8, 3) := by decide +kernel
theorem dX7_first_164 : decode cX7_first 164 = .ok (.lload 6, 2) := by decide +kernel
theorem dX7_first_166 : decode cX7_first 166 = .ok (.goto 16, 3) := by decide +kernel
theorem dX7_first_169 : decode cX7_first 169 = .ok (.iload 4, 2) := by decide +kernel
theorem dX7_first_171 : decode cX7_first 171 = .ok (.iconst 1, 1) := by decide +kernel
theorem dX7_first_172 : decode cX7_first 172 = .ok (.if_icmp .ne 8, 3) := by decide +kernel
theorem dX7_first_175 : decode cX7_first 175 = .ok (.lload 8, 2) := by decide +kernel
theorem dX7_first_177 : decode cX7_first 177 = .ok (.goto 5, 3) := by decide +kernel
theorem dX7_first_180 : decode cX7_first 180 = .ok (.lload 10, 2) := by decide +kernel
theorem dX7_first_182 : decode cX7_first 182 = .ok (.lstore 12, 2) := by decide +kernel
theorem dX7_first_184 : decode cX7_first 184 = .ok (.lload 12, 2) := by decide +kernel
theorem dX7_first_186 : decode cX7_first 186 = .ok (.lload 6, 2) := by decide +kernel
theorem dX7_first_188 : decode cX7_first 188 = .ok (.lload 8, 2) := by decide +kernel
theorem dX7_first_190 : decode cX7_first 190 = .ok (.ladd, 1) := by decide +kernel
theorem dX7_first_191 : decode cX7_first 191 = .ok (.lload 10, 2) := by decide +kernel
theorem dX7_first_193 : decode cX7_first 193 = .ok (.ladd, 1) := by decide +kernel
theorem dX7_first_194 : decode cX7_first 194 = .ok (.iload 5, 2) := by decide +kernel
theorem dX7_first_196 : decode cX7_first 196 = .ok (.invokestatic 283, 3) := by decide +kernel
theorem dX7_first_199 : decode cX7_first 199 = .ok (.lreturn, 1) := by decide +kernel
theorem dX7_actBy_0 : decode cX7_actBy 0 = .ok (.iload_n 0, 1) := by decide +kernel
theorem dX7_actBy_1 : decode cX7_actBy 1 = .ok (.tableswitch 55 0 7 #[47, 55, 55, 55, 55, 49, 51, 53], 47) := by decide +kernel
theorem dX7_actBy_48 : decode cX7_actBy 48 = .ok (.iconst 0, 1) := by decide +kernel
theorem dX7_actBy_49 : decode cX7_actBy 49 = .ok (.ireturn, 1) := by decide +kernel
theorem dX7_actBy_50 : decode cX7_actBy 50 = .ok (.iconst 3, 1) := by decide +kernel
theorem dX7_actBy_51 : decode cX7_actBy 51 = .ok (.ireturn, 1) := by decide +kernel
theorem dX7_actBy_52 : decode cX7_actBy 52 = .ok (.iconst 4, 1) := by decide +kernel
theorem dX7_actBy_53 : decode cX7_actBy 53 = .ok (.ireturn, 1) := by decide +kernel
theorem dX7_actBy_54 : decode cX7_actBy 54 = .ok (.iconst 5, 1) := by decide +kernel
theorem dX7_actBy_55 : decode cX7_actBy 55 = .ok (.ireturn, 1) := by decide +kernel
theorem dX7_actBy_56 : decode cX7_actBy 56 = .ok (.iconst 2, 1) := by decide +kernel
theorem dX7_actBy_57 : decode cX7_actBy 57 = .ok (.ireturn, 1) := by decide +kernel
set_option maxRecDepth 20000 in
theorem ggX7_year_X7_in : GoodIn wsX7_year wsX7_in := goodIn_r _ [13] (by decide +kernel) (by decide +kernel)
set_option maxRecDepth 20000 in
theorem gX7_year_X7_in : GoodIn wsX7_year (va_wsS RX7 71 yX7_in wsX7_in) := goodIn_app (goodIn_of _ (by decide +kernel)) ggX7_year_X7_in
set_option maxRecDepth 20000 in
theorem ggX7_year_X7_keepNow : GoodIn wsX7_year wsX7_keepNow := goodIn_r _ [17, 18, 8, 9, 19, 20, 21, 22, 93, 94, 95, 96, 97, 98, 99, 100, 101, 102, 103, 104, 105, 106, 107, 108, 109, 110, 111, 112, 113, 114, 115, 116, 117, 118, 119, 120, 121, 122, 123, 124, 125, 126] (by decide +kernel) (by decide +kernel)
set_option maxRecDepth 20000 in
theorem gX7_year_X7_keepNow : GoodIn wsX7_year (wsV RX7 199 RX7 yX7_keepNow wsX7_keepNow) := goodIn_app (goodIn_of _ (by decide +kernel)) ggX7_year_X7_keepNow
set_option maxRecDepth 20000 in
theorem ggX7_year_X7_actBy : GoodIn wsX7_year wsX7_actBy := goodIn_r _ [25] (by decide +kernel) (by decide +kernel)
set_option maxRecDepth 20000 in
theorem gX7_year_X7_actBy : GoodIn wsX7_year (va_wsS RX7 297 yX7_actBy wsX7_actBy) := goodIn_app (goodIn_of _ (by decide +kernel)) ggX7_year_X7_actBy
set_option maxRecDepth 20000 in
theorem ggX7_year_X7_whyNot : GoodIn wsX7_year wsX7_whyNot := goodIn_r _ [29, 19, 21, 22, 30, 31, 32, 12, 33, 9, 8, 34, 35, 36, 37, 38, 39, 40, 41, 42, 43, 44, 45, 46, 10, 11, 13, 93, 94, 95, 96, 97, 98, 99, 100, 101, 102, 103, 104, 105, 106, 107, 108, 109, 110, 111, 112, 113, 114, 115, 116, 117, 118, 119, 120, 121, 122, 123, 124, 125, 126] (by decide +kernel) (by decide +kernel)
set_option maxRecDepth 20000 in
theorem gX7_year_X7_whyNot : GoodIn wsX7_year (wsV RX7 192 RX7 yX7_whyNot wsX7_whyNot) := goodIn_app (goodIn_of _ (by decide +kernel)) ggX7_year_X7_whyNot
set_option maxRecDepth 20000 in
theorem ggX7_year_X7_happen : GoodIn wsX7_year wsX7_happen := goodIn_r _ [50, 21, 51, 52, 53, 12, 54, 19, 20, 55, 56, 57, 58, 8, 59, 9, 60, 34, 35, 36, 37, 38, 39, 40, 41, 42, 43, 44, 45, 46, 10, 11, 13, 61, 62, 63, 64, 65, 4, 66, 67, 68, 69, 70, 71, 72, 73, 74, 75, 76, 77, 78, 79, 80, 81, 82, 83, 84, 85, 86, 87, 88, 22, 93, 94, 95, 96, 97, 98, 99, 100, 101, 102, 103, 104, 105, 106, 107, 108, 109, 110, 111, 112, 113, 114, 115, 116, 117, 118, 119, 120, 121, 122, 123, 124, 125, 126] (by decide +kernel) (by decide +kernel)
set_option maxRecDepth 20000 in
theorem gX7_year_X7_happen : GoodIn wsX7_year (wsV RX7 195 RX7 yX7_happen wsX7_happen) := goodIn_app (goodIn_of _ (by decide +kernel)) ggX7_year_X7_happen
set_option maxRecDepth 20000 in
theorem ggX7_year_X7_back : GoodIn wsX7_year wsX7_back := goodIn_r _ [92, 18, 8, 9, 19, 20, 21, 22, 93, 94, 95, 96, 97, 98, 99, 100, 101, 102, 103, 104, 105, 106, 107, 108, 109, 110, 111, 112, 113, 114, 115, 116, 117, 118, 119, 120, 121, 122, 123, 124, 125, 126] (by decide +kernel) (by decide +kernel)
set_option maxRecDepth 20000 in
theorem gX7_year_X7_back : GoodIn wsX7_year (wsV RX7 213 RX7 yX7_back wsX7_back) := goodIn_app (goodIn_of _ (by decide +kernel)) ggX7_year_X7_back
theorem dX7_year_0 : decode cX7_year 0 = .ok (.iload_n 1, 1) := by decide +kernel
theorem dX7_year_1 : decode cX7_year 1 = .ok (.i2l, 1) := by decide +kernel
theorem dX7_year_2 : decode cX7_year 2 = .ok (.lconst 0, 1) := by decide +kernel
theorem dX7_year_3 : decode cX7_year 3 = .ok (.ldc2_w 287, 3) := by decide +kernel
theorem dX7_year_6 : decode cX7_year 6 = .ok (.invokestatic 71, 3) := by decide +kernel
theorem dX7_year_9 : decode cX7_year 9 = .ok (.ifCond .eq 27, 3) := by decide +kernel
theorem dX7_year_12 : decode cX7_year 12 = .ok (.iload_n 2, 1) := by decide +kernel
theorem dX7_year_13 : decode cX7_year 13 = .ok (.i2l, 1) := by decide +kernel
theorem dX7_year_14 : decode cX7_year 14 = .ok (.lconst 1, 1) := by decide +kernel
theorem dX7_year_15 : decode cX7_year 15 = .ok (.ldc2_w 289, 3) := by decide +kernel
theorem dX7_year_18 : decode cX7_year 18 = .ok (.invokestatic 71, 3) := by decide +kernel
theorem dX7_year_21 : decode cX7_year 21 = .ok (.ifCond .eq 15, 3) := by decide +kernel
theorem dX7_year_24 : decode cX7_year 24 = .ok (.iload_n 3, 1) := by decide +kernel
theorem dX7_year_25 : decode cX7_year 25 = .ok (.i2l, 1) := by decide +kernel
theorem dX7_year_26 : decode cX7_year 26 = .ok (.lconst 0, 1) := by decide +kernel
theorem dX7_year_27 : decode cX7_year 27 = .ok (.ldc2_w 208, 3) := by decide +kernel
theorem dX7_year_30 : decode cX7_year 30 = .ok (.invokestatic 71, 3) := by decide +kernel
theorem dX7_year_33 : decode cX7_year 33 = .ok (.ifCond .ne 6, 3) := by decide +kernel
theorem dX7_year_36 : decode cX7_year 36 = .ok (.bipush (-2), 2) := by decide +kernel
theorem dX7_year_38 : decode cX7_year 38 = .ok (.ireturn, 1) := by decide +kernel
theorem dX7_year_39 : decode cX7_year 39 = .ok (.aload_n 0, 1) := by decide +kernel
theorem dX7_year_40 : decode cX7_year 40 = .ok (.invokevirtual 199, 3) := by decide +kernel
theorem dX7_year_43 : decode cX7_year 43 = .ok (.aload_n 0, 1) := by decide +kernel
theorem dX7_year_44 : decode cX7_year 44 = .ok (.iconst 0, 1) := by decide +kernel
theorem dX7_year_45 : decode cX7_year 45 = .ok (.putfield 164, 3) := by decide +kernel
theorem dX7_year_48 : decode cX7_year 48 = .ok (.iload_n 1, 1) := by decide +kernel
theorem dX7_year_49 : decode cX7_year 49 = .ok (.istore 4, 2) := by decide +kernel
theorem dX7_year_51 : decode cX7_year 51 = .ok (.iconst 0, 1) := by decide +kernel
theorem dX7_year_52 : decode cX7_year 52 = .ok (.istore 5, 2) := by decide +kernel
theorem dX7_year_54 : decode cX7_year 54 = .ok (.iload 5, 2) := by decide +kernel
theorem dX7_year_56 : decode cX7_year 56 = .ok (.iload_n 2, 1) := by decide +kernel
theorem dX7_year_57 : decode cX7_year 57 = .ok (.if_icmp .ge 76, 3) := by decide +kernel
theorem dX7_year_60 : decode cX7_year 60 = .ok (.ldc2_w 291, 3) := by decide +kernel
theorem dX7_year_63 : decode cX7_year 63 = .ok (.iload 4, 2) := by decide +kernel
theorem dX7_year_65 : decode cX7_year 65 = .ok (.i2l, 1) := by decide +kernel
theorem dX7_year_66 : decode cX7_year 66 = .ok (.lmul, 1) := by decide +kernel
theorem dX7_year_67 : decode cX7_year 67 = .ok (.ldc2_w 293, 3) := by decide +kernel
theorem dX7_year_70 : decode cX7_year 70 = .ok (.ladd, 1) := by decide +kernel
theorem dX7_year_71 : decode cX7_year 71 = .ok (.ldc2_w 295, 3) := by decide +kernel
theorem dX7_year_74 : decode cX7_year 74 = .ok (.lrem, 1) := by decide +kernel
theorem dX7_year_75 : decode cX7_year 75 = .ok (.l2i, 1) := by decide +kernel
theorem dX7_year_76 : decode cX7_year 76 = .ok (.istore 4, 2) := by decide +kernel
theorem dX7_year_78 : decode cX7_year 78 = .ok (.iload 4, 2) := by decide +kernel
theorem dX7_year_80 : decode cX7_year 80 = .ok (.bipush 8, 2) := by decide +kernel
theorem dX7_year_82 : decode cX7_year 82 = .ok (.irem, 1) := by decide +kernel
theorem dX7_year_83 : decode cX7_year 83 = .ok (.invokestatic 297, 3) := by decide +kernel
theorem dX7_year_86 : decode cX7_year 86 = .ok (.istore 6, 2) := by decide +kernel
theorem dX7_year_88 : decode cX7_year 88 = .ok (.iload 4, 2) := by decide +kernel
theorem dX7_year_90 : decode cX7_year 90 = .ok (.bipush 8, 2) := by decide +kernel
theorem dX7_year_92 : decode cX7_year 92 = .ok (.idiv, 1) := by decide +kernel
theorem dX7_year_93 : decode cX7_year 93 = .ok (.iload 6, 2) := by decide +kernel
theorem dX7_year_95 : decode cX7_year 95 = .ok (.ifCond .ne 8, 3) := by decide +kernel
theorem dX7_year_98 : decode cX7_year 98 = .ok (.bipush 6, 2) := by decide +kernel
theorem dX7_year_100 : decode cX7_year 100 = .ok (.goto 5, 3) := by decide +kernel
theorem dX7_year_103 : decode cX7_year 103 = .ok (.bipush 8, 2) := by decide +kernel
theorem dX7_year_105 : decode cX7_year 105 = .ok (.irem, 1) := by decide +kernel
theorem dX7_year_106 : decode cX7_year 106 = .ok (.istore 7, 2) := by decide +kernel
theorem dX7_year_108 : decode cX7_year 108 = .ok (.aload_n 0, 1) := by decide +kernel
theorem dX7_year_109 : decode cX7_year 109 = .ok (.iload 6, 2) := by decide +kernel
theorem dX7_year_111 : decode cX7_year 111 = .ok (.iload 7, 2) := by decide +kernel
theorem dX7_year_113 : decode cX7_year 113 = .ok (.invokevirtual 192, 3) := by decide +kernel
theorem dX7_year_116 : decode cX7_year 116 = .ok (.ifCond .ne 11, 3) := by decide +kernel
theorem dX7_year_119 : decode cX7_year 119 = .ok (.aload_n 0, 1) := by decide +kernel
theorem dX7_year_120 : decode cX7_year 120 = .ok (.iload 6, 2) := by decide +kernel
theorem dX7_year_122 : decode cX7_year 122 = .ok (.iload 7, 2) := by decide +kernel
theorem dX7_year_124 : decode cX7_year 124 = .ok (.invokevirtual 195, 3) := by decide +kernel
theorem dX7_year_127 : decode cX7_year 127 = .ok (.iinc 5 1, 3) := by decide +kernel
theorem dX7_year_130 : decode cX7_year 130 = .ok (.goto (-76), 3) := by decide +kernel
theorem dX7_year_133 : decode cX7_year 133 = .ok (.aload_n 0, 1) := by decide +kernel
theorem dX7_year_134 : decode cX7_year 134 = .ok (.iload_n 3, 1) := by decide +kernel
theorem dX7_year_135 : decode cX7_year 135 = .ok (.ifCond .ne 10, 3) := by decide +kernel
theorem dX7_year_138 : decode cX7_year 138 = .ok (.aload_n 0, 1) := by decide +kernel
theorem dX7_year_139 : decode cX7_year 139 = .ok (.getfield 59, 3) := by decide +kernel
theorem dX7_year_142 : decode cX7_year 142 = .ok (.goto 19, 3) := by decide +kernel
theorem dX7_year_145 : decode cX7_year 145 = .ok (.iload_n 3, 1) := by decide +kernel
theorem dX7_year_146 : decode cX7_year 146 = .ok (.iconst 1, 1) := by decide +kernel
theorem dX7_year_147 : decode cX7_year 147 = .ok (.if_icmp .ne 10, 3) := by decide +kernel
theorem dX7_year_150 : decode cX7_year 150 = .ok (.aload_n 0, 1) := by decide +kernel
theorem dX7_year_151 : decode cX7_year 151 = .ok (.getfield 63, 3) := by decide +kernel
theorem dX7_year_154 : decode cX7_year 154 = .ok (.goto 7, 3) := by decide +kernel
theorem dX7_year_157 : decode cX7_year 157 = .ok (.aload_n 0, 1) := by decide +kernel
theorem dX7_year_158 : decode cX7_year 158 = .ok (.getfield 164, 3) := by decide +kernel
theorem dX7_year_161 : decode cX7_year 161 = .ok (.invokevirtual 213, 3) := by decide +kernel
theorem dX7_year_164 : decode cX7_year 164 = .ok (.ireturn, 1) := by decide +kernel
theorem dX7_pass_0 : decode cX7_pass 0 = .ok (.aload_n 0, 1) := by decide +kernel
theorem dX7_pass_1 : decode cX7_pass 1 = .ok (.getfield 300, 3) := by decide +kernel
theorem dX7_pass_4 : decode cX7_pass 4 = .ok (.ifCond .eq 7, 3) := by decide +kernel
theorem dX7_pass_7 : decode cX7_pass 7 = .ok (.iload_n 1, 1) := by decide +kernel
theorem dX7_pass_8 : decode cX7_pass 8 = .ok (.goto 12, 3) := by decide +kernel
theorem dX7_pass_11 : decode cX7_pass 11 = .ok (.aload_n 0, 1) := by decide +kernel
theorem dX7_pass_12 : decode cX7_pass 12 = .ok (.getfield 53, 3) := by decide +kernel
theorem dX7_pass_15 : decode cX7_pass 15 = .ok (.aload_n 0, 1) := by decide +kernel
theorem dX7_pass_16 : decode cX7_pass 16 = .ok (.getfield 304, 3) := by decide +kernel
theorem dX7_pass_19 : decode cX7_pass 19 = .ok (.iaload, 1) := by decide +kernel
theorem dX7_pass_20 : decode cX7_pass 20 = .ok (.istore_n 2, 1) := by decide +kernel
theorem dX7_pass_21 : decode cX7_pass 21 = .ok (.aload_n 0, 1) := by decide +kernel
theorem dX7_pass_22 : decode cX7_pass 22 = .ok (.getfield 53, 3) := by decide +kernel
theorem dX7_pass_25 : decode cX7_pass 25 = .ok (.aload_n 0, 1) := by decide +kernel
theorem dX7_pass_26 : decode cX7_pass 26 = .ok (.getfield 304, 3) := by decide +kernel
theorem dX7_pass_29 : decode cX7_pass 29 = .ok (.iload_n 2, 1) := by decide +kernel
theorem dX7_pass_30 : decode cX7_pass 30 = .ok (.iastore, 1) := by decide +kernel
theorem dX7_pass_31 : decode cX7_pass 31 = .ok (.aload_n 0, 1) := by decide +kernel
theorem dX7_pass_32 : decode cX7_pass 32 = .ok (.dup, 1) := by decide +kernel
theorem dX7_pass_33 : decode cX7_pass 33 = .ok (.getfield 304, 3) := by decide +kernel
theorem dX7_pass_36 : decode cX7_pass 36 = .ok (.iconst 1, 1) := by decide +kernel
theorem dX7_pass_37 : decode cX7_pass 37 = .ok (.iadd, 1) := by decide +kernel
theorem dX7_pass_38 : decode cX7_pass 38 = .ok (.putfield 304, 3) := by decide +kernel
theorem dX7_pass_41 : decode cX7_pass 41 = .ok (.iload_n 2, 1) := by decide +kernel
theorem dX7_pass_42 : decode cX7_pass 42 = .ok (.ireturn, 1) := by decide +kernel
set_option maxRecDepth 20000 in
theorem ggX7_passRow_X7_pass : GoodIn wsX7_passRow wsX7_pass := goodIn_r _ [5, 6, 7, 8, 9, 10, 11, 12, 13, 14, 15, 16, 17, 18, 19, 20, 21, 22, 23, 24, 25, 26, 27, 28, 29, 30, 31, 32, 33, 34, 35, 36, 37, 38, 39, 40, 41, 42] (by decide +kernel) (by decide +kernel)
set_option maxRecDepth 20000 in
theorem gX7_passRow_X7_pass : GoodIn wsX7_passRow (wsV RX7 307 RX7 yX7_pass wsX7_pass) := goodIn_app (goodIn_of _ (by decide +kernel)) ggX7_passRow_X7_pass
theorem dX7_passRow_0 : decode cX7_passRow 0 = .ok (.iconst 0, 1) := by decide +kernel
theorem dX7_passRow_1 : decode cX7_passRow 1 = .ok (.istore_n 3, 1) := by decide +kernel
theorem dX7_passRow_2 : decode cX7_passRow 2 = .ok (.iload_n 3, 1) := by decide +kernel
theorem dX7_passRow_3 : decode cX7_passRow 3 = .ok (.iload_n 2, 1) := by decide +kernel
theorem dX7_passRow_4 : decode cX7_passRow 4 = .ok (.if_icmp .ge 19, 3) := by decide +kernel
theorem dX7_passRow_7 : decode cX7_passRow 7 = .ok (.aload_n 1, 1) := by decide +kernel
theorem dX7_passRow_8 : decode cX7_passRow 8 = .ok (.iload_n 3, 1) := by decide +kernel
theorem dX7_passRow_9 : decode cX7_passRow 9 = .ok (.aload_n 0, 1) := by decide +kernel
theorem dX7_passRow_10 : decode cX7_passRow 10 = .ok (.aload_n 1, 1) := by decide +kernel
theorem dX7_passRow_11 : decode cX7_passRow 11 = .ok (.iload_n 3, 1) := by decide +kernel
theorem dX7_passRow_12 : decode cX7_passRow 12 = .ok (.iaload, 1) := by decide +kernel
theorem dX7_passRow_13 : decode cX7_passRow 13 = .ok (.invokevirtual 307, 3) := by decide +kernel
theorem dX7_passRow_16 : decode cX7_passRow 16 = .ok (.iastore, 1) := by decide +kernel
theorem dX7_passRow_17 : decode cX7_passRow 17 = .ok (.iinc 3 1, 3) := by decide +kernel
theorem dX7_passRow_20 : decode cX7_passRow 20 = .ok (.goto (-18), 3) := by decide +kernel
theorem dX7_passRow_23 : decode cX7_passRow 23 = .ok (.return_, 1) := by decide +kernel
set_option maxRecDepth 20000 in
theorem ggX7_passAll_X7_pass : GoodIn wsX7_passAll wsX7_pass := goodIn_r _ [17, 18, 19, 20, 25, 26, 27, 28, 29, 30, 31, 32, 33, 34, 35, 36, 37, 38, 39, 40, 41, 42, 43, 44, 45, 46, 47, 48, 49, 50, 51, 52, 53, 54, 55, 56, 57, 58] (by decide +kernel) (by decide +kernel)
set_option maxRecDepth 20000 in
theorem gX7_passAll_X7_pass : GoodIn wsX7_passAll (wsV RX7 307 RX7 yX7_pass wsX7_pass) := goodIn_app (goodIn_of _ (by decide +kernel)) ggX7_passAll_X7_pass
set_option maxRecDepth 20000 in
theorem ggX7_passAll_X7_passRow : GoodIn wsX7_passAll wsX7_passRow := goodIn_r _ [24, 13, 14, 15, 16, 17, 18, 19, 20, 25, 26, 27, 28, 29, 30, 31, 32, 33, 34, 35, 36, 37, 38, 39, 40, 41, 42, 43, 44, 45, 46, 47, 48, 49, 50, 51, 52, 53, 54, 55, 56, 57, 58] (by decide +kernel) (by decide +kernel)
set_option maxRecDepth 20000 in
theorem gX7_passAll_X7_passRow : GoodIn wsX7_passAll (wsV RX7 310 RX7 yX7_passRow wsX7_passRow) := goodIn_app (goodIn_of _ (by decide +kernel)) ggX7_passAll_X7_passRow
theorem dX7_passAll_0 : decode cX7_passAll 0 = .ok (.aload_n 0, 1) := by decide +kernel
theorem dX7_passAll_1 : decode cX7_passAll 1 = .ok (.aload_n 0, 1) := by decide +kernel
theorem dX7_passAll_2 : decode cX7_passAll 2 = .ok (.aload_n 0, 1) := by decide +kernel
theorem dX7_passAll_3 : decode cX7_passAll 3 = .ok (.getfield 59, 3) := by decide +kernel
theorem dX7_passAll_6 : decode cX7_passAll 6 = .ok (.invokevirtual 307, 3) := by decide +kernel
theorem dX7_passAll_9 : decode cX7_passAll 9 = .ok (.putfield 59, 3) := by decide +kernel
theorem dX7_passAll_12 : decode cX7_passAll 12 = .ok (.aload_n 0, 1) := by decide +kernel
theorem dX7_passAll_13 : decode cX7_passAll 13 = .ok (.aload_n 0, 1) := by decide +kernel
theorem dX7_passAll_14 : decode cX7_passAll 14 = .ok (.aload_n 0, 1) := by decide +kernel
theorem dX7_passAll_15 : decode cX7_passAll 15 = .ok (.getfield 63, 3) := by decide +kernel
theorem dX7_passAll_18 : decode cX7_passAll 18 = .ok (.invokevirtual 307, 3) := by decide +kernel
theorem dX7_passAll_21 : decode cX7_passAll 21 = .ok (.putfield 63, 3) := by decide +kernel
theorem dX7_passAll_24 : decode cX7_passAll 24 = .ok (.aload_n 0, 1) := by decide +kernel
theorem dX7_passAll_25 : decode cX7_passAll 25 = .ok (.aload_n 0, 1) := by decide +kernel
theorem dX7_passAll_26 : decode cX7_passAll 26 = .ok (.aload_n 0, 1) := by decide +kernel
theorem dX7_passAll_27 : decode cX7_passAll 27 = .ok (.getfield 66, 3) := by decide +kernel
theorem dX7_passAll_30 : decode cX7_passAll 30 = .ok (.invokevirtual 307, 3) := by decide +kernel
theorem dX7_passAll_33 : decode cX7_passAll 33 = .ok (.putfield 66, 3) := by decide +kernel
theorem dX7_passAll_36 : decode cX7_passAll 36 = .ok (.aload_n 0, 1) := by decide +kernel
theorem dX7_passAll_37 : decode cX7_passAll 37 = .ok (.aload_n 0, 1) := by decide +kernel
theorem dX7_passAll_38 : decode cX7_passAll 38 = .ok (.aload_n 0, 1) := by decide +kernel
theorem dX7_passAll_39 : decode cX7_passAll 39 = .ok (.getfield 146, 3) := by decide +kernel
theorem dX7_passAll_42 : decode cX7_passAll 42 = .ok (.invokevirtual 307, 3) := by decide +kernel
theorem dX7_passAll_45 : decode cX7_passAll 45 = .ok (.putfield 146, 3) := by decide +kernel
theorem dX7_passAll_48 : decode cX7_passAll 48 = .ok (.aload_n 0, 1) := by decide +kernel
theorem dX7_passAll_49 : decode cX7_passAll 49 = .ok (.aload_n 0, 1) := by decide +kernel
theorem dX7_passAll_50 : decode cX7_passAll 50 = .ok (.aload_n 0, 1) := by decide +kernel
theorem dX7_passAll_51 : decode cX7_passAll 51 = .ok (.getfield 104, 3) := by decide +kernel
theorem dX7_passAll_54 : decode cX7_passAll 54 = .ok (.invokevirtual 307, 3) := by decide +kernel
theorem dX7_passAll_57 : decode cX7_passAll 57 = .ok (.putfield 104, 3) := by decide +kernel
theorem dX7_passAll_60 : decode cX7_passAll 60 = .ok (.aload_n 0, 1) := by decide +kernel
theorem dX7_passAll_61 : decode cX7_passAll 61 = .ok (.aload_n 0, 1) := by decide +kernel
theorem dX7_passAll_62 : decode cX7_passAll 62 = .ok (.aload_n 0, 1) := by decide +kernel
theorem dX7_passAll_63 : decode cX7_passAll 63 = .ok (.getfield 143, 3) := by decide +kernel
theorem dX7_passAll_66 : decode cX7_passAll 66 = .ok (.invokevirtual 307, 3) := by decide +kernel
theorem dX7_passAll_69 : decode cX7_passAll 69 = .ok (.putfield 143, 3) := by decide +kernel
theorem dX7_passAll_72 : decode cX7_passAll 72 = .ok (.aload_n 0, 1) := by decide +kernel
theorem dX7_passAll_73 : decode cX7_passAll 73 = .ok (.aload_n 0, 1) := by decide +kernel
theorem dX7_passAll_74 : decode cX7_passAll 74 = .ok (.aload_n 0, 1) := by decide +kernel
theorem dX7_passAll_75 : decode cX7_passAll 75 = .ok (.getfield 253, 3) := by decide +kernel
theorem dX7_passAll_78 : decode cX7_passAll 78 = .ok (.invokevirtual 307, 3) := by decide +kernel
theorem dX7_passAll_81 : decode cX7_passAll 81 = .ok (.putfield 253, 3) := by decide +kernel
theorem dX7_passAll_84 : decode cX7_passAll 84 = .ok (.aload_n 0, 1) := by decide +kernel
theorem dX7_passAll_85 : decode cX7_passAll 85 = .ok (.aload_n 0, 1) := by decide +kernel
theorem dX7_passAll_86 : decode cX7_passAll 86 = .ok (.getfield 7, 3) := by decide +kernel
theorem dX7_passAll_89 : decode cX7_passAll 89 = .ok (.bipush 64, 2) := by decide +kernel
theorem dX7_passAll_91 : decode cX7_passAll 91 = .ok (.invokevirtual 310, 3) := by decide +kernel
theorem dX7_passAll_94 : decode cX7_passAll 94 = .ok (.aload_n 0, 1) := by decide +kernel
theorem dX7_passAll_95 : decode cX7_passAll 95 = .ok (.aload_n 0, 1) := by decide +kernel
theorem dX7_passAll_96 : decode cX7_passAll 96 = .ok (.getfield 13, 3) := by decide +kernel
theorem dX7_passAll_99 : decode cX7_passAll 99 = .ok (.bipush 6, 2) := by decide +kernel
theorem dX7_passAll_101 : decode cX7_passAll 101 = .ok (.invokevirtual 310, 3) := by decide +kernel
theorem dX7_passAll_104 : decode cX7_passAll 104 = .ok (.aload_n 0, 1) := by decide +kernel
theorem dX7_passAll_105 : decode cX7_passAll 105 = .ok (.aload_n 0, 1) := by decide +kernel
theorem dX7_passAll_106 : decode cX7_passAll 106 = .ok (.getfield 16, 3) := by decide +kernel
theorem dX7_passAll_109 : decode cX7_passAll 109 = .ok (.bipush 8, 2) := by decide +kernel
theorem dX7_passAll_111 : decode cX7_passAll 111 = .ok (.invokevirtual 310, 3) := by decide +kernel
theorem dX7_passAll_114 : decode cX7_passAll 114 = .ok (.aload_n 0, 1) := by decide +kernel
theorem dX7_passAll_115 : decode cX7_passAll 115 = .ok (.aload_n 0, 1) := by decide +kernel
theorem dX7_passAll_116 : decode cX7_passAll 116 = .ok (.getfield 19, 3) := by decide +kernel
theorem dX7_passAll_119 : decode cX7_passAll 119 = .ok (.bipush 8, 2) := by decide +kernel
theorem dX7_passAll_121 : decode cX7_passAll 121 = .ok (.invokevirtual 310, 3) := by decide +kernel
theorem dX7_passAll_124 : decode cX7_passAll 124 = .ok (.aload_n 0, 1) := by decide +kernel
theorem dX7_passAll_125 : decode cX7_passAll 125 = .ok (.aload_n 0, 1) := by decide +kernel
theorem dX7_passAll_126 : decode cX7_passAll 126 = .ok (.getfield 22, 3) := by decide +kernel
theorem dX7_passAll_129 : decode cX7_passAll 129 = .ok (.bipush 8, 2) := by decide +kernel
theorem dX7_passAll_131 : decode cX7_passAll 131 = .ok (.invokevirtual 310, 3) := by decide +kernel
theorem dX7_passAll_134 : decode cX7_passAll 134 = .ok (.return_, 1) := by decide +kernel
set_option maxRecDepth 20000 in
theorem ggX7_image_X7_in : GoodIn wsX7_image wsX7_in := goodIn_r _ [7] (by decide +kernel) (by decide +kernel)
set_option maxRecDepth 20000 in
theorem gX7_image_X7_in : GoodIn wsX7_image (va_wsS RX7 71 yX7_in wsX7_in) := goodIn_app (goodIn_of _ (by decide +kernel)) ggX7_image_X7_in
set_option maxRecDepth 20000 in
theorem ggX7_image_X7_passAll : GoodIn wsX7_image wsX7_passAll := goodIn_r _ [11, 12, 13, 14, 15, 16, 17, 18, 19, 20, 21, 22, 23, 24, 25, 26, 6, 27, 2, 28, 1, 29, 30, 31, 32, 33, 34, 35, 36, 37, 38, 39, 40, 41, 42, 43, 44, 45, 46, 47, 48, 49, 50, 51, 52, 53, 54, 55, 56, 57, 58, 59, 60, 61, 62, 63, 64, 65, 66] (by decide +kernel) (by decide +kernel)
set_option maxRecDepth 20000 in
theorem gX7_image_X7_passAll : GoodIn wsX7_image (wsV RX7 314 RX7 yX7_passAll wsX7_passAll) := goodIn_app (goodIn_of _ (by decide +kernel)) ggX7_image_X7_passAll
theorem dX7_image_0 : decode cX7_image 0 = .ok (.iload_n 1, 1) := by decide +kernel
theorem dX7_image_1 : decode cX7_image 1 = .ok (.i2l, 1) := by decide +kernel
theorem dX7_image_2 : decode cX7_image 2 = .ok (.lconst 0, 1) := by decide +kernel
theorem dX7_image_3 : decode cX7_image 3 = .ok (.lconst 1, 1) := by decide +kernel
theorem dX7_image_4 : decode cX7_image 4 = .ok (.invokestatic 71, 3) := by decide +kernel
theorem dX7_image_7 : decode cX7_image 7 = .ok (.ifCond .ne 6, 3) := by decide +kernel
theorem dX7_image_10 : decode cX7_image 10 = .ok (.bipush (-2), 2) := by decide +kernel
theorem dX7_image_12 : decode cX7_image 12 = .ok (.ireturn, 1) := by decide +kernel
theorem dX7_image_13 : decode cX7_image 13 = .ok (.aload_n 0, 1) := by decide +kernel
theorem dX7_image_14 : decode cX7_image 14 = .ok (.bipush 110, 2) := by decide +kernel
theorem dX7_image_16 : decode cX7_image 16 = .ok (.iload_n 1, 1) := by decide +kernel
theorem dX7_image_17 : decode cX7_image 17 = .ok (.imul, 1) := by decide +kernel
theorem dX7_image_18 : decode cX7_image 18 = .ok (.putfield 304, 3) := by decide +kernel
theorem dX7_image_21 : decode cX7_image 21 = .ok (.aload_n 0, 1) := by decide +kernel
theorem dX7_image_22 : decode cX7_image 22 = .ok (.iconst 1, 1) := by decide +kernel
theorem dX7_image_23 : decode cX7_image 23 = .ok (.putfield 300, 3) := by decide +kernel
theorem dX7_image_26 : decode cX7_image 26 = .ok (.aload_n 0, 1) := by decide +kernel
theorem dX7_image_27 : decode cX7_image 27 = .ok (.invokevirtual 314, 3) := by decide +kernel
theorem dX7_image_30 : decode cX7_image 30 = .ok (.aload_n 0, 1) := by decide +kernel
theorem dX7_image_31 : decode cX7_image 31 = .ok (.getfield 56, 3) := by decide +kernel
theorem dX7_image_34 : decode cX7_image 34 = .ok (.iload_n 1, 1) := by decide +kernel
theorem dX7_image_35 : decode cX7_image 35 = .ok (.iconst 1, 1) := by decide +kernel
theorem dX7_image_36 : decode cX7_image 36 = .ok (.bastore, 1) := by decide +kernel
theorem dX7_image_37 : decode cX7_image 37 = .ok (.iconst 1, 1) := by decide +kernel
theorem dX7_image_38 : decode cX7_image 38 = .ok (.ireturn, 1) := by decide +kernel
set_option maxRecDepth 20000 in
theorem ggX7_restore_X7_in : GoodIn wsX7_restore wsX7_in := goodIn_r _ [7] (by decide +kernel) (by decide +kernel)
set_option maxRecDepth 20000 in
theorem gX7_restore_X7_in : GoodIn wsX7_restore (va_wsS RX7 71 yX7_in wsX7_in) := goodIn_app (goodIn_of _ (by decide +kernel)) ggX7_restore_X7_in
set_option maxRecDepth 20000 in
theorem ggX7_restore_X7_passAll : GoodIn wsX7_restore wsX7_passAll := goodIn_r _ [11, 12, 13, 14, 15, 16, 17, 18, 19, 20, 21, 22, 23, 24, 25, 26, 6, 27, 3, 28, 2, 29, 30, 31, 32, 33, 34, 35, 36, 37, 38, 39, 40, 41, 42, 43, 44, 45, 46, 47, 48, 49, 50, 51, 52, 53, 54, 55, 56, 57, 58, 59, 60, 61, 62, 63, 64, 65, 66] (by decide +kernel) (by decide +kernel)
set_option maxRecDepth 20000 in
theorem gX7_restore_X7_passAll : GoodIn wsX7_restore (wsV RX7 314 RX7 yX7_passAll wsX7_passAll) := goodIn_app (goodIn_of _ (by decide +kernel)) ggX7_restore_X7_passAll
theorem dX7_restore_0 : decode cX7_restore 0 = .ok (.iload_n 1, 1) := by decide +kernel
theorem dX7_restore_1 : decode cX7_restore 1 = .ok (.i2l, 1) := by decide +kernel
theorem dX7_restore_2 : decode cX7_restore 2 = .ok (.lconst 0, 1) := by decide +kernel
theorem dX7_restore_3 : decode cX7_restore 3 = .ok (.lconst 1, 1) := by decide +kernel
theorem dX7_restore_4 : decode cX7_restore 4 = .ok (.invokestatic 71, 3) := by decide +kernel
theorem dX7_restore_7 : decode cX7_restore 7 = .ok (.ifCond .ne 6, 3) := by decide +kernel
theorem dX7_restore_10 : decode cX7_restore 10 = .ok (.bipush (-2), 2) := by decide +kernel
theorem dX7_restore_12 : decode cX7_restore 12 = .ok (.ireturn, 1) := by decide +kernel
theorem dX7_restore_13 : decode cX7_restore 13 = .ok (.aload_n 0, 1) := by decide +kernel
theorem dX7_restore_14 : decode cX7_restore 14 = .ok (.getfield 56, 3) := by decide +kernel
theorem dX7_restore_17 : decode cX7_restore 17 = .ok (.iload_n 1, 1) := by decide +kernel
theorem dX7_restore_18 : decode cX7_restore 18 = .ok (.baload, 1) := by decide +kernel
theorem dX7_restore_19 : decode cX7_restore 19 = .ok (.ifCond .ne 6, 3) := by decide +kernel
theorem dX7_restore_22 : decode cX7_restore 22 = .ok (.bipush (-3), 2) := by decide +kernel
theorem dX7_restore_24 : decode cX7_restore 24 = .ok (.ireturn, 1) := by decide +kernel
theorem dX7_restore_25 : decode cX7_restore 25 = .ok (.aload_n 0, 1) := by decide +kernel
theorem dX7_restore_26 : decode cX7_restore 26 = .ok (.bipush 110, 2) := by decide +kernel
theorem dX7_restore_28 : decode cX7_restore 28 = .ok (.iload_n 1, 1) := by decide +kernel
theorem dX7_restore_29 : decode cX7_restore 29 = .ok (.imul, 1) := by decide +kernel
theorem dX7_restore_30 : decode cX7_restore 30 = .ok (.putfield 304, 3) := by decide +kernel
theorem dX7_restore_33 : decode cX7_restore 33 = .ok (.aload_n 0, 1) := by decide +kernel
theorem dX7_restore_34 : decode cX7_restore 34 = .ok (.iconst 0, 1) := by decide +kernel
theorem dX7_restore_35 : decode cX7_restore 35 = .ok (.putfield 300, 3) := by decide +kernel
theorem dX7_restore_38 : decode cX7_restore 38 = .ok (.aload_n 0, 1) := by decide +kernel
theorem dX7_restore_39 : decode cX7_restore 39 = .ok (.invokevirtual 314, 3) := by decide +kernel
theorem dX7_restore_42 : decode cX7_restore 42 = .ok (.iconst 1, 1) := by decide +kernel
theorem dX7_restore_43 : decode cX7_restore 43 = .ok (.ireturn, 1) := by decide +kernel
set_option maxRecDepth 20000 in
theorem ggX7_told_X7_in : GoodIn wsX7_told wsX7_in := goodIn_r _ [15] (by decide +kernel) (by decide +kernel)
set_option maxRecDepth 20000 in
theorem gX7_told_X7_in : GoodIn wsX7_told (va_wsS RX7 71 yX7_in wsX7_in) := goodIn_app (goodIn_of _ (by decide +kernel)) ggX7_told_X7_in
set_option maxRecDepth 20000 in
theorem ggX7_told_X7_landMany : GoodIn wsX7_told wsX7_landMany := goodIn_r _ [19, 3, 29, 30, 31, 32, 33, 34, 35, 36, 37, 38, 39, 40, 41, 42, 43, 44, 45, 46, 47, 48, 49, 50, 51, 52, 53, 54, 55, 56, 57, 58, 59, 60, 61, 62] (by decide +kernel) (by decide +kernel)
set_option maxRecDepth 20000 in
theorem gX7_told_X7_landMany : GoodIn wsX7_told (wsV RX7 96 RX7 yX7_landMany wsX7_landMany) := goodIn_app (goodIn_of _ (by decide +kernel)) ggX7_told_X7_landMany
set_option maxRecDepth 20000 in
theorem ggX7_told_X7_ofShip : GoodIn wsX7_told wsX7_ofShip := goodIn_r _ [23, 24, 25, 26, 27, 28, 8, 29, 30, 31, 32, 33, 34, 35, 36, 37, 38, 39, 40, 41, 42, 43, 44, 45, 46, 47, 48, 49, 50, 51, 52, 53, 54, 55, 56, 57, 58, 59, 60, 61, 62] (by decide +kernel) (by decide +kernel)
set_option maxRecDepth 20000 in
theorem gX7_told_X7_ofShip : GoodIn wsX7_told (wsV RX7 216 RX7 yX7_ofShip wsX7_ofShip) := goodIn_app (goodIn_of _ (by decide +kernel)) ggX7_told_X7_ofShip
theorem dX7_told_0 : decode cX7_told 0 = .ok (.iload_n 1, 1) := by decide +kernel
theorem dX7_told_1 : decode cX7_told 1 = .ok (.i2l, 1) := by decide +kernel
theorem dX7_told_2 : decode cX7_told 2 = .ok (.ldc2_w 317, 3) := by decide +kernel
theorem dX7_told_5 : decode cX7_told 5 = .ok (.ldc2_w 319, 3) := by decide +kernel
theorem dX7_told_8 : decode cX7_told 8 = .ok (.invokestatic 71, 3) := by decide +kernel
theorem dX7_told_11 : decode cX7_told 11 = .ok (.ifCond .eq 13, 3) := by decide +kernel
theorem dX7_told_14 : decode cX7_told 14 = .ok (.aload_n 0, 1) := by decide +kernel
theorem dX7_told_15 : decode cX7_told 15 = .ok (.getfield 7, 3) := by decide +kernel
theorem dX7_told_18 : decode cX7_told 18 = .ok (.iload_n 1, 1) := by decide +kernel
theorem dX7_told_19 : decode cX7_told 19 = .ok (.bipush 100, 2) := by decide +kernel
theorem dX7_told_21 : decode cX7_told 21 = .ok (.isub, 1) := by decide +kernel
theorem dX7_told_22 : decode cX7_told 22 = .ok (.iaload, 1) := by decide +kernel
theorem dX7_told_23 : decode cX7_told 23 = .ok (.ireturn, 1) := by decide +kernel
theorem dX7_told_24 : decode cX7_told 24 = .ok (.iload_n 1, 1) := by decide +kernel
theorem dX7_told_25 : decode cX7_told 25 = .ok (.i2l, 1) := by decide +kernel
theorem dX7_told_26 : decode cX7_told 26 = .ok (.ldc2_w 277, 3) := by decide +kernel
theorem dX7_told_29 : decode cX7_told 29 = .ok (.ldc2_w 321, 3) := by decide +kernel
theorem dX7_told_32 : decode cX7_told 32 = .ok (.invokestatic 71, 3) := by decide +kernel
theorem dX7_told_35 : decode cX7_told 35 = .ok (.ifCond .eq 13, 3) := by decide +kernel
theorem dX7_told_38 : decode cX7_told 38 = .ok (.aload_n 0, 1) := by decide +kernel
theorem dX7_told_39 : decode cX7_told 39 = .ok (.getfield 13, 3) := by decide +kernel
theorem dX7_told_42 : decode cX7_told 42 = .ok (.iload_n 1, 1) := by decide +kernel
theorem dX7_told_43 : decode cX7_told 43 = .ok (.bipush 10, 2) := by decide +kernel
theorem dX7_told_45 : decode cX7_told 45 = .ok (.isub, 1) := by decide +kernel
theorem dX7_told_46 : decode cX7_told 46 = .ok (.iaload, 1) := by decide +kernel
theorem dX7_told_47 : decode cX7_told 47 = .ok (.ireturn, 1) := by decide +kernel
theorem dX7_told_48 : decode cX7_told 48 = .ok (.iload_n 1, 1) := by decide +kernel
theorem dX7_told_49 : decode cX7_told 49 = .ok (.tableswitch 71 0 8 #[51, 56, 71, 71, 71, 71, 71, 61, 66], 51) := by decide +kernel
theorem dX7_told_100 : decode cX7_told 100 = .ok (.aload_n 0, 1) := by decide +kernel
theorem dX7_told_101 : decode cX7_told 101 = .ok (.getfield 111, 3) := by decide +kernel
theorem dX7_told_104 : decode cX7_told 104 = .ok (.ireturn, 1) := by decide +kernel
theorem dX7_told_105 : decode cX7_told 105 = .ok (.aload_n 0, 1) := by decide +kernel
theorem dX7_told_106 : decode cX7_told 106 = .ok (.invokevirtual 96, 3) := by decide +kernel
theorem dX7_told_109 : decode cX7_told 109 = .ok (.ireturn, 1) := by decide +kernel
theorem dX7_told_110 : decode cX7_told 110 = .ok (.aload_n 0, 1) := by decide +kernel
theorem dX7_told_111 : decode cX7_told 111 = .ok (.getfield 143, 3) := by decide +kernel
theorem dX7_told_114 : decode cX7_told 114 = .ok (.ireturn, 1) := by decide +kernel
theorem dX7_told_115 : decode cX7_told 115 = .ok (.aload_n 0, 1) := by decide +kernel
theorem dX7_told_116 : decode cX7_told 116 = .ok (.getfield 253, 3) := by decide +kernel
theorem dX7_told_119 : decode cX7_told 119 = .ok (.ireturn, 1) := by decide +kernel
theorem dX7_told_120 : decode cX7_told 120 = .ok (.iload_n 1, 1) := by decide +kernel
theorem dX7_told_121 : decode cX7_told 121 = .ok (.i2l, 1) := by decide +kernel
theorem dX7_told_122 : decode cX7_told 122 = .ok (.ldc2_w 208, 3) := by decide +kernel
theorem dX7_told_125 : decode cX7_told 125 = .ok (.ldc2_w 323, 3) := by decide +kernel
theorem dX7_told_128 : decode cX7_told 128 = .ok (.invokestatic 71, 3) := by decide +kernel
theorem dX7_told_131 : decode cX7_told 131 = .ok (.ifCond .eq 13, 3) := by decide +kernel
theorem dX7_told_134 : decode cX7_told 134 = .ok (.aload_n 0, 1) := by decide +kernel
theorem dX7_told_135 : decode cX7_told 135 = .ok (.iload_n 1, 1) := by decide +kernel
theorem dX7_told_136 : decode cX7_told 136 = .ok (.iconst 2, 1) := by decide +kernel
theorem dX7_told_137 : decode cX7_told 137 = .ok (.isub, 1) := by decide +kernel
theorem dX7_told_138 : decode cX7_told 138 = .ok (.invokevirtual 216, 3) := by decide +kernel
theorem dX7_told_141 : decode cX7_told 141 = .ok (.goto 5, 3) := by decide +kernel
theorem dX7_told_144 : decode cX7_told 144 = .ok (.bipush (-2), 2) := by decide +kernel
theorem dX7_told_146 : decode cX7_told 146 = .ok (.ireturn, 1) := by decide +kernel
theorem dJ13_bitCount_95d88_0 : decode cJ13_bitCount_95d88 0 = .ok (.lload_n 0, 1) := by decide +kernel
theorem dJ13_bitCount_95d88_1 : decode cJ13_bitCount_95d88 1 = .ok (.lload_n 0, 1) := by decide +kernel
theorem dJ13_bitCount_95d88_2 : decode cJ13_bitCount_95d88 2 = .ok (.iconst 1, 1) := by decide +kernel
theorem dJ13_bitCount_95d88_3 : decode cJ13_bitCount_95d88 3 = .ok (.lushr, 1) := by decide +kernel
theorem dJ13_bitCount_95d88_4 : decode cJ13_bitCount_95d88 4 = .ok (.ldc2_w 314, 3) := by decide +kernel
theorem dJ13_bitCount_95d88_7 : decode cJ13_bitCount_95d88 7 = .ok (.land, 1) := by decide +kernel
theorem dJ13_bitCount_95d88_8 : decode cJ13_bitCount_95d88 8 = .ok (.lsub, 1) := by decide +kernel
theorem dJ13_bitCount_95d88_9 : decode cJ13_bitCount_95d88 9 = .ok (.lstore_n 0, 1) := by decide +kernel
theorem dJ13_bitCount_95d88_10 : decode cJ13_bitCount_95d88 10 = .ok (.lload_n 0, 1) := by decide +kernel
theorem dJ13_bitCount_95d88_11 : decode cJ13_bitCount_95d88 11 = .ok (.ldc2_w 316, 3) := by decide +kernel
theorem dJ13_bitCount_95d88_14 : decode cJ13_bitCount_95d88 14 = .ok (.land, 1) := by decide +kernel
theorem dJ13_bitCount_95d88_15 : decode cJ13_bitCount_95d88 15 = .ok (.lload_n 0, 1) := by decide +kernel
theorem dJ13_bitCount_95d88_16 : decode cJ13_bitCount_95d88 16 = .ok (.iconst 2, 1) := by decide +kernel
theorem dJ13_bitCount_95d88_17 : decode cJ13_bitCount_95d88 17 = .ok (.lushr, 1) := by decide +kernel
theorem dJ13_bitCount_95d88_18 : decode cJ13_bitCount_95d88 18 = .ok (.ldc2_w 316, 3) := by decide +kernel
theorem dJ13_bitCount_95d88_21 : decode cJ13_bitCount_95d88 21 = .ok (.land, 1) := by decide +kernel
theorem dJ13_bitCount_95d88_22 : decode cJ13_bitCount_95d88 22 = .ok (.ladd, 1) := by decide +kernel
theorem dJ13_bitCount_95d88_23 : decode cJ13_bitCount_95d88 23 = .ok (.lstore_n 0, 1) := by decide +kernel
theorem dJ13_bitCount_95d88_24 : decode cJ13_bitCount_95d88 24 = .ok (.lload_n 0, 1) := by decide +kernel
theorem dJ13_bitCount_95d88_25 : decode cJ13_bitCount_95d88 25 = .ok (.lload_n 0, 1) := by decide +kernel
theorem dJ13_bitCount_95d88_26 : decode cJ13_bitCount_95d88 26 = .ok (.iconst 4, 1) := by decide +kernel
theorem dJ13_bitCount_95d88_27 : decode cJ13_bitCount_95d88 27 = .ok (.lushr, 1) := by decide +kernel
theorem dJ13_bitCount_95d88_28 : decode cJ13_bitCount_95d88 28 = .ok (.ladd, 1) := by decide +kernel
theorem dJ13_bitCount_95d88_29 : decode cJ13_bitCount_95d88 29 = .ok (.ldc2_w 318, 3) := by decide +kernel
theorem dJ13_bitCount_95d88_32 : decode cJ13_bitCount_95d88 32 = .ok (.land, 1) := by decide +kernel
theorem dJ13_bitCount_95d88_33 : decode cJ13_bitCount_95d88 33 = .ok (.lstore_n 0, 1) := by decide +kernel
theorem dJ13_bitCount_95d88_34 : decode cJ13_bitCount_95d88 34 = .ok (.lload_n 0, 1) := by decide +kernel
theorem dJ13_bitCount_95d88_35 : decode cJ13_bitCount_95d88 35 = .ok (.lload_n 0, 1) := by decide +kernel
theorem dJ13_bitCount_95d88_36 : decode cJ13_bitCount_95d88 36 = .ok (.bipush 8, 2) := by decide +kernel
theorem dJ13_bitCount_95d88_38 : decode cJ13_bitCount_95d88 38 = .ok (.lushr, 1) := by decide +kernel
theorem dJ13_bitCount_95d88_39 : decode cJ13_bitCount_95d88 39 = .ok (.ladd, 1) := by decide +kernel
theorem dJ13_bitCount_95d88_40 : decode cJ13_bitCount_95d88 40 = .ok (.lstore_n 0, 1) := by decide +kernel
theorem dJ13_bitCount_95d88_41 : decode cJ13_bitCount_95d88 41 = .ok (.lload_n 0, 1) := by decide +kernel
theorem dJ13_bitCount_95d88_42 : decode cJ13_bitCount_95d88 42 = .ok (.lload_n 0, 1) := by decide +kernel
theorem dJ13_bitCount_95d88_43 : decode cJ13_bitCount_95d88 43 = .ok (.bipush 16, 2) := by decide +kernel
theorem dJ13_bitCount_95d88_45 : decode cJ13_bitCount_95d88 45 = .ok (.lushr, 1) := by decide +kernel
theorem dJ13_bitCount_95d88_46 : decode cJ13_bitCount_95d88 46 = .ok (.ladd, 1) := by decide +kernel
theorem dJ13_bitCount_95d88_47 : decode cJ13_bitCount_95d88 47 = .ok (.lstore_n 0, 1) := by decide +kernel
theorem dJ13_bitCount_95d88_48 : decode cJ13_bitCount_95d88 48 = .ok (.lload_n 0, 1) := by decide +kernel
theorem dJ13_bitCount_95d88_49 : decode cJ13_bitCount_95d88 49 = .ok (.lload_n 0, 1) := by decide +kernel
theorem dJ13_bitCount_95d88_50 : decode cJ13_bitCount_95d88 50 = .ok (.bipush 32, 2) := by decide +kernel
theorem dJ13_bitCount_95d88_52 : decode cJ13_bitCount_95d88 52 = .ok (.lushr, 1) := by decide +kernel
theorem dJ13_bitCount_95d88_53 : decode cJ13_bitCount_95d88 53 = .ok (.ladd, 1) := by decide +kernel
theorem dJ13_bitCount_95d88_54 : decode cJ13_bitCount_95d88 54 = .ok (.lstore_n 0, 1) := by decide +kernel
theorem dJ13_bitCount_95d88_55 : decode cJ13_bitCount_95d88 55 = .ok (.lload_n 0, 1) := by decide +kernel
theorem dJ13_bitCount_95d88_56 : decode cJ13_bitCount_95d88 56 = .ok (.l2i, 1) := by decide +kernel
theorem dJ13_bitCount_95d88_57 : decode cJ13_bitCount_95d88 57 = .ok (.bipush 127, 2) := by decide +kernel
theorem dJ13_bitCount_95d88_59 : decode cJ13_bitCount_95d88 59 = .ok (.iand, 1) := by decide +kernel
theorem dJ13_bitCount_95d88_60 : decode cJ13_bitCount_95d88 60 = .ok (.ireturn, 1) := by decide +kernel
theorem dJ9_max_7cf53_0 : decode cJ9_max_7cf53 0 = .ok (.iload_n 0, 1) := by decide +kernel
theorem dJ9_max_7cf53_1 : decode cJ9_max_7cf53 1 = .ok (.iload_n 1, 1) := by decide +kernel
theorem dJ9_max_7cf53_2 : decode cJ9_max_7cf53 2 = .ok (.if_icmp .lt 7, 3) := by decide +kernel
theorem dJ9_max_7cf53_5 : decode cJ9_max_7cf53 5 = .ok (.iload_n 0, 1) := by decide +kernel
theorem dJ9_max_7cf53_6 : decode cJ9_max_7cf53 6 = .ok (.goto 4, 3) := by decide +kernel
theorem dJ9_max_7cf53_9 : decode cJ9_max_7cf53 9 = .ok (.iload_n 1, 1) := by decide +kernel
theorem dJ9_max_7cf53_10 : decode cJ9_max_7cf53 10 = .ok (.ireturn, 1) := by decide +kernel
theorem dJ9_min_7cf53_0 : decode cJ9_min_7cf53 0 = .ok (.iload_n 0, 1) := by decide +kernel
theorem dJ9_min_7cf53_1 : decode cJ9_min_7cf53 1 = .ok (.iload_n 1, 1) := by decide +kernel
theorem dJ9_min_7cf53_2 : decode cJ9_min_7cf53 2 = .ok (.if_icmp .gt 7, 3) := by decide +kernel
theorem dJ9_min_7cf53_5 : decode cJ9_min_7cf53 5 = .ok (.iload_n 0, 1) := by decide +kernel
theorem dJ9_min_7cf53_6 : decode cJ9_min_7cf53 6 = .ok (.goto 4, 3) := by decide +kernel
theorem dJ9_min_7cf53_9 : decode cJ9_min_7cf53 9 = .ok (.iload_n 1, 1) := by decide +kernel
theorem dJ9_min_7cf53_10 : decode cJ9_min_7cf53 10 = .ok (.ireturn, 1) := by decide +kernel
end
section
/-! the plan's own words: contracts of one form (an answer and a world are functions of what went in), the head of a method, its end, a call; combinators that follow a pure function along the walk -/
/-- combinators: a named value, a joint of roads -/
def lt_ {α β : Type} (e : α) (b : α → β) : β := b e
def jn_ {J β : Type} (j : J) (b : J → β) : β := b j
theorem kLt {α β : Type} {r : β} {e x : α} {b : α → β} (hf : r = lt_ e b) (hx : x = e) : r = b x := by subst hx; exact hf
theorem kIt {β : Type} {r a b : β} {c : Prop} {d : Decidable c} (hf : r = @ite β c d a b) (h : c) : r = a := hf.trans (if_pos h)
theorem kIf {β : Type} {r a b : β} {c : Prop} {d : Decidable c} (hf : r = @ite β c d a b) (h : ¬ c) : r = b := hf.trans (if_neg h)
theorem kJn {J β : Type} {r : β} {P : Prop} {j : J} {b : J → β} (hf : r = jn_ j b) (C : J → Prop) (hJ : ∀ j0 : J, j0 = j → C j0) (main : ∀ j0 : J, C j0 → r = b j0 → P) : P := main j (hJ j rfl) hf
/-- a row by place and index -/
def u2 {α : Type} (st : Nat → Nat → α) (p k : Nat) (v : α) : Nat → Nat → α := fun q => if q = p then (fun j => if j = k then v else st p j) else st q
def rw2 {α : Type} (st : Nat → Nat → α) (p : Nat) (f : Nat → α) : Nat → Nat → α := fun q => if q = p then f else st q
/-- Java's own remainder and shifts, as the rows leave them -/
abbrev jr (x y : Int32) : Int32 := x - x / y * y
abbrev jrL (x y : Int64) : Int64 := x - x / y * y
abbrev jshl (x y : Int32) : Int32 := x <<< (y &&& 31)
abbrev jshr (x y : Int32) : Int32 := x >>> (y &&& 31)
abbrev jshlL (x : Int64) (y : Int32) : Int64 := x <<< (y.toInt64 &&& 63)
abbrev jushrL (x : Int64) (y : Int32) : Int64 := (x.toUInt64 >>> (y.toInt64.toUInt64 &&& Int64.toUInt64 63)).toInt64
abbrev jmax (x y : Int32) : Int32 := if x < y then y else x
abbrev jmin (x y : Int32) : Int32 := if y < x then y else x
/-- numbers as integers -/
theorem ti_lt {x y : Int32} (h : x < y) : x.toInt < y.toInt := Int32.lt_iff_toInt_lt.mp h
theorem ti_le {x y : Int32} (h : x ≤ y) : x.toInt ≤ y.toInt := Int32.le_iff_toInt_le.mp h
theorem ti_nlt {x y : Int32} (h : ¬ x < y) : y.toInt ≤ x.toInt := Int.not_lt.mp fun q => h (Int32.lt_iff_toInt_lt.mpr q)
theorem ti_nle {x y : Int32} (h : ¬ x ≤ y) : y.toInt < x.toInt := Int.not_le.mp fun q => h (Int32.le_iff_toInt_le.mpr q)
theorem ti_eq {x y : Int32} (h : x = y) : x.toInt = y.toInt := by rw [h]
theorem ti_ne {x y : Int32} (h : ¬ x = y) : x.toInt ≠ y.toInt := fun q => h (Int32.toInt_inj.mp q)
theorem tl_lt {x y : Int64} (h : x < y) : x.toInt < y.toInt := Int64.lt_iff_toInt_lt.mp h
theorem tl_nlt {x y : Int64} (h : ¬ x < y) : y.toInt ≤ x.toInt := Int.not_lt.mp fun q => h (Int64.lt_iff_toInt_lt.mpr q)
theorem ti_rng (x : Int32) : -2147483648 ≤ x.toInt ∧ x.toInt < 2147483648 := ⟨Int32.le_toInt x, Int32.toInt_lt x⟩
theorem ti_bmod {z : Int} (h1 : -2147483648 ≤ z) (h2 : z < 2147483648) : z.bmod (2 ^ 32) = z := by rw [Int.bmod_eq_of_le] <;> omega
theorem ti_add {x y : Int32} {z : Int} (h : x.toInt + y.toInt = z) (h1 : -2147483648 ≤ z) (h2 : z < 2147483648) : (x + y).toInt = z := by rw [Int32.toInt_add, h, ti_bmod h1 h2]
theorem ti_sub {x y : Int32} {z : Int} (h : x.toInt - y.toInt = z) (h1 : -2147483648 ≤ z) (h2 : z < 2147483648) : (x - y).toInt = z := by rw [Int32.toInt_sub, h, ti_bmod h1 h2]
theorem ti_mul {x y : Int32} {z : Int} (h : x.toInt * y.toInt = z) (h1 : -2147483648 ≤ z) (h2 : z < 2147483648) : (x * y).toInt = z := by rw [Int32.toInt_mul, h, ti_bmod h1 h2]
theorem vin {x : Int32} {n : Nat} (h0 : 0 ≤ x.toInt) (h1 : x.toInt < n) : vp_in x n := vp_in_iff.mpr ⟨h0, h1⟩
/-- the statics, the classes: what every contract of ours stands on -/
def rowsF : Nat → Value := fun j => .int (([-1, -1, 0, 1, 1, 1, 0, -1] : List Int32).getD j 0)
def colsF : Nat → Value := fun j => .int (([0, 1, 1, 1, 0, -1, -1, -1] : List Int32).getD j 0)
abbrev kTy (ct : ClassId × ClassId × ClassId) : List (ClassId × FieldType) := [(ct.1, .int), (ct.2.1, .boolean), (ct.2.2, .object "MastPulpits$Sea")]
def kS (z : Nat × Nat) (A : Nat → Prop) (U : State) (H : Heap) : Prop := va_Z RX0 "ROWS_OF_WAY" "[I" (.ref z.1) A U H ∧ va_T .int z.1 8 rowsF A U H ∧ va_Z RX0 "COLUMNS_OF_WAY" "[I" (.ref z.2) A U H ∧ va_T .int z.2 8 colsF A U H
theorem kS.moved {z : Nat × Nat} {A : Nat → Prop} {u U : State} {H : Heap} (hvm : u.vm.Alike U.vm) (h : kS z A u H) : kS z A U H := ⟨h.1.moved hvm, h.2.1.moved hvm, h.2.2.1.moved hvm, h.2.2.2.moved hvm⟩
theorem kS.kept {z : Nat × Nat} {A : Nat → Prop} {U : State} {H H1 : Heap} (h : kS z A U H) (hq : ∀ a : Nat, a < H.size → ¬ A a → H1[a]? = H[a]?) : kS z A U H1 := ⟨h.1.kept hq, h.2.1.kept hq, h.2.2.1.kept hq, h.2.2.2.kept hq⟩
theorem kS.narrow {z : Nat × Nat} {A B : Nat → Prop} {U : State} {H : Heap} (h : kS z A U H) (hAB : ∀ q, B q → A q) : kS z B U H := ⟨h.1.narrow hAB, h.2.1.narrow hAB, h.2.2.1.narrow hAB, h.2.2.2.narrow hAB⟩
def kK (D : va_G) (ct : ClassId × ClassId × ClassId) (z : Nat × Nat) (A : Nat → Prop) (U : State) : Prop := va_K D vwCl (kTy ct) U ∧ kS z A U U.heap
/-- a contract: what comes in, what goes out -/
def kPre (D : va_G) (ct : ClassId × ClassId × ClassId) (z : Nat × Nat) (w0 : va_W) (sz : Nat) (U : State) : Prop := U.heap.size = sz ∧ va_P D vwCl w0 U.heap ∧ va_D (fun _ => True) w0 ∧ kK D ct z (va_A w0 sz) U
def kQ (D : va_G) (w1 : va_W) (A : Nat → Prop) (v : Option Value) : Array Value → State → Outcome → State → Prop := fun _ st oc t => (oc = .returned v ∧ va_P D vwCl w1 t.heap ∧ va_D A w1) ∧ va_F A st t
def kC (l : Launch) (D : va_G) (ct : ClassId × ClassId × ClassId) (z : Nat × Nat) (y : MethodName) (ws : List Cond) (fr lo : Nat) (av : List Value) (w0 : va_W) (v : Option Value) (w1 : va_W) : Prop :=
  ∀ sz : Nat, Met l y ws { frames := fr, cells := 0, slots := 0, locals := lo } (va_Pc av (kPre D ct z w0 sz)) (kQ D w1 (va_A w0 sz) v) 0 0 (va_A w0 sz)
theorem kBlind (D : va_G) (ct : ClassId × ClassId × ClassId) (z : Nat × Nat) (w0 : va_W) (sz : Nat) (av : List Value) : FrameBlind (va_Pc av (kPre D ct z w0 sz)) := by
  intro a U g mk h
  obtain ⟨h1, h2, h3, h4, h5, h6⟩ := h
  exact ⟨h1, h2, h3, h4, va_K.moved (u := U) (U := U.calling g mk a) (Vm.Alike.refl U.vm) h5, kS.moved (u := U) (U := U.calling g mk a) (Vm.Alike.refl U.vm) h6⟩
/-- the head of a method -/
theorem kHead {l : Launch} {D : va_G} {ct : ClassId × ClassId × ClassId} {z : Nat × Nat} {y : MethodName} {ws ws' : List Cond} {fr lo : Nat} {av : List Value} {w0 w1 : va_W} {v : Option Value} {cc : ByteArray} {maxL : Nat} {ret : Option FieldType} (lv : List (Nat × Value))
    (hy : plainName y.cls = true) (hw : ws = Cond.code y cc maxL ret :: ws') (hn : (lg_sl av).length ≤ maxL) (hlv : lv_args 0 av = lv)
    (body : ∀ (p : Program) (e : Env) (s : State) (m : MethodId) (args : Array Value) (below : List Frame) (meth : Method) (c : Code) (A : Nat → Prop) (ls : Array Slot) (R : Room) (Q : State → Prop), R.frames = fr → R.locals = lo → Q = MQ below (kQ D w1 A v) args s 0 0 A → p.tables.exec = Jvm.exec → c.code = cc → meth.sig.returnType = ret → meth.locks = false → c.maxLocals = maxL → s.vm.findClass y.cls = some m.cls → (∀ w ∈ ws, w.before args s = true) →
      (∀ q : Nat, s.heap.size ≤ q → A q) → va_S A s.heap s.heap [] → kK D ct z A s → va_P D vwCl w0 s.heap → va_D A w0 → lv_has ls maxL lv →
      W p l e R s m args below meth c s.heap [] 0 0 Q (F0 m 0 ls [])) : kC l D ct z y ws fr lo av w0 v w1 := by
  intro sz
  refine Met.ofW (cc := cc) (maxL := maxL) (ret := ret) hy hw ?_
  intro p e s m args below meth c s₁ B hml hP
  obtain ⟨rfl, rfl, hP, hD, hK⟩ := hP
  have hts := atoms_spec (ws := ws) B.pre
  have hown : s.vm.findClass y.cls = some m.cls := findClass_of_methodNamed B.named
  rw [lg_entry_eq]
  have hl := lv_entry av (n := maxL) hn
  rw [hlv] at hl
  exact body p e s m av.toArray below meth c (va_A w0 s.heap.size) _ _ _ rfl rfl rfl B.exec B.bytes B.returns B.notSynchronized hml hown hts (fun q h => Or.inr h) va_S.rf hK hP hD.self hl
section KR
variable {p : Program} {l : Launch} {e : Env} {R : Room} {s : State} {m : MethodId} {args : Array Value} {below : List Frame} {meth : Method} {c : Code} {H : Heap} {locs : List Loc} {cells slots : Nat} {Q : State → Prop}
variable {cc : ByteArray} {pc : Nat} {ls : Array Slot} {rest st0 : List Value} {D : va_G} {ct : ClassId × ClassId × ClassId} {z : Nat × Nat} {A : Nat → Prop} {w w1 : va_W}
/-- the ends -/
theorem kRetI (hx : p.tables.exec = Jvm.exec) (hb : c.code = cc) (hr : meth.sig.returnType = some .int) (hlk : meth.locks = false) (hP : va_P D vwCl w H) (hD : va_D A w) (hS : va_S A s.heap H locs) {v r : Int32} (hv : v = r) (hw : w = w1) (hQ : Q = MQ below (kQ D w1 A (some (.int r))) args s 0 0 A) (hdg : decode cc pc = .ok (.ireturn, 1)) :
    W p l e R s m args below meth c H locs 0 0 Q (F0 m pc ls [.int v]) := by
  subst hv; subst hw; subst hQ
  exact W.iret hx hb hr (fun t ht hW => ⟨⟨rfl, by rw [ht]; exact hP, hD⟩, hS.F ht⟩) hS.2.2 hdg hlk
theorem kRetZ (hx : p.tables.exec = Jvm.exec) (hb : c.code = cc) (hr : meth.sig.returnType = some .boolean) (hlk : meth.locks = false) (hP : va_P D vwCl w H) (hD : va_D A w) (hS : va_S A s.heap H locs) {v r : Int32} (h01 : v = 0 ∨ v = 1) (hv : v = r) (hw : w = w1) (hQ : Q = MQ below (kQ D w1 A (some (.int r))) args s 0 0 A) (hdg : decode cc pc = .ok (.ireturn, 1)) :
    W p l e R s m args below meth c H locs 0 0 Q (F0 m pc ls [.int v]) := by
  subst hv; subst hw; subst hQ
  exact W.zret hx hb hr (by rcases h01 with rfl | rfl <;> rfl) (fun t ht hW => ⟨⟨rfl, by rw [ht]; exact hP, hD⟩, hS.F ht⟩) hS.2.2 hdg hlk
theorem kRetL (hx : p.tables.exec = Jvm.exec) (hb : c.code = cc) (hr : meth.sig.returnType = some .long) (hlk : meth.locks = false) (hP : va_P D vwCl w H) (hD : va_D A w) (hS : va_S A s.heap H locs) {v r : Int64} (hv : v = r) (hw : w = w1) (hQ : Q = MQ below (kQ D w1 A (some (.long r))) args s 0 0 A) (hdg : decode cc pc = .ok (.lreturn, 1)) :
    W p l e R s m args below meth c H locs 0 0 Q (F0 m pc ls [.long v]) := by
  subst hv; subst hw; subst hQ
  exact W.lret hx hb hr (fun t ht hW => ⟨⟨rfl, by rw [ht]; exact hP, hD⟩, hS.F ht⟩) hS.2.2 hdg hlk
theorem kRetV (hx : p.tables.exec = Jvm.exec) (hb : c.code = cc) (hr : meth.sig.returnType = none) (hlk : meth.locks = false) (hP : va_P D vwCl w H) (hD : va_D A w) (hS : va_S A s.heap H locs) (hw : w = w1) (hQ : Q = MQ below (kQ D w1 A none) args s 0 0 A) (hdg : decode cc pc = .ok (.return_, 1)) :
    W p l e R s m args below meth c H locs 0 0 Q (F0 m pc ls []) := by
  subst hw; subst hQ
  exact W.vret hx hb hr (fun t ht hW => ⟨⟨rfl, by rw [ht]; exact hP, hD⟩, hS.F ht⟩) hS.2.2 hdg hlk
/-- behind a call's run -/
theorem kCall {wc w1 : va_W} {v : Option Value} {a : Array Value} (hr : va_Run p l e R s m args below meth c H locs cells slots 0 0 (F0 m pc ls st0) rest (kQ D w1 (va_A wc H.size) v a) (va_A wc H.size)) (hS : va_S A s.heap H locs) (hf : ∀ q, va_A wc H.size q → A q)
    (kk : ∀ (H1 : Heap) (locs1 : List Loc), va_P D vwCl w1 H1 → va_D (va_A wc H.size) w1 → (∀ q : Nat, q < H.size → ¬ va_A wc H.size q → H1[q]? = H[q]?) → va_S A s.heap H1 locs1 → W p l e R s m args below meth c H1 locs1 cells slots Q (F0 m (pc + 3) ls (v.toList ++ rest))) : W p l e R s m args below meth c H locs cells slots Q (F0 m pc ls st0) := by
  intro T hT X
  obtain ⟨v', st₀, t, T', L, h0, X', hL, e1, e2, ⟨⟨hv, hp1, hd1⟩, hz, hk⟩, st⟩ := hr T hT X
  cases hv
  rw [h0] at hz hk
  obtain ⟨t2, a1, b1⟩ := kk T'.heap (locs ++ L) (by rw [e1]; exact hp1) hd1 (fun q h1 h2 => by rw [e1]; exact hk q h1 h2)
    ⟨Nat.le_trans hS.1 (by rw [e1]; exact hz), fun q h1 h2 => by rw [e1, hk q (Nat.lt_of_lt_of_le h1 hS.1) (fun z => h2 (hf q z))]; exact hS.2.1 q h1 h2, fun q hq => by
      rcases List.mem_append.mp hq with h | h
      · exact hS.2.2 q h
      · exact hf _ (hL q h)⟩ T' rfl X'
  exact ⟨t2, st t2 a1, b1⟩
theorem kK.at {A' : Nat → Prop} {U : State} (h : kK D ct z A s) (hS : va_S A s.heap H locs) (hf : ∀ q, A' q → A q) (hU : U.heap = H) (hW : s.WarmedH U.vm) : kK D ct z A' U := by
  refine ⟨va_K.moved hW.alike h.1, ?_⟩
  rw [hU]
  exact kS.moved hW.alike ((h.2.kept (fun a h1 h2 => hS.2.1 a h1 h2)).narrow hf)
/-- what a callee's words are -/
def kY (y : MethodName) (bytes : ByteArray) (maxL : Nat) (ret : Option FieldType) (ws ws' : List Cond) (n : Nat) : Prop := ws = Cond.code y bytes maxL ret :: ws' ∧ y.cls ≠ "java/lang/invoke/MethodHandle" ∧ y.cls ≠ "java/lang/invoke/VarHandle" ∧ (parseMethodDescriptor y.desc).map (fun d => d.parameters.length) = some n
variable {y : MethodName} {bytes : ByteArray} {maxL nL n index fr lo : Nat} {ret : Option FieldType} {wsy wsy' : List Cond} {Ts : List Cond} {own C : String} {b : Addr} {As : List Value}
/-- a call over a part of the world -/
theorem kV {W0 W1 wc wr w1 : va_W} {v : Option Value} {ci : Nat} {fs : List Value} {qc : vw_C} (S : CallFix p m c cc nL s args Ts own) (hM : kC l D ct z y wsy fr lo (.ref b :: As) wc v w1) (hG : GoodIn Ts (wsV own index y.cls y wsy)) (hY : kY y bytes maxL ret wsy wsy' n) (hR : fr + 1 ≤ R.frames ∧ 8 + (maxL + 11) + lo ≤ R.locals)
    (hK : kK D ct z A s) (hP : va_P D vwCl W0 H) (hD : va_D A W0) (hS : va_S A s.heap H locs) (hA : ∀ q : Nat, s.heap.size ≤ q → A q) (isC isR pm : List Nat) (q0 : Nat) (hq0 : W0[q0]? = some (b, .inr (ci, fs))) (hci : vwCl[ci]? = some qc) (hqc : qc.1 = y.cls)
    (hC : isC.map (fun i => W0[i]?) = wc.map some) (hR' : isR.map (fun i => W0[i]?) = wr.map some) (hn : va_nd isC = true ∧ va_nd isR = true) (hdis : ∀ i ∈ isR, i ∉ isC) (hpm : pm.map (fun i => (wr ++ w1)[i]?) = W1.map some) (hnd : va_nd pm = true)
    (hAs : As.length = n) (hsize : ls.size = nL) (hst : st0 = As.reverse ++ .ref b :: rest) (hrm : (rest.map fun v => v.category).sum ≤ 8) (hcs : cells ≤ R.cells ∧ slots ≤ R.slots) (hdg : decode cc pc = .ok (.invokevirtual index, 3))
    (kk : ∀ (H1 : Heap) (locs1 : List Loc), va_P D vwCl W1 H1 → va_D A W1 → va_S A s.heap H1 locs1 → W p l e R s m args below meth c H1 locs1 cells slots Q (F0 m (pc + 3) ls (v.toList ++ rest))) : W p l e R s m args below meth c H locs cells slots Q (F0 m pc ls st0) := by
  have hDc : va_D A wc := hD.sub isC hn.1 hC
  have hFc := va_free (wc := wc) hD hS hA isC hC
  have hPc : va_P D vwCl wc H := by
    intro k q hk
    have h1 : (isC.map (fun i => W0[i]?))[k]? = some (some q) := by rw [hC, List.getElem?_map, hk]; rfl
    rw [List.getElem?_map] at h1
    cases hi : isC[k]? with
    | none => rw [hi] at h1; cases h1
    | some i => rw [hi] at h1; exact hP i q (Option.some.inj h1)
  have hrec := va_recv (s := s) hK.1 hP hci hq0
  rw [hqc] at hrec
  obtain ⟨y1, y2, y3, y4⟩ := hY
  refine kCall (va_runV (As := As) (rest := rest) (C := y.cls) S (hM H.size) (cwV n S.2.2.2.2 hG y1 rfl rfl ⟨rfl, y2, y3, y4⟩ hR) ⟨kBlind D ct z wc H.size _, hrec, fun U hU hW => ⟨rfl, by rw [hU], by rw [hU]; exact hPc, hDc.weaken (fun _ _ _ _ => trivial), kK.at hK hS hFc hU hW⟩⟩ rfl hAs hsize hst (lv_room (Nat.le_trans hrm (Nat.le_refl 8))) hdg hcs) hS hFc (fun H1 locs1 hP1 hD1 hk1 hS1 => ?_)
  obtain ⟨hP2, hD2⟩ := va_join (wr := wr) hP hD isC isR hC hR' hn.2 hdis hk1 hFc hP1 hD1
  refine kk H1 locs1 ?_ (hD2.sub pm hnd hpm) hS1
  intro k q hk
  have h1 : (pm.map (fun i => (wr ++ w1)[i]?))[k]? = some (some q) := by rw [hpm, List.getElem?_map, hk]; rfl
  rw [List.getElem?_map] at h1
  cases hi : pm[k]? with
  | none => rw [hi] at h1; cases h1
  | some i => rw [hi] at h1; exact hP2 i q (Option.some.inj h1)
/-- .. over the whole of it -/
theorem kV1 {W0 w1 : va_W} {v : Option Value} {ci : Nat} {fs : List Value} {qc : vw_C} (S : CallFix p m c cc nL s args Ts own) (hM : kC l D ct z y wsy fr lo (.ref b :: As) W0 v w1) (hG : GoodIn Ts (wsV own index y.cls y wsy)) (hY : kY y bytes maxL ret wsy wsy' n) (hR : fr + 1 ≤ R.frames ∧ 8 + (maxL + 11) + lo ≤ R.locals)
    (hK : kK D ct z A s) (hP : va_P D vwCl W0 H) (hD : va_D A W0) (hS : va_S A s.heap H locs) (hA : ∀ q : Nat, s.heap.size ≤ q → A q) (q0 : Nat) (hq0 : W0[q0]? = some (b, .inr (ci, fs))) (hci : vwCl[ci]? = some qc) (hqc : qc.1 = y.cls)
    (hAs : As.length = n) (hsize : ls.size = nL) (hst : st0 = As.reverse ++ .ref b :: rest) (hrm : (rest.map fun v => v.category).sum ≤ 8) (hcs : cells ≤ R.cells ∧ slots ≤ R.slots) (hdg : decode cc pc = .ok (.invokevirtual index, 3))
    (kk : ∀ (H1 : Heap) (locs1 : List Loc), va_P D vwCl w1 H1 → va_D A w1 → va_S A s.heap H1 locs1 → W p l e R s m args below meth c H1 locs1 cells slots Q (F0 m (pc + 3) ls (v.toList ++ rest))) : W p l e R s m args below meth c H locs cells slots Q (F0 m pc ls st0) := by
  have hFc : ∀ q, va_A W0 H.size q → A q := by
    rintro q (⟨k, e, h⟩ | h)
    · exact hD.2 k (q, e) h
    · exact hA q (Nat.le_trans hS.1 h)
  have hrec := va_recv (s := s) hK.1 hP hci hq0
  rw [hqc] at hrec
  obtain ⟨y1, y2, y3, y4⟩ := hY
  exact kCall (va_runV (As := As) (rest := rest) (C := y.cls) S (hM H.size) (cwV n S.2.2.2.2 hG y1 rfl rfl ⟨rfl, y2, y3, y4⟩ hR) ⟨kBlind D ct z W0 H.size _, hrec, fun U hU hW => ⟨rfl, by rw [hU], by rw [hU]; exact hP, hD.weaken (fun _ _ _ _ => trivial), kK.at hK hS hFc hU hW⟩⟩ rfl hAs hsize hst (lv_room (Nat.le_trans hrm (Nat.le_refl 8))) hdg hcs) hS hFc (fun H1 locs1 hP1 hD1 _ hS1 => kk H1 locs1 hP1 (hD1.weaken (fun _ q _ h => hFc q.1 h)) hS1)
/-- a static call without a world -/
theorem kS0 {W0 : va_W} {v : Option Value} (S : CallFix p m c cc nL s args Ts own) (hM : kC l D ct z y wsy fr lo As [] v []) (hG : GoodIn Ts (va_wsS own index y wsy)) (hY : kY y bytes maxL ret wsy wsy' n) (hR : fr + 1 ≤ R.frames ∧ 8 + (maxL + 11) + lo ≤ R.locals)
    (hK : kK D ct z A s) (hP : va_P D vwCl W0 H) (hD : va_D A W0) (hS : va_S A s.heap H locs) (hA : ∀ q : Nat, s.heap.size ≤ q → A q)
    (hAs : As.length = n) (hsize : ls.size = nL) (hst : st0 = As.reverse ++ rest) (hrm : (rest.map fun v => v.category).sum ≤ 8) (hcs : cells ≤ R.cells ∧ slots ≤ R.slots) (hdg : decode cc pc = .ok (.invokestatic index, 3))
    (kk : ∀ (H1 : Heap) (locs1 : List Loc), va_P D vwCl W0 H1 → va_D A W0 → va_S A s.heap H1 locs1 → W p l e R s m args below meth c H1 locs1 cells slots Q (F0 m (pc + 3) ls (v.toList ++ rest))) : W p l e R s m args below meth c H locs cells slots Q (F0 m pc ls st0) := by
  have hFc : ∀ q, va_A [] H.size q → A q := by
    rintro q (⟨k, e, h⟩ | h)
    · cases h
    · exact hA q (Nat.le_trans hS.1 h)
  obtain ⟨y1, y2, y3, y4⟩ := hY
  refine kCall (va_runS (As := As) (rest := rest) S (hM H.size) (va_cwS n S.2.2.2.2 hG y1 rfl rfl ⟨y2, y3, y4⟩ hR) ⟨kBlind D ct z [] H.size _, fun U hU hW => ⟨rfl, by rw [hU], fun k q h => by cases h, ⟨fun i j p q h => by cases h, fun k q h => by cases h⟩, kK.at hK hS hFc hU hW⟩⟩ rfl hAs hsize hst (lv_room (Nat.le_trans hrm (Nat.le_refl 8))) hdg hcs) hS hFc (fun H1 locs1 _ _ hk1 hS1 => kk H1 locs1 (hP.kept fun k q hk => hk1 q.1 (hP k q hk).lt ?_) hD hS1)
  rintro (⟨k2, e, h⟩ | h)
  · cases h
  · exact absurd (hP k q hk).lt (Nat.not_lt.mpr h)
/-- a static call over a part of the world -/
theorem kSw {W0 W1 wc wr w1 : va_W} {v : Option Value} (S : CallFix p m c cc nL s args Ts own) (hM : kC l D ct z y wsy fr lo As wc v w1) (hG : GoodIn Ts (va_wsS own index y wsy)) (hY : kY y bytes maxL ret wsy wsy' n) (hR : fr + 1 ≤ R.frames ∧ 8 + (maxL + 11) + lo ≤ R.locals)
    (hK : kK D ct z A s) (hP : va_P D vwCl W0 H) (hD : va_D A W0) (hS : va_S A s.heap H locs) (hA : ∀ q : Nat, s.heap.size ≤ q → A q) (isC isR pm : List Nat)
    (hC : isC.map (fun i => W0[i]?) = wc.map some) (hR' : isR.map (fun i => W0[i]?) = wr.map some) (hn : va_nd isC = true ∧ va_nd isR = true) (hdis : ∀ i ∈ isR, i ∉ isC) (hpm : pm.map (fun i => (wr ++ w1)[i]?) = W1.map some) (hnd : va_nd pm = true)
    (hAs : As.length = n) (hsize : ls.size = nL) (hst : st0 = As.reverse ++ rest) (hrm : (rest.map fun v => v.category).sum ≤ 8) (hcs : cells ≤ R.cells ∧ slots ≤ R.slots) (hdg : decode cc pc = .ok (.invokestatic index, 3))
    (kk : ∀ (H1 : Heap) (locs1 : List Loc), va_P D vwCl W1 H1 → va_D A W1 → va_S A s.heap H1 locs1 → W p l e R s m args below meth c H1 locs1 cells slots Q (F0 m (pc + 3) ls (v.toList ++ rest))) : W p l e R s m args below meth c H locs cells slots Q (F0 m pc ls st0) := by
  have hDc : va_D A wc := hD.sub isC hn.1 hC
  have hFc := va_free (wc := wc) hD hS hA isC hC
  have hPc : va_P D vwCl wc H := by
    intro k q hk
    have h1 : (isC.map (fun i => W0[i]?))[k]? = some (some q) := by rw [hC, List.getElem?_map, hk]; rfl
    rw [List.getElem?_map] at h1
    cases hi : isC[k]? with
    | none => rw [hi] at h1; cases h1
    | some i => rw [hi] at h1; exact hP i q (Option.some.inj h1)
  obtain ⟨y1, y2, y3, y4⟩ := hY
  refine kCall (va_runS (As := As) (rest := rest) S (hM H.size) (va_cwS n S.2.2.2.2 hG y1 rfl rfl ⟨y2, y3, y4⟩ hR) ⟨kBlind D ct z wc H.size _, fun U hU hW => ⟨rfl, by rw [hU], by rw [hU]; exact hPc, hDc.weaken (fun _ _ _ _ => trivial), kK.at hK hS hFc hU hW⟩⟩ rfl hAs hsize hst (lv_room (Nat.le_trans hrm (Nat.le_refl 8))) hdg hcs) hS hFc (fun H1 locs1 hP1 hD1 hk1 hS1 => ?_)
  obtain ⟨hP2, hD2⟩ := va_join (wr := wr) hP hD isC isR hC hR' hn.2 hdis hk1 hFc hP1 hD1
  refine kk H1 locs1 ?_ (hD2.sub pm hnd hpm) hS1
  intro k q hk
  have h1 : (pm.map (fun i => (wr ++ w1)[i]?))[k]? = some (some q) := by rw [hpm, List.getElem?_map, hk]; rfl
  rw [List.getElem?_map] at h1
  cases hi : pm[k]? with
  | none => rw [hi] at h1; cases h1
  | some i => rw [hi] at h1; exact hP2 i q (Option.some.inj h1)
/-- putfield, array stores: the world behind it by its name -/
theorem kPut {W0 W1 : va_W} {a : Nat} {ci : Nat} {fs : List Value} {ref : String} {T : u_T} {N : Nat} (hx : p.tables.exec = Jvm.exec) (hb : c.code = cc) (hts : ∀ w ∈ Ts, w.before args s = true) (hin : ∀ w ∈ u_ws C T N, w ∈ Ts) (ty0 : Nat → FieldType) (hty : ∀ k, k < N → parseFieldDescriptor (T k).2.2.1 = some (ty0 k)) (hnm : ∀ a, a < N → ∀ b, b < N → a ≠ b → (T a).2.1 ≠ (T b).2.1) (hown : s.vm.findClass own = some m.cls) (hK : kK D ct z A s) (hP : va_P D vwCl W0 H) (hD : va_D A W0) (hS : va_S A s.heap H locs) (q0 : Nat) (he : W0[q0]? = some (a, .inr (ci, fs))) (hc : vwCl[ci]? = some (C, T, N)) (k : Nat) (hk : k < N)
    (hlink : (Cond.fieldLink own index ref (T k).2.1 (T k).2.2.1).before args s = true) (hsame : ∀ x, s.fieldFound? (T k).1 (T k).2.1 (T k).2.2.1 = some x → s.fieldFound? ref (T k).2.1 (T k).2.2.1 = some x) (hfin : (T k).2.2.2 = false) {ty : FieldType} {v : Value} (hd : parseFieldDescriptor (T k).2.2.1 = some ty) (hn : narrow ty v = v) (hfit : fits ty v = true) (hl : k < fs.length) (hW : W0.set q0 (a, .inr (ci, fs.set k v)) = W1) (hdg : decode cc pc = .ok (.putfield index, 3))
    (kk : ∀ (H1 : Heap) (locs1 : List Loc), va_P D vwCl W1 H1 → va_D A W1 → va_S A s.heap H1 locs1 → W p l e R s m args below meth c H1 locs1 cells slots Q (F0 m (pc + 3) ls rest)) : W p l e R s m args below meth c H locs cells slots Q (F0 m pc ls (v :: .ref a :: rest)) := by
  subst hW
  exact va_put hx hb hts hin ty0 hty hnm hown hK.1 hP hD hS q0 he hc k hk hlink hsame hfin hd hn hfit hl hdg kk
theorem kIast {W0 W1 : va_W} {a : Nat} (hx : p.tables.exec = Jvm.exec) (hb : c.code = cc) (hK : kK D ct z A s) (hP : va_P D vwCl W0 H) (hD : va_D A W0) (hS : va_S A s.heap H locs) (q0 : Nat) {n : Nat} {f : Nat → Int32} (ha : W0[q0]? = some (a, .inl (ct.1, n, .inl f))) {i x : Int32} (hin : vp_in i n) (hW : W0.set q0 (a, .inl (ct.1, n, .inl (upd f i.toNatClampNeg x))) = W1) (hdg : decode cc pc = .ok (.iastore, 1))
    (kk : ∀ (H1 : Heap) (locs1 : List Loc), va_P D vwCl W1 H1 → va_D A W1 → va_S A s.heap H1 locs1 → W p l e R s m args below meth c H1 locs1 cells slots Q (F0 m (pc + 1) ls rest)) : W p l e R s m args below meth c H locs cells slots Q (F0 m pc ls (.int x :: .int i :: .ref a :: rest)) := by
  subst hW
  exact va_iast hx hb hK.1 hP hD hS q0 0 ha rfl hin hdg kk
theorem kZast {W0 W1 : va_W} {a : Nat} (hx : p.tables.exec = Jvm.exec) (hb : c.code = cc) (hK : kK D ct z A s) (hP : va_P D vwCl W0 H) (hD : va_D A W0) (hS : va_S A s.heap H locs) (q0 : Nat) {n : Nat} {f : Nat → Int32} (ha : W0[q0]? = some (a, .inl (ct.2.1, n, .inl f))) {i x : Int32} (h01 : x = 0 ∨ x = 1) (hin : vp_in i n) (hW : W0.set q0 (a, .inl (ct.2.1, n, .inl (upd f i.toNatClampNeg x))) = W1) (hdg : decode cc pc = .ok (.bastore, 1))
    (kk : ∀ (H1 : Heap) (locs1 : List Loc), va_P D vwCl W1 H1 → va_D A W1 → va_S A s.heap H1 locs1 → W p l e R s m args below meth c H1 locs1 cells slots Q (F0 m (pc + 1) ls rest)) : W p l e R s m args below meth c H locs cells slots Q (F0 m pc ls (.int x :: .int i :: .ref a :: rest)) := by
  subst hW
  have hz : vp_nar .boolean x = x := by rcases h01 with rfl | rfl <;> rfl
  refine va_zast hx hb hK.1 hP hD hS q0 1 ha rfl hin hdg ?_
  rw [hz]
  exact kk
end KR
end
section
theorem zz_last : True := trivial
end
