section
-- ===== PART A: goes FIRST, ahead of the names: the tables' words, and 'selects' of the private methods out of them =====
/-- a private method of a class that the tables say can be made, by its rows of tables_1 -/
def lw_okq (q : MethodName × Nat) : Prop := (q.1.cls ≠ "java/lang/invoke/MethodHandle" ∧ q.1.cls ≠ "java/lang/invoke/VarHandle") ∧ Cond.instantiable q.1.cls q.2 ∈ tables_1 ∧ Cond.privateMethod q.1 ∈ tables_1 ∧ Cond.instanceMethod q.1 ∈ tables_1
theorem lw_p0 : lw_okq (⟨"NeededStop$Reader", "takeToken", "()V"⟩, 8) := ⟨⟨by decide +kernel, by decide +kernel⟩, List.mem_of_getElem? (i := 133) (by decide +kernel), List.mem_of_getElem? (i := 420) (by decide +kernel), List.mem_of_getElem? (i := 421) (by decide +kernel)⟩
theorem lw_p1 : lw_okq (⟨"NeededStop$Reader", "readLine", "()V"⟩, 8) := ⟨⟨by decide +kernel, by decide +kernel⟩, List.mem_of_getElem? (i := 133) (by decide +kernel), List.mem_of_getElem? (i := 434) (by decide +kernel), List.mem_of_getElem? (i := 435) (by decide +kernel)⟩
theorem lw_p2 : lw_okq (⟨"NeededStop$Reader", "wordInHand", "()I"⟩, 8) := ⟨⟨by decide +kernel, by decide +kernel⟩, List.mem_of_getElem? (i := 133) (by decide +kernel), List.mem_of_getElem? (i := 438) (by decide +kernel), List.mem_of_getElem? (i := 439) (by decide +kernel)⟩
theorem lw_p3 : lw_okq (⟨"NeededStop$Reader", "isWord", "(Ljava/lang/String;)Z"⟩, 8) := ⟨⟨by decide +kernel, by decide +kernel⟩, List.mem_of_getElem? (i := 133) (by decide +kernel), List.mem_of_getElem? (i := 443) (by decide +kernel), List.mem_of_getElem? (i := 444) (by decide +kernel)⟩
theorem lw_p4 : lw_okq (⟨"NeededStop$Reader", "canBegin", "(I)Z"⟩, 8) := ⟨⟨by decide +kernel, by decide +kernel⟩, List.mem_of_getElem? (i := 133) (by decide +kernel), List.mem_of_getElem? (i := 509) (by decide +kernel), List.mem_of_getElem? (i := 510) (by decide +kernel)⟩
theorem lw_p5 : lw_okq (⟨"NeededStop$Reader", "numberInHand", "()I"⟩, 8) := ⟨⟨by decide +kernel, by decide +kernel⟩, List.mem_of_getElem? (i := 133) (by decide +kernel), List.mem_of_getElem? (i := 515) (by decide +kernel), List.mem_of_getElem? (i := 516) (by decide +kernel)⟩
theorem lw_p6 : lw_okq (⟨"NeededStop$Reader", "canStand", "(II)Z"⟩, 8) := ⟨⟨by decide +kernel, by decide +kernel⟩, List.mem_of_getElem? (i := 133) (by decide +kernel), List.mem_of_getElem? (i := 519) (by decide +kernel), List.mem_of_getElem? (i := 520) (by decide +kernel)⟩
theorem lw_p7 : lw_okq (⟨"NeededStop$Reader", "canStandInTram", "(II)Z"⟩, 8) := ⟨⟨by decide +kernel, by decide +kernel⟩, List.mem_of_getElem? (i := 133) (by decide +kernel), List.mem_of_getElem? (i := 526) (by decide +kernel), List.mem_of_getElem? (i := 527) (by decide +kernel)⟩
theorem lw_p8 : lw_okq (⟨"NeededStop$Reader", "canStandInFolk", "(II)Z"⟩, 8) := ⟨⟨by decide +kernel, by decide +kernel⟩, List.mem_of_getElem? (i := 133) (by decide +kernel), List.mem_of_getElem? (i := 534) (by decide +kernel), List.mem_of_getElem? (i := 535) (by decide +kernel)⟩
theorem lw_p9 : lw_okq (⟨"NeededStop$Reader", "doLine", "(I)V"⟩, 8) := ⟨⟨by decide +kernel, by decide +kernel⟩, List.mem_of_getElem? (i := 133) (by decide +kernel), List.mem_of_getElem? (i := 542) (by decide +kernel), List.mem_of_getElem? (i := 543) (by decide +kernel)⟩
theorem lw_p10 : lw_okq (⟨"NeededStop", "dropWhatDependsOnMoods", "()V"⟩, 9) := ⟨⟨by decide +kernel, by decide +kernel⟩, List.mem_of_getElem? (i := 19) (by decide +kernel), List.mem_of_getElem? (i := 578) (by decide +kernel), List.mem_of_getElem? (i := 579) (by decide +kernel)⟩
theorem lw_p11 : lw_okq (⟨"NeededStop$Day", "dropStaleCauses", "()V"⟩, 15) := ⟨⟨by decide +kernel, by decide +kernel⟩, List.mem_of_getElem? (i := 169) (by decide +kernel), List.mem_of_getElem? (i := 618) (by decide +kernel), List.mem_of_getElem? (i := 619) (by decide +kernel)⟩
theorem lw_p12 : lw_okq (⟨"NeededStop$Day", "feelMoods", "()V"⟩, 15) := ⟨⟨by decide +kernel, by decide +kernel⟩, List.mem_of_getElem? (i := 169) (by decide +kernel), List.mem_of_getElem? (i := 622) (by decide +kernel), List.mem_of_getElem? (i := 623) (by decide +kernel)⟩
theorem lw_p13 : lw_okq (⟨"NeededStop$Day", "feelMood", "(II)V"⟩, 15) := ⟨⟨by decide +kernel, by decide +kernel⟩, List.mem_of_getElem? (i := 169) (by decide +kernel), List.mem_of_getElem? (i := 635) (by decide +kernel), List.mem_of_getElem? (i := 636) (by decide +kernel)⟩
theorem lw_p14 : lw_okq (⟨"NeededStop$Day", "runTram", "(I)V"⟩, 15) := ⟨⟨by decide +kernel, by decide +kernel⟩, List.mem_of_getElem? (i := 169) (by decide +kernel), List.mem_of_getElem? (i := 644) (by decide +kernel), List.mem_of_getElem? (i := 645) (by decide +kernel)⟩
theorem lw_p15 : lw_okq (⟨"NeededStop$Day", "eldestCause", "(I)I"⟩, 15) := ⟨⟨by decide +kernel, by decide +kernel⟩, List.mem_of_getElem? (i := 169) (by decide +kernel), List.mem_of_getElem? (i := 648) (by decide +kernel), List.mem_of_getElem? (i := 649) (by decide +kernel)⟩
def lw_privs_1 : List (MethodName × Nat) := [(⟨"NeededStop$Reader", "takeToken", "()V"⟩, 8), (⟨"NeededStop$Reader", "readLine", "()V"⟩, 8), (⟨"NeededStop$Reader", "wordInHand", "()I"⟩, 8), (⟨"NeededStop$Reader", "isWord", "(Ljava/lang/String;)Z"⟩, 8), (⟨"NeededStop$Reader", "canBegin", "(I)Z"⟩, 8), (⟨"NeededStop$Reader", "numberInHand", "()I"⟩, 8), (⟨"NeededStop$Reader", "canStand", "(II)Z"⟩, 8), (⟨"NeededStop$Reader", "canStandInTram", "(II)Z"⟩, 8), (⟨"NeededStop$Reader", "canStandInFolk", "(II)Z"⟩, 8), (⟨"NeededStop$Reader", "doLine", "(I)V"⟩, 8), (⟨"NeededStop", "dropWhatDependsOnMoods", "()V"⟩, 9), (⟨"NeededStop$Day", "dropStaleCauses", "()V"⟩, 15), (⟨"NeededStop$Day", "feelMoods", "()V"⟩, 15), (⟨"NeededStop$Day", "feelMood", "(II)V"⟩, 15), (⟨"NeededStop$Day", "runTram", "(I)V"⟩, 15), (⟨"NeededStop$Day", "eldestCause", "(I)I"⟩, 15)]
theorem lw_r1 : ∀ q ∈ lw_privs_1, lw_okq q := List.forall_mem_cons.mpr ⟨lw_p0, List.forall_mem_cons.mpr ⟨lw_p1, List.forall_mem_cons.mpr ⟨lw_p2, List.forall_mem_cons.mpr ⟨lw_p3, List.forall_mem_cons.mpr ⟨lw_p4, List.forall_mem_cons.mpr ⟨lw_p5, List.forall_mem_cons.mpr ⟨lw_p6, List.forall_mem_cons.mpr ⟨lw_p7, List.forall_mem_cons.mpr ⟨lw_p8, List.forall_mem_cons.mpr ⟨lw_p9, List.forall_mem_cons.mpr ⟨lw_p10, List.forall_mem_cons.mpr ⟨lw_p11, List.forall_mem_cons.mpr ⟨lw_p12, List.forall_mem_cons.mpr ⟨lw_p13, List.forall_mem_cons.mpr ⟨lw_p14, List.forall_mem_cons.mpr ⟨lw_p15, fun _ h => absurd h List.not_mem_nil⟩⟩⟩⟩⟩⟩⟩⟩⟩⟩⟩⟩⟩⟩⟩⟩
theorem lw_p16 : lw_okq (⟨"NeededStop$Day", "moveOn", "(I)V"⟩, 15) := ⟨⟨by decide +kernel, by decide +kernel⟩, List.mem_of_getElem? (i := 169) (by decide +kernel), List.mem_of_getElem? (i := 652) (by decide +kernel), List.mem_of_getElem? (i := 653) (by decide +kernel)⟩
theorem lw_p17 : lw_okq (⟨"NeededStop$Day", "letOff", "(I)V"⟩, 15) := ⟨⟨by decide +kernel, by decide +kernel⟩, List.mem_of_getElem? (i := 169) (by decide +kernel), List.mem_of_getElem? (i := 660) (by decide +kernel), List.mem_of_getElem? (i := 661) (by decide +kernel)⟩
theorem lw_p18 : lw_okq (⟨"NeededStop$Day", "letOn", "(I)V"⟩, 15) := ⟨⟨by decide +kernel, by decide +kernel⟩, List.mem_of_getElem? (i := 169) (by decide +kernel), List.mem_of_getElem? (i := 664) (by decide +kernel), List.mem_of_getElem? (i := 665) (by decide +kernel)⟩
theorem lw_p19 : lw_okq (⟨"NeededStop", "foretellDay", "(I)V"⟩, 9) := ⟨⟨by decide +kernel, by decide +kernel⟩, List.mem_of_getElem? (i := 19) (by decide +kernel), List.mem_of_getElem? (i := 715) (by decide +kernel), List.mem_of_getElem? (i := 716) (by decide +kernel)⟩
theorem lw_p20 : lw_okq (⟨"NeededStop$Feigning", "tryNone", "()V"⟩, 13) := ⟨⟨by decide +kernel, by decide +kernel⟩, List.mem_of_getElem? (i := 262) (by decide +kernel), List.mem_of_getElem? (i := 728) (by decide +kernel), List.mem_of_getElem? (i := 729) (by decide +kernel)⟩
theorem lw_p21 : lw_okq (⟨"NeededStop$Feigning", "take", "(LNeededStop$Day;III)V"⟩, 13) := ⟨⟨by decide +kernel, by decide +kernel⟩, List.mem_of_getElem? (i := 262) (by decide +kernel), List.mem_of_getElem? (i := 733) (by decide +kernel), List.mem_of_getElem? (i := 734) (by decide +kernel)⟩
theorem lw_p22 : lw_okq (⟨"NeededStop$Feigning", "tryOne", "()V"⟩, 13) := ⟨⟨by decide +kernel, by decide +kernel⟩, List.mem_of_getElem? (i := 262) (by decide +kernel), List.mem_of_getElem? (i := 738) (by decide +kernel), List.mem_of_getElem? (i := 739) (by decide +kernel)⟩
theorem lw_p23 : lw_okq (⟨"NeededStop$Feigning", "tryTwo", "()V"⟩, 13) := ⟨⟨by decide +kernel, by decide +kernel⟩, List.mem_of_getElem? (i := 262) (by decide +kernel), List.mem_of_getElem? (i := 752) (by decide +kernel), List.mem_of_getElem? (i := 753) (by decide +kernel)⟩
theorem lw_p24 : lw_okq (⟨"NeededStop$Day", "lateness", "(I)I"⟩, 15) := ⟨⟨by decide +kernel, by decide +kernel⟩, List.mem_of_getElem? (i := 169) (by decide +kernel), List.mem_of_getElem? (i := 764) (by decide +kernel), List.mem_of_getElem? (i := 765) (by decide +kernel)⟩
theorem lw_p25 : lw_okq (⟨"NeededStop$ReadBack", "lastSeen", "()I"⟩, 9) := ⟨⟨by decide +kernel, by decide +kernel⟩, List.mem_of_getElem? (i := 318) (by decide +kernel), List.mem_of_getElem? (i := 824) (by decide +kernel), List.mem_of_getElem? (i := 825) (by decide +kernel)⟩
theorem lw_p26 : lw_okq (⟨"NeededStop$ReadBack", "fits", "(III)Z"⟩, 9) := ⟨⟨by decide +kernel, by decide +kernel⟩, List.mem_of_getElem? (i := 318) (by decide +kernel), List.mem_of_getElem? (i := 831) (by decide +kernel), List.mem_of_getElem? (i := 832) (by decide +kernel)⟩
theorem lw_p27 : lw_okq (⟨"NeededStop$ReadBack", "addLaw", "(II)V"⟩, 9) := ⟨⟨by decide +kernel, by decide +kernel⟩, List.mem_of_getElem? (i := 318) (by decide +kernel), List.mem_of_getElem? (i := 841) (by decide +kernel), List.mem_of_getElem? (i := 842) (by decide +kernel)⟩
theorem lw_p28 : lw_okq (⟨"NeededStopModel", "begin", "()V"⟩, 37) := ⟨⟨by decide +kernel, by decide +kernel⟩, List.mem_of_getElem? (i := 853) (by decide +kernel), List.mem_of_getElem? (i := 859) (by decide +kernel), List.mem_of_getElem? (i := 860) (by decide +kernel)⟩
theorem lw_p29 : lw_okq (⟨"NeededStopModel", "isRead", "()Z"⟩, 37) := ⟨⟨by decide +kernel, by decide +kernel⟩, List.mem_of_getElem? (i := 853) (by decide +kernel), List.mem_of_getElem? (i := 991) (by decide +kernel), List.mem_of_getElem? (i := 992) (by decide +kernel)⟩
theorem lw_p30 : lw_okq (⟨"NeededStopModel", "isLine", "(I)Z"⟩, 37) := ⟨⟨by decide +kernel, by decide +kernel⟩, List.mem_of_getElem? (i := 853) (by decide +kernel), List.mem_of_getElem? (i := 995) (by decide +kernel), List.mem_of_getElem? (i := 996) (by decide +kernel)⟩
theorem lw_p31 : lw_okq (⟨"NeededStopModel", "nextToken", "()V"⟩, 37) := ⟨⟨by decide +kernel, by decide +kernel⟩, List.mem_of_getElem? (i := 853) (by decide +kernel), List.mem_of_getElem? (i := 999) (by decide +kernel), List.mem_of_getElem? (i := 1000) (by decide +kernel)⟩
def lw_privs_2 : List (MethodName × Nat) := [(⟨"NeededStop$Day", "moveOn", "(I)V"⟩, 15), (⟨"NeededStop$Day", "letOff", "(I)V"⟩, 15), (⟨"NeededStop$Day", "letOn", "(I)V"⟩, 15), (⟨"NeededStop", "foretellDay", "(I)V"⟩, 9), (⟨"NeededStop$Feigning", "tryNone", "()V"⟩, 13), (⟨"NeededStop$Feigning", "take", "(LNeededStop$Day;III)V"⟩, 13), (⟨"NeededStop$Feigning", "tryOne", "()V"⟩, 13), (⟨"NeededStop$Feigning", "tryTwo", "()V"⟩, 13), (⟨"NeededStop$Day", "lateness", "(I)I"⟩, 15), (⟨"NeededStop$ReadBack", "lastSeen", "()I"⟩, 9), (⟨"NeededStop$ReadBack", "fits", "(III)Z"⟩, 9), (⟨"NeededStop$ReadBack", "addLaw", "(II)V"⟩, 9), (⟨"NeededStopModel", "begin", "()V"⟩, 37), (⟨"NeededStopModel", "isRead", "()Z"⟩, 37), (⟨"NeededStopModel", "isLine", "(I)Z"⟩, 37), (⟨"NeededStopModel", "nextToken", "()V"⟩, 37)]
theorem lw_r2 : ∀ q ∈ lw_privs_2, lw_okq q := List.forall_mem_cons.mpr ⟨lw_p16, List.forall_mem_cons.mpr ⟨lw_p17, List.forall_mem_cons.mpr ⟨lw_p18, List.forall_mem_cons.mpr ⟨lw_p19, List.forall_mem_cons.mpr ⟨lw_p20, List.forall_mem_cons.mpr ⟨lw_p21, List.forall_mem_cons.mpr ⟨lw_p22, List.forall_mem_cons.mpr ⟨lw_p23, List.forall_mem_cons.mpr ⟨lw_p24, List.forall_mem_cons.mpr ⟨lw_p25, List.forall_mem_cons.mpr ⟨lw_p26, List.forall_mem_cons.mpr ⟨lw_p27, List.forall_mem_cons.mpr ⟨lw_p28, List.forall_mem_cons.mpr ⟨lw_p29, List.forall_mem_cons.mpr ⟨lw_p30, List.forall_mem_cons.mpr ⟨lw_p31, fun _ h => absurd h List.not_mem_nil⟩⟩⟩⟩⟩⟩⟩⟩⟩⟩⟩⟩⟩⟩⟩⟩
theorem lw_p32 : lw_okq (⟨"NeededStopModel", "isRail", "(I)Z"⟩, 37) := ⟨⟨by decide +kernel, by decide +kernel⟩, List.mem_of_getElem? (i := 853) (by decide +kernel), List.mem_of_getElem? (i := 1019) (by decide +kernel), List.mem_of_getElem? (i := 1020) (by decide +kernel)⟩
theorem lw_p33 : lw_okq (⟨"NeededStopModel", "isNumber", "(III)Z"⟩, 37) := ⟨⟨by decide +kernel, by decide +kernel⟩, List.mem_of_getElem? (i := 853) (by decide +kernel), List.mem_of_getElem? (i := 1023) (by decide +kernel), List.mem_of_getElem? (i := 1024) (by decide +kernel)⟩
theorem lw_p34 : lw_okq (⟨"NeededStopModel", "fails", "()Z"⟩, 37) := ⟨⟨by decide +kernel, by decide +kernel⟩, List.mem_of_getElem? (i := 853) (by decide +kernel), List.mem_of_getElem? (i := 1027) (by decide +kernel), List.mem_of_getElem? (i := 1028) (by decide +kernel)⟩
theorem lw_p35 : lw_okq (⟨"NeededStopModel", "isFolk", "(I)Z"⟩, 37) := ⟨⟨by decide +kernel, by decide +kernel⟩, List.mem_of_getElem? (i := 853) (by decide +kernel), List.mem_of_getElem? (i := 1031) (by decide +kernel), List.mem_of_getElem? (i := 1032) (by decide +kernel)⟩
theorem lw_p36 : lw_okq (⟨"NeededStopModel", "isMood", "(I)Z"⟩, 37) := ⟨⟨by decide +kernel, by decide +kernel⟩, List.mem_of_getElem? (i := 853) (by decide +kernel), List.mem_of_getElem? (i := 1035) (by decide +kernel), List.mem_of_getElem? (i := 1036) (by decide +kernel)⟩
theorem lw_p37 : lw_okq (⟨"NeededStopModel", "doLine", "(I)V"⟩, 37) := ⟨⟨by decide +kernel, by decide +kernel⟩, List.mem_of_getElem? (i := 853) (by decide +kernel), List.mem_of_getElem? (i := 1046) (by decide +kernel), List.mem_of_getElem? (i := 1047) (by decide +kernel)⟩
theorem lw_p38 : lw_okq (⟨"NeededStopModel", "addMood", "(III)V"⟩, 37) := ⟨⟨by decide +kernel, by decide +kernel⟩, List.mem_of_getElem? (i := 853) (by decide +kernel), List.mem_of_getElem? (i := 1050) (by decide +kernel), List.mem_of_getElem? (i := 1051) (by decide +kernel)⟩
theorem lw_p39 : lw_okq (⟨"NeededStopModel", "personOf", "(I)I"⟩, 37) := ⟨⟨by decide +kernel, by decide +kernel⟩, List.mem_of_getElem? (i := 853) (by decide +kernel), List.mem_of_getElem? (i := 1066) (by decide +kernel), List.mem_of_getElem? (i := 1067) (by decide +kernel)⟩
theorem lw_p40 : lw_okq (⟨"NeededStopModel", "asTold", "()V"⟩, 37) := ⟨⟨by decide +kernel, by decide +kernel⟩, List.mem_of_getElem? (i := 853) (by decide +kernel), List.mem_of_getElem? (i := 1074) (by decide +kernel), List.mem_of_getElem? (i := 1075) (by decide +kernel)⟩
theorem lw_p41 : lw_okq (⟨"NeededStopModel", "goMinute", "()V"⟩, 37) := ⟨⟨by decide +kernel, by decide +kernel⟩, List.mem_of_getElem? (i := 853) (by decide +kernel), List.mem_of_getElem? (i := 1078) (by decide +kernel), List.mem_of_getElem? (i := 1079) (by decide +kernel)⟩
theorem lw_p42 : lw_okq (⟨"NeededStopModel", "placeNow", "(I)I"⟩, 37) := ⟨⟨by decide +kernel, by decide +kernel⟩, List.mem_of_getElem? (i := 853) (by decide +kernel), List.mem_of_getElem? (i := 1082) (by decide +kernel), List.mem_of_getElem? (i := 1083) (by decide +kernel)⟩
theorem lw_p43 : lw_okq (⟨"NeededStopModel", "causeOf", "(I)I"⟩, 37) := ⟨⟨by decide +kernel, by decide +kernel⟩, List.mem_of_getElem? (i := 853) (by decide +kernel), List.mem_of_getElem? (i := 1086) (by decide +kernel), List.mem_of_getElem? (i := 1087) (by decide +kernel)⟩
theorem lw_p44 : lw_okq (⟨"NeededStopModel", "goOn", "(I)V"⟩, 37) := ⟨⟨by decide +kernel, by decide +kernel⟩, List.mem_of_getElem? (i := 853) (by decide +kernel), List.mem_of_getElem? (i := 1090) (by decide +kernel), List.mem_of_getElem? (i := 1091) (by decide +kernel)⟩
theorem lw_p45 : lw_okq (⟨"NeededStopModel", "haltBy", "(II)V"⟩, 37) := ⟨⟨by decide +kernel, by decide +kernel⟩, List.mem_of_getElem? (i := 853) (by decide +kernel), List.mem_of_getElem? (i := 1094) (by decide +kernel), List.mem_of_getElem? (i := 1095) (by decide +kernel)⟩
theorem lw_p46 : lw_okq (⟨"NeededStopModel", "haltMany", "()I"⟩, 37) := ⟨⟨by decide +kernel, by decide +kernel⟩, List.mem_of_getElem? (i := 853) (by decide +kernel), List.mem_of_getElem? (i := 1098) (by decide +kernel), List.mem_of_getElem? (i := 1099) (by decide +kernel)⟩
theorem lw_p47 : lw_okq (⟨"NeededStopModel", "isTram", "(I)Z"⟩, 37) := ⟨⟨by decide +kernel, by decide +kernel⟩, List.mem_of_getElem? (i := 853) (by decide +kernel), List.mem_of_getElem? (i := 1106) (by decide +kernel), List.mem_of_getElem? (i := 1107) (by decide +kernel)⟩
def lw_privs_3 : List (MethodName × Nat) := [(⟨"NeededStopModel", "isRail", "(I)Z"⟩, 37), (⟨"NeededStopModel", "isNumber", "(III)Z"⟩, 37), (⟨"NeededStopModel", "fails", "()Z"⟩, 37), (⟨"NeededStopModel", "isFolk", "(I)Z"⟩, 37), (⟨"NeededStopModel", "isMood", "(I)Z"⟩, 37), (⟨"NeededStopModel", "doLine", "(I)V"⟩, 37), (⟨"NeededStopModel", "addMood", "(III)V"⟩, 37), (⟨"NeededStopModel", "personOf", "(I)I"⟩, 37), (⟨"NeededStopModel", "asTold", "()V"⟩, 37), (⟨"NeededStopModel", "goMinute", "()V"⟩, 37), (⟨"NeededStopModel", "placeNow", "(I)I"⟩, 37), (⟨"NeededStopModel", "causeOf", "(I)I"⟩, 37), (⟨"NeededStopModel", "goOn", "(I)V"⟩, 37), (⟨"NeededStopModel", "haltBy", "(II)V"⟩, 37), (⟨"NeededStopModel", "haltMany", "()I"⟩, 37), (⟨"NeededStopModel", "isTram", "(I)Z"⟩, 37)]
theorem lw_r3 : ∀ q ∈ lw_privs_3, lw_okq q := List.forall_mem_cons.mpr ⟨lw_p32, List.forall_mem_cons.mpr ⟨lw_p33, List.forall_mem_cons.mpr ⟨lw_p34, List.forall_mem_cons.mpr ⟨lw_p35, List.forall_mem_cons.mpr ⟨lw_p36, List.forall_mem_cons.mpr ⟨lw_p37, List.forall_mem_cons.mpr ⟨lw_p38, List.forall_mem_cons.mpr ⟨lw_p39, List.forall_mem_cons.mpr ⟨lw_p40, List.forall_mem_cons.mpr ⟨lw_p41, List.forall_mem_cons.mpr ⟨lw_p42, List.forall_mem_cons.mpr ⟨lw_p43, List.forall_mem_cons.mpr ⟨lw_p44, List.forall_mem_cons.mpr ⟨lw_p45, List.forall_mem_cons.mpr ⟨lw_p46, List.forall_mem_cons.mpr ⟨lw_p47, fun _ h => absurd h List.not_mem_nil⟩⟩⟩⟩⟩⟩⟩⟩⟩⟩⟩⟩⟩⟩⟩⟩
theorem lw_p48 : lw_okq (⟨"NeededStopModel", "isPerson", "(I)Z"⟩, 37) := ⟨⟨by decide +kernel, by decide +kernel⟩, List.mem_of_getElem? (i := 853) (by decide +kernel), List.mem_of_getElem? (i := 1114) (by decide +kernel), List.mem_of_getElem? (i := 1115) (by decide +kernel)⟩
theorem lw_p49 : lw_okq (⟨"NeededStopModel", "goDay", "()V"⟩, 37) := ⟨⟨by decide +kernel, by decide +kernel⟩, List.mem_of_getElem? (i := 853) (by decide +kernel), List.mem_of_getElem? (i := 1137) (by decide +kernel), List.mem_of_getElem? (i := 1138) (by decide +kernel)⟩
theorem lw_p50 : lw_okq (⟨"NeededStopModel", "putBack", "()V"⟩, 37) := ⟨⟨by decide +kernel, by decide +kernel⟩, List.mem_of_getElem? (i := 853) (by decide +kernel), List.mem_of_getElem? (i := 1141) (by decide +kernel), List.mem_of_getElem? (i := 1142) (by decide +kernel)⟩
theorem lw_p51 : lw_okq (⟨"NeededStopModel", "tryFeigned", "(IIII)V"⟩, 37) := ⟨⟨by decide +kernel, by decide +kernel⟩, List.mem_of_getElem? (i := 853) (by decide +kernel), List.mem_of_getElem? (i := 1149) (by decide +kernel), List.mem_of_getElem? (i := 1150) (by decide +kernel)⟩
theorem lw_p52 : lw_okq (⟨"NeededStopModel", "late", "(I)I"⟩, 37) := ⟨⟨by decide +kernel, by decide +kernel⟩, List.mem_of_getElem? (i := 853) (by decide +kernel), List.mem_of_getElem? (i := 1153) (by decide +kernel), List.mem_of_getElem? (i := 1154) (by decide +kernel)⟩
theorem lw_p53 : lw_okq (⟨"NeededStopModel", "isPlace", "(I)Z"⟩, 37) := ⟨⟨by decide +kernel, by decide +kernel⟩, List.mem_of_getElem? (i := 853) (by decide +kernel), List.mem_of_getElem? (i := 1165) (by decide +kernel), List.mem_of_getElem? (i := 1166) (by decide +kernel)⟩
theorem lw_p54 : lw_okq (⟨"NeededStopModel", "wornAt", "(I)I"⟩, 37) := ⟨⟨by decide +kernel, by decide +kernel⟩, List.mem_of_getElem? (i := 853) (by decide +kernel), List.mem_of_getElem? (i := 1169) (by decide +kernel), List.mem_of_getElem? (i := 1170) (by decide +kernel)⟩
theorem lw_p55 : lw_okq (⟨"NeededStopModel", "layLaws", "()V"⟩, 37) := ⟨⟨by decide +kernel, by decide +kernel⟩, List.mem_of_getElem? (i := 853) (by decide +kernel), List.mem_of_getElem? (i := 1200) (by decide +kernel), List.mem_of_getElem? (i := 1201) (by decide +kernel)⟩
theorem lw_p56 : lw_okq (⟨"NeededStopModel", "areSeen", "()Z"⟩, 37) := ⟨⟨by decide +kernel, by decide +kernel⟩, List.mem_of_getElem? (i := 853) (by decide +kernel), List.mem_of_getElem? (i := 1204) (by decide +kernel), List.mem_of_getElem? (i := 1205) (by decide +kernel)⟩
def lw_privs_4 : List (MethodName × Nat) := [(⟨"NeededStopModel", "isPerson", "(I)Z"⟩, 37), (⟨"NeededStopModel", "goDay", "()V"⟩, 37), (⟨"NeededStopModel", "putBack", "()V"⟩, 37), (⟨"NeededStopModel", "tryFeigned", "(IIII)V"⟩, 37), (⟨"NeededStopModel", "late", "(I)I"⟩, 37), (⟨"NeededStopModel", "isPlace", "(I)Z"⟩, 37), (⟨"NeededStopModel", "wornAt", "(I)I"⟩, 37), (⟨"NeededStopModel", "layLaws", "()V"⟩, 37), (⟨"NeededStopModel", "areSeen", "()Z"⟩, 37)]
theorem lw_r4 : ∀ q ∈ lw_privs_4, lw_okq q := List.forall_mem_cons.mpr ⟨lw_p48, List.forall_mem_cons.mpr ⟨lw_p49, List.forall_mem_cons.mpr ⟨lw_p50, List.forall_mem_cons.mpr ⟨lw_p51, List.forall_mem_cons.mpr ⟨lw_p52, List.forall_mem_cons.mpr ⟨lw_p53, List.forall_mem_cons.mpr ⟨lw_p54, List.forall_mem_cons.mpr ⟨lw_p55, List.forall_mem_cons.mpr ⟨lw_p56, fun _ h => absurd h List.not_mem_nil⟩⟩⟩⟩⟩⟩⟩⟩⟩
def lw_privs : List (MethodName × Nat) := lw_privs_1 ++ (lw_privs_2 ++ (lw_privs_3 ++ (lw_privs_4)))
def lw_tbl : List Cond := k2_sels lw_privs ++ tables_1
theorem lw_privs_ok : ∀ q ∈ lw_privs, lw_okq q := by
  show ∀ q ∈ lw_privs_1 ++ (lw_privs_2 ++ (lw_privs_3 ++ (lw_privs_4))), lw_okq q
  exact List.forall_mem_append.mpr ⟨lw_r1, List.forall_mem_append.mpr ⟨lw_r2, List.forall_mem_append.mpr ⟨lw_r3, lw_r4⟩⟩⟩
end
section
def RX0 : String := "NeededStop$Day"
def TX0 : u_T := fun k => match k with
  | 0 => ("NeededStop$Day", "told", "LNeededStop$Told;", true)
  | 1 => ("NeededStop$Day", "kinds", "I", false)
  | 2 => ("NeededStop$Day", "span", "I", false)
  | 3 => ("NeededStop$Day", "gone", "I", false)
  | 4 => ("NeededStop$Day", "tramAt", "[I", true)
  | 5 => ("NeededStop$Day", "way", "[I", true)
  | 6 => ("NeededStop$Day", "aboard", "[I", true)
  | 7 => ("NeededStop$Day", "halted", "I", false)
  | 8 => ("NeededStop$Day", "homed", "[I", true)
  | 9 => ("NeededStop$Day", "owed", "[I", true)
  | 10 => ("NeededStop$Day", "feltAt", "[I", true)
  | 11 => ("NeededStop$Day", "causesAt", "[I", true)
  | 12 => ("NeededStop$Day", "live", "I", false)
  | 13 => ("NeededStop$Day", "spent", "I", false)
  | _ => ("NeededStop$Day", "halts", "LNeededStop$Halts;", true)
def tyX0 : Nat → FieldType := fun k => match k with
  | 0 => .object "NeededStop$Told"
  | 1 => .int
  | 2 => .int
  | 3 => .int
  | 4 => .array .int
  | 5 => .array .int
  | 6 => .array .int
  | 7 => .int
  | 8 => .array .int
  | 9 => .array .int
  | 10 => .array .int
  | 11 => .array .int
  | 12 => .int
  | 13 => .int
  | _ => .object "NeededStop$Halts"
theorem nmX0 : ∀ a, a < 15 → ∀ b, b < 15 → a ≠ b → (TX0 a).2.1 ≠ (TX0 b).2.1 := by decide +kernel
theorem tyX0_ok : ∀ k, k < 15 → parseFieldDescriptor (TX0 k).2.2.1 = some (tyX0 k) := by decide +kernel
abbrev cX0_init : ByteArray := prog_2_method_1_code
def yX0_init : MethodName := ⟨RX0, "<init>", "(LNeededStop$Told;)V"⟩
abbrev cX0_begin : ByteArray := prog_2_method_2_code
def yX0_begin : MethodName := ⟨RX0, "begin", "(II)V"⟩
abbrev cX0_copyFrom : ByteArray := prog_2_method_3_code
def yX0_copyFrom : MethodName := ⟨RX0, "copyFrom", "(LNeededStop$Day;)V"⟩
abbrev cX0_runTo : ByteArray := prog_2_method_4_code
def yX0_runTo : MethodName := ⟨RX0, "runTo", "(I)V"⟩
abbrev cX0_passMinute : ByteArray := prog_2_method_5_code
def yX0_passMinute : MethodName := ⟨RX0, "passMinute", "()V"⟩
abbrev cX0_dropStaleCauses : ByteArray := prog_2_method_6_code
def yX0_dropStaleCauses : MethodName := ⟨RX0, "dropStaleCauses", "()V"⟩
abbrev cX0_feelMoods : ByteArray := prog_2_method_7_code
def yX0_feelMoods : MethodName := ⟨RX0, "feelMoods", "()V"⟩
abbrev cX0_feelMood : ByteArray := prog_2_method_8_code
def yX0_feelMood : MethodName := ⟨RX0, "feelMood", "(II)V"⟩
abbrev cX0_runTram : ByteArray := prog_2_method_9_code
def yX0_runTram : MethodName := ⟨RX0, "runTram", "(I)V"⟩
abbrev cX0_eldestCause : ByteArray := prog_2_method_10_code
def yX0_eldestCause : MethodName := ⟨RX0, "eldestCause", "(I)I"⟩
abbrev cX0_letOff : ByteArray := prog_2_method_11_code
def yX0_letOff : MethodName := ⟨RX0, "letOff", "(I)V"⟩
abbrev cX0_letOn : ByteArray := prog_2_method_12_code
def yX0_letOn : MethodName := ⟨RX0, "letOn", "(I)V"⟩
abbrev cX0_moveOn : ByteArray := prog_2_method_13_code
def yX0_moveOn : MethodName := ⟨RX0, "moveOn", "(I)V"⟩
abbrev cX0_tramOf : ByteArray := prog_2_method_14_code
def yX0_tramOf : MethodName := ⟨RX0, "tramOf", "(I)I"⟩
abbrev cX0_placeOf : ByteArray := prog_2_method_15_code
def yX0_placeOf : MethodName := ⟨RX0, "placeOf", "(I)I"⟩
abbrev cX0_lateness : ByteArray := prog_2_method_16_code
def yX0_lateness : MethodName := ⟨RX0, "lateness", "(I)I"⟩
abbrev cX0_lateOf : ByteArray := prog_2_method_17_code
def yX0_lateOf : MethodName := ⟨RX0, "lateOf", "(I)I"⟩
abbrev cX0_lateOfAll : ByteArray := prog_2_method_18_code
def yX0_lateOfAll : MethodName := ⟨RX0, "lateOfAll", "()I"⟩
def RX1 : String := "NeededStop$Feigning"
def TX1 : u_T := fun k => match k with
  | 0 => ("NeededStop$Feigning", "told", "LNeededStop$Told;", true)
  | 1 => ("NeededStop$Feigning", "plan", "LNeededStop$Told;", true)
  | 2 => ("NeededStop$Feigning", "plain", "LNeededStop$Day;", true)
  | 3 => ("NeededStop$Feigning", "once", "LNeededStop$Day;", true)
  | 4 => ("NeededStop$Feigning", "twice", "LNeededStop$Day;", true)
  | 5 => ("NeededStop$Feigning", "known", "Z", false)
  | 6 => ("NeededStop$Feigning", "person", "I", false)
  | 7 => ("NeededStop$Feigning", "most", "I", false)
  | 8 => ("NeededStop$Feigning", "limit", "I", false)
  | 9 => ("NeededStop$Feigning", "homed", "I", false)
  | 10 => ("NeededStop$Feigning", "used", "I", false)
  | 11 => ("NeededStop$Feigning", "first", "I", false)
  | _ => ("NeededStop$Feigning", "second", "I", false)
def tyX1 : Nat → FieldType := fun k => match k with
  | 0 => .object "NeededStop$Told"
  | 1 => .object "NeededStop$Told"
  | 2 => .object "NeededStop$Day"
  | 3 => .object "NeededStop$Day"
  | 4 => .object "NeededStop$Day"
  | 5 => .boolean
  | 6 => .int
  | 7 => .int
  | 8 => .int
  | 9 => .int
  | 10 => .int
  | 11 => .int
  | _ => .int
theorem nmX1 : ∀ a, a < 13 → ∀ b, b < 13 → a ≠ b → (TX1 a).2.1 ≠ (TX1 b).2.1 := by decide +kernel
theorem tyX1_ok : ∀ k, k < 13 → parseFieldDescriptor (TX1 k).2.2.1 = some (tyX1 k) := by decide +kernel
abbrev cX1_init : ByteArray := prog_3_method_1_code
def yX1_init : MethodName := ⟨RX1, "<init>", "(LNeededStop$Told;)V"⟩
abbrev cX1_search : ByteArray := prog_3_method_2_code
def yX1_search : MethodName := ⟨RX1, "search", "(II)V"⟩
abbrev cX1_tryNone : ByteArray := prog_3_method_3_code
def yX1_tryNone : MethodName := ⟨RX1, "tryNone", "()V"⟩
abbrev cX1_tryOne : ByteArray := prog_3_method_4_code
def yX1_tryOne : MethodName := ⟨RX1, "tryOne", "()V"⟩
abbrev cX1_tryTwo : ByteArray := prog_3_method_5_code
def yX1_tryTwo : MethodName := ⟨RX1, "tryTwo", "()V"⟩
abbrev cX1_take : ByteArray := prog_3_method_6_code
def yX1_take : MethodName := ⟨RX1, "take", "(LNeededStop$Day;III)V"⟩
def RX2 : String := "NeededStop$Halts"
def TX2 : u_T := fun k => match k with
  | 0 => ("NeededStop$Halts", "tram", "[I", true)
  | 1 => ("NeededStop$Halts", "place", "[I", true)
  | 2 => ("NeededStop$Halts", "minute", "[I", true)
  | 3 => ("NeededStop$Halts", "mood", "[I", true)
  | _ => ("NeededStop$Halts", "size", "I", false)
def tyX2 : Nat → FieldType := fun k => match k with
  | 0 => .array .int
  | 1 => .array .int
  | 2 => .array .int
  | 3 => .array .int
  | _ => .int
theorem nmX2 : ∀ a, a < 5 → ∀ b, b < 5 → a ≠ b → (TX2 a).2.1 ≠ (TX2 b).2.1 := by decide +kernel
theorem tyX2_ok : ∀ k, k < 5 → parseFieldDescriptor (TX2 k).2.2.1 = some (tyX2 k) := by decide +kernel
abbrev cX2_init : ByteArray := prog_4_method_1_code
def yX2_init : MethodName := ⟨RX2, "<init>", "()V"⟩
abbrev cX2_add : ByteArray := prog_4_method_2_code
def yX2_add : MethodName := ⟨RX2, "add", "(IIII)V"⟩
abbrev cX2_copyFrom : ByteArray := prog_4_method_3_code
def yX2_copyFrom : MethodName := ⟨RX2, "copyFrom", "(LNeededStop$Halts;)V"⟩
abbrev cX2_ofTram : ByteArray := prog_4_method_4_code
def yX2_ofTram : MethodName := ⟨RX2, "ofTram", "(I)I"⟩
abbrev cX2_atPlace : ByteArray := prog_4_method_5_code
def yX2_atPlace : MethodName := ⟨RX2, "atPlace", "(I)I"⟩
abbrev cX2_has : ByteArray := prog_4_method_6_code
def yX2_has : MethodName := ⟨RX2, "has", "(II)Z"⟩
def RX3 : String := "NeededStop$ReadBack"
def TX3 : u_T := fun k => match k with
  | 0 => ("NeededStop$ReadBack", "day", "LNeededStop$Day;", true)
  | 1 => ("NeededStop$ReadBack", "place", "[I", true)
  | 2 => ("NeededStop$ReadBack", "minute", "[I", true)
  | 3 => ("NeededStop$ReadBack", "size", "I", false)
  | 4 => ("NeededStop$ReadBack", "known", "Z", false)
  | 5 => ("NeededStop$ReadBack", "laws", "I", false)
  | 6 => ("NeededStop$ReadBack", "firstKinds", "I", false)
  | 7 => ("NeededStop$ReadBack", "firstSpan", "I", false)
  | _ => ("NeededStop$ReadBack", "lawsWith", "[I", true)
def tyX3 : Nat → FieldType := fun k => match k with
  | 0 => .object "NeededStop$Day"
  | 1 => .array .int
  | 2 => .array .int
  | 3 => .int
  | 4 => .boolean
  | 5 => .int
  | 6 => .int
  | 7 => .int
  | _ => .array .int
theorem nmX3 : ∀ a, a < 9 → ∀ b, b < 9 → a ≠ b → (TX3 a).2.1 ≠ (TX3 b).2.1 := by decide +kernel
theorem tyX3_ok : ∀ k, k < 9 → parseFieldDescriptor (TX3 k).2.2.1 = some (tyX3 k) := by decide +kernel
abbrev cX3_init : ByteArray := prog_5_method_1_code
def yX3_init : MethodName := ⟨RX3, "<init>", "(LNeededStop$Day;)V"⟩
abbrev cX3_add : ByteArray := prog_5_method_2_code
def yX3_add : MethodName := ⟨RX3, "add", "(II)V"⟩
abbrev cX3_clear : ByteArray := prog_5_method_3_code
def yX3_clear : MethodName := ⟨RX3, "clear", "()V"⟩
abbrev cX3_findLaws : ByteArray := prog_5_method_4_code
def yX3_findLaws : MethodName := ⟨RX3, "findLaws", "()V"⟩
abbrev cX3_lastSeen : ByteArray := prog_5_method_5_code
def yX3_lastSeen : MethodName := ⟨RX3, "lastSeen", "()I"⟩
abbrev cX3_fits : ByteArray := prog_5_method_6_code
def yX3_fits : MethodName := ⟨RX3, "fits", "(III)Z"⟩
abbrev cX3_addLaw : ByteArray := prog_5_method_7_code
def yX3_addLaw : MethodName := ⟨RX3, "addLaw", "(II)V"⟩
def RX4 : String := "NeededStop$Reader"
def TX4 : u_T := fun k => match k with
  | 0 => ("NeededStop$Reader", "text", "LNeededStop$Text;", true)
  | 1 => ("NeededStop$Reader", "told", "LNeededStop$Told;", true)
  | 2 => ("NeededStop$Reader", "plan", "LNeededStop$Told;", true)
  | 3 => ("NeededStop$Reader", "numbers", "[I", true)
  | 4 => ("NeededStop$Reader", "fault", "I", false)
  | 5 => ("NeededStop$Reader", "lines", "I", false)
  | 6 => ("NeededStop$Reader", "from", "I", false)
  | _ => ("NeededStop$Reader", "to", "I", false)
def tyX4 : Nat → FieldType := fun k => match k with
  | 0 => .object "NeededStop$Text"
  | 1 => .object "NeededStop$Told"
  | 2 => .object "NeededStop$Told"
  | 3 => .array .int
  | 4 => .int
  | 5 => .int
  | 6 => .int
  | _ => .int
theorem nmX4 : ∀ a, a < 8 → ∀ b, b < 8 → a ≠ b → (TX4 a).2.1 ≠ (TX4 b).2.1 := by decide +kernel
theorem tyX4_ok : ∀ k, k < 8 → parseFieldDescriptor (TX4 k).2.2.1 = some (tyX4 k) := by decide +kernel
abbrev cX4_init : ByteArray := prog_6_method_1_code
def yX4_init : MethodName := ⟨RX4, "<init>", "(LNeededStop$Text;LNeededStop$Told;)V"⟩
abbrev cX4_readLines : ByteArray := prog_6_method_2_code
def yX4_readLines : MethodName := ⟨RX4, "readLines", "()V"⟩
abbrev cX4_readLine : ByteArray := prog_6_method_3_code
def yX4_readLine : MethodName := ⟨RX4, "readLine", "()V"⟩
abbrev cX4_takeToken : ByteArray := prog_6_method_4_code
def yX4_takeToken : MethodName := ⟨RX4, "takeToken", "()V"⟩
abbrev cX4_isLetter : ByteArray := prog_6_method_5_code
def yX4_isLetter : MethodName := ⟨RX4, "isLetter", "(I)Z"⟩
abbrev cX4_isDigit : ByteArray := prog_6_method_6_code
def yX4_isDigit : MethodName := ⟨RX4, "isDigit", "(I)Z"⟩
abbrev cX4_wordInHand : ByteArray := prog_6_method_7_code
def yX4_wordInHand : MethodName := ⟨RX4, "wordInHand", "()I"⟩
abbrev cX4_isWord : ByteArray := prog_6_method_8_code
def yX4_isWord : MethodName := ⟨RX4, "isWord", "(Ljava/lang/String;)Z"⟩
abbrev cX4_numberInHand : ByteArray := prog_6_method_9_code
def yX4_numberInHand : MethodName := ⟨RX4, "numberInHand", "()I"⟩
abbrev cX4_canBegin : ByteArray := prog_6_method_10_code
def yX4_canBegin : MethodName := ⟨RX4, "canBegin", "(I)Z"⟩
abbrev cX4_canStand : ByteArray := prog_6_method_11_code
def yX4_canStand : MethodName := ⟨RX4, "canStand", "(II)Z"⟩
abbrev cX4_canStandInTram : ByteArray := prog_6_method_12_code
def yX4_canStandInTram : MethodName := ⟨RX4, "canStandInTram", "(II)Z"⟩
abbrev cX4_canStandInFolk : ByteArray := prog_6_method_13_code
def yX4_canStandInFolk : MethodName := ⟨RX4, "canStandInFolk", "(II)Z"⟩
abbrev cX4_isWithin : ByteArray := prog_6_method_14_code
def yX4_isWithin : MethodName := ⟨RX4, "isWithin", "(III)Z"⟩
abbrev cX4_doLine : ByteArray := prog_6_method_15_code
def yX4_doLine : MethodName := ⟨RX4, "doLine", "(I)V"⟩
def RX5 : String := "NeededStop$Text"
def TX5 : u_T := fun k => match k with
  | 0 => ("NeededStop$Text", "bytes", "[I", true)
  | _ => ("NeededStop$Text", "size", "I", false)
def tyX5 : Nat → FieldType := fun k => match k with
  | 0 => .array .int
  | _ => .int
theorem nmX5 : ∀ a, a < 2 → ∀ b, b < 2 → a ≠ b → (TX5 a).2.1 ≠ (TX5 b).2.1 := by decide +kernel
theorem tyX5_ok : ∀ k, k < 2 → parseFieldDescriptor (TX5 k).2.2.1 = some (tyX5 k) := by decide +kernel
abbrev cX5_init : ByteArray := prog_7_method_1_code
def yX5_init : MethodName := ⟨RX5, "<init>", "()V"⟩
abbrev cX5_append : ByteArray := prog_7_method_2_code
def yX5_append : MethodName := ⟨RX5, "append", "(I)V"⟩
abbrev cX5_signAt : ByteArray := prog_7_method_3_code
def yX5_signAt : MethodName := ⟨RX5, "signAt", "(I)I"⟩
abbrev cX5_spells : ByteArray := prog_7_method_4_code
def yX5_spells : MethodName := ⟨RX5, "spells", "(Ljava/lang/String;II)Z"⟩
def RX6 : String := "NeededStop$Told"
def TX6 : u_T := fun k => match k with
  | 0 => ("NeededStop$Told", "places", "I", false)
  | 1 => ("NeededStop$Told", "kinds", "I", false)
  | 2 => ("NeededStop$Told", "span", "I", false)
  | 3 => ("NeededStop$Told", "seats", "I", false)
  | 4 => ("NeededStop$Told", "fare", "I", false)
  | 5 => ("NeededStop$Told", "trams", "I", false)
  | 6 => ("NeededStop$Told", "tramPlace", "[I", true)
  | 7 => ("NeededStop$Told", "tramMinute", "[I", true)
  | 8 => ("NeededStop$Told", "tramWay", "[I", true)
  | 9 => ("NeededStop$Told", "people", "I", false)
  | 10 => ("NeededStop$Told", "begin", "[I", true)
  | 11 => ("NeededStop$Told", "home", "[I", true)
  | 12 => ("NeededStop$Told", "moods", "I", false)
  | 13 => ("NeededStop$Told", "whose", "[I", true)
  | 14 => ("NeededStop$Told", "kind", "[I", true)
  | 15 => ("NeededStop$Told", "minute", "[I", true)
  | _ => ("NeededStop$Told", "moodsOf", "[I", true)
def tyX6 : Nat → FieldType := fun k => match k with
  | 0 => .int
  | 1 => .int
  | 2 => .int
  | 3 => .int
  | 4 => .int
  | 5 => .int
  | 6 => .array .int
  | 7 => .array .int
  | 8 => .array .int
  | 9 => .int
  | 10 => .array .int
  | 11 => .array .int
  | 12 => .int
  | 13 => .array .int
  | 14 => .array .int
  | 15 => .array .int
  | _ => .array .int
theorem nmX6 : ∀ a, a < 17 → ∀ b, b < 17 → a ≠ b → (TX6 a).2.1 ≠ (TX6 b).2.1 := by decide +kernel
theorem tyX6_ok : ∀ k, k < 17 → parseFieldDescriptor (TX6 k).2.2.1 = some (tyX6 k) := by decide +kernel
abbrev cX6_init : ByteArray := prog_8_method_1_code
def yX6_init : MethodName := ⟨RX6, "<init>", "()V"⟩
abbrev cX6_copyFrom : ByteArray := prog_8_method_2_code
def yX6_copyFrom : MethodName := ⟨RX6, "copyFrom", "(LNeededStop$Told;)V"⟩
abbrev cX6_isPlace : ByteArray := prog_8_method_3_code
def yX6_isPlace : MethodName := ⟨RX6, "isPlace", "(I)Z"⟩
abbrev cX6_isTram : ByteArray := prog_8_method_4_code
def yX6_isTram : MethodName := ⟨RX6, "isTram", "(I)Z"⟩
abbrev cX6_isPerson : ByteArray := prog_8_method_5_code
def yX6_isPerson : MethodName := ⟨RX6, "isPerson", "(I)Z"⟩
abbrev cX6_layRail : ByteArray := prog_8_method_6_code
def yX6_layRail : MethodName := ⟨RX6, "layRail", "(I)V"⟩
abbrev cX6_putTram : ByteArray := prog_8_method_7_code
def yX6_putTram : MethodName := ⟨RX6, "putTram", "(IIII)V"⟩
abbrev cX6_putPerson : ByteArray := prog_8_method_8_code
def yX6_putPerson : MethodName := ⟨RX6, "putPerson", "(III)V"⟩
abbrev cX6_addMood : ByteArray := prog_8_method_9_code
def yX6_addMood : MethodName := ⟨RX6, "addMood", "(III)V"⟩
abbrev cX6_dropLastMood : ByteArray := prog_8_method_10_code
def yX6_dropLastMood : MethodName := ⟨RX6, "dropLastMood", "()V"⟩
abbrev cX6_clearMoods : ByteArray := prog_8_method_11_code
def yX6_clearMoods : MethodName := ⟨RX6, "clearMoods", "()V"⟩
abbrev cX6_whoseMood : ByteArray := prog_8_method_12_code
def yX6_whoseMood : MethodName := ⟨RX6, "whoseMood", "(I)I"⟩
abbrev cX6_leastKind : ByteArray := prog_8_method_13_code
def yX6_leastKind : MethodName := ⟨RX6, "leastKind", "()I"⟩
abbrev cX6_toldPerson : ByteArray := prog_8_method_14_code
def yX6_toldPerson : MethodName := ⟨RX6, "toldPerson", "(I)I"⟩
abbrev cX6_folkOf : ByteArray := prog_8_method_15_code
def yX6_folkOf : MethodName := ⟨RX6, "folkOf", "(I)I"⟩
def RX7 : String := "NeededStop"
def TX7 : u_T := fun k => match k with
  | 0 => ("NeededStop", "text", "LNeededStop$Text;", true)
  | 1 => ("NeededStop", "told", "LNeededStop$Told;", true)
  | 2 => ("NeededStop", "reader", "LNeededStop$Reader;", true)
  | 3 => ("NeededStop", "today", "LNeededStop$Day;", true)
  | 4 => ("NeededStop", "foretold", "LNeededStop$Day;", true)
  | 5 => ("NeededStop", "kept", "[LNeededStop$Day;", true)
  | 6 => ("NeededStop", "isKept", "[Z", true)
  | 7 => ("NeededStop", "feigning", "LNeededStop$Feigning;", true)
  | _ => ("NeededStop", "readBack", "LNeededStop$ReadBack;", true)
def tyX7 : Nat → FieldType := fun k => match k with
  | 0 => .object "NeededStop$Text"
  | 1 => .object "NeededStop$Told"
  | 2 => .object "NeededStop$Reader"
  | 3 => .object "NeededStop$Day"
  | 4 => .object "NeededStop$Day"
  | 5 => .array (.object "NeededStop$Day")
  | 6 => .array .boolean
  | 7 => .object "NeededStop$Feigning"
  | _ => .object "NeededStop$ReadBack"
theorem nmX7 : ∀ a, a < 9 → ∀ b, b < 9 → a ≠ b → (TX7 a).2.1 ≠ (TX7 b).2.1 := by decide +kernel
theorem tyX7_ok : ∀ k, k < 9 → parseFieldDescriptor (TX7 k).2.2.1 = some (tyX7 k) := by decide +kernel
abbrev cX7_init : ByteArray := prog_1_method_1_code
def yX7_init : MethodName := ⟨RX7, "<init>", "()V"⟩
abbrev cX7_write : ByteArray := prog_1_method_2_code
def yX7_write : MethodName := ⟨RX7, "write", "(JI)I"⟩
abbrev cX7_erase : ByteArray := prog_1_method_3_code
def yX7_erase : MethodName := ⟨RX7, "erase", "()I"⟩
abbrev cX7_fault : ByteArray := prog_1_method_4_code
def yX7_fault : MethodName := ⟨RX7, "fault", "()I"⟩
abbrev cX7_rail : ByteArray := prog_1_method_5_code
def yX7_rail : MethodName := ⟨RX7, "rail", "()I"⟩
abbrev cX7_mood : ByteArray := prog_1_method_6_code
def yX7_mood : MethodName := ⟨RX7, "mood", "(II)I"⟩
abbrev cX7_drawn : ByteArray := prog_1_method_7_code
def yX7_drawn : MethodName := ⟨RX7, "drawn", "(II)I"⟩
abbrev cX7_go : ByteArray := prog_1_method_8_code
def yX7_go : MethodName := ⟨RX7, "go", "(I)I"⟩
abbrev cX7_tram : ByteArray := prog_1_method_9_code
def yX7_tram : MethodName := ⟨RX7, "tram", "(II)I"⟩
abbrev cX7_person : ByteArray := prog_1_method_10_code
def yX7_person : MethodName := ⟨RX7, "person", "(II)I"⟩
abbrev cX7_halt : ByteArray := prog_1_method_11_code
def yX7_halt : MethodName := ⟨RX7, "halt", "(II)I"⟩
abbrev cX7_keep : ByteArray := prog_1_method_12_code
def yX7_keep : MethodName := ⟨RX7, "keep", "(I)I"⟩
abbrev cX7_back : ByteArray := prog_1_method_13_code
def yX7_back : MethodName := ⟨RX7, "back", "(I)I"⟩
abbrev cX7_home : ByteArray := prog_1_method_14_code
def yX7_home : MethodName := ⟨RX7, "home", "(I)I"⟩
abbrev cX7_feigned : ByteArray := prog_1_method_15_code
def yX7_feigned : MethodName := ⟨RX7, "feigned", "(III)I"⟩
abbrev cX7_law : ByteArray := prog_1_method_16_code
def yX7_law : MethodName := ⟨RX7, "law", "(I)I"⟩
abbrev cX7_worn : ByteArray := prog_1_method_17_code
def yX7_worn : MethodName := ⟨RX7, "worn", "(I)I"⟩
abbrev cX7_dry : ByteArray := prog_1_method_18_code
def yX7_dry : MethodName := ⟨RX7, "dry", "()I"⟩
abbrev cX7_last : ByteArray := prog_1_method_19_code
def yX7_last : MethodName := ⟨RX7, "last", "(I)I"⟩
abbrev cX7_fares : ByteArray := prog_1_method_20_code
def yX7_fares : MethodName := ⟨RX7, "fares", "()I"⟩
abbrev cX7_seen : ByteArray := prog_1_method_21_code
def yX7_seen : MethodName := ⟨RX7, "seen", "(II)I"⟩
abbrev cX7_forget : ByteArray := prog_1_method_22_code
def yX7_forget : MethodName := ⟨RX7, "forget", "()I"⟩
abbrev cX7_read : ByteArray := prog_1_method_23_code
def yX7_read : MethodName := ⟨RX7, "read", "(I)I"⟩
abbrev cX7_odds : ByteArray := prog_1_method_24_code
def yX7_odds : MethodName := ⟨RX7, "odds", "(II)I"⟩
abbrev cX7_count : ByteArray := prog_1_method_25_code
def yX7_count : MethodName := ⟨RX7, "count", "(I)I"⟩
abbrev cX7_dropWhatDependsOnMoods : ByteArray := prog_1_method_26_code
def yX7_dropWhatDependsOnMoods : MethodName := ⟨RX7, "dropWhatDependsOnMoods", "()V"⟩
abbrev cX7_foretellDay : ByteArray := prog_1_method_27_code
def yX7_foretellDay : MethodName := ⟨RX7, "foretellDay", "(I)V"⟩
abbrev cX7_lowestPart : ByteArray := prog_1_method_28_code
def yX7_lowestPart : MethodName := ⟨RX7, "lowestPart", "(III)I"⟩
abbrev cX7_commonDivisor : ByteArray := prog_1_method_29_code
def yX7_commonDivisor : MethodName := ⟨RX7, "commonDivisor", "(II)I"⟩
def RX8 : String := "NeededStopModel"
def TX8 : u_T := fun k => match k with
  | 0 => ("NeededStopModel", "places", "I", false)
  | 1 => ("NeededStopModel", "nose", "I", false)
  | 2 => ("NeededStopModel", "span", "I", false)
  | 3 => ("NeededStopModel", "seats", "I", false)
  | 4 => ("NeededStopModel", "fare", "I", false)
  | 5 => ("NeededStopModel", "trams", "I", false)
  | 6 => ("NeededStopModel", "tram", "[I", true)
  | 7 => ("NeededStopModel", "folk", "I", false)
  | 8 => ("NeededStopModel", "person", "[I", true)
  | 9 => ("NeededStopModel", "moods", "I", false)
  | 10 => ("NeededStopModel", "mood", "[I", true)
  | 11 => ("NeededStopModel", "seens", "I", false)
  | 12 => ("NeededStopModel", "seen", "[I", true)
  | 13 => ("NeededStopModel", "bytes", "I", false)
  | 14 => ("NeededStopModel", "text", "[I", true)
  | 15 => ("NeededStopModel", "position", "I", false)
  | 16 => ("NeededStopModel", "tokenAt", "I", false)
  | 17 => ("NeededStopModel", "token", "J", false)
  | 18 => ("NeededStopModel", "digits", "I", false)
  | 19 => ("NeededStopModel", "number", "I", false)
  | 20 => ("NeededStopModel", "faultAt", "I", false)
  | 21 => ("NeededStopModel", "readMany", "I", false)
  | 22 => ("NeededStopModel", "readPlaces", "I", false)
  | 23 => ("NeededStopModel", "readFolk", "I", false)
  | 24 => ("NeededStopModel", "readMoods", "I", false)
  | 25 => ("NeededStopModel", "read", "[I", true)
  | 26 => ("NeededStopModel", "now", "[I", true)
  | 27 => ("NeededStopModel", "aside", "[I", true)
  | 28 => ("NeededStopModel", "image", "[I", true)
  | 29 => ("NeededStopModel", "isKept", "[Z", true)
  | 30 => ("NeededStopModel", "triedNose", "I", false)
  | 31 => ("NeededStopModel", "triedSpan", "I", false)
  | 32 => ("NeededStopModel", "triedMoods", "I", false)
  | 33 => ("NeededStopModel", "best", "[I", true)
  | 34 => ("NeededStopModel", "lawMany", "I", false)
  | 35 => ("NeededStopModel", "lawFirst", "I", false)
  | _ => ("NeededStopModel", "lawHas", "[I", true)
def tyX8 : Nat → FieldType := fun k => match k with
  | 0 => .int
  | 1 => .int
  | 2 => .int
  | 3 => .int
  | 4 => .int
  | 5 => .int
  | 6 => .array .int
  | 7 => .int
  | 8 => .array .int
  | 9 => .int
  | 10 => .array .int
  | 11 => .int
  | 12 => .array .int
  | 13 => .int
  | 14 => .array .int
  | 15 => .int
  | 16 => .int
  | 17 => .long
  | 18 => .int
  | 19 => .int
  | 20 => .int
  | 21 => .int
  | 22 => .int
  | 23 => .int
  | 24 => .int
  | 25 => .array .int
  | 26 => .array .int
  | 27 => .array .int
  | 28 => .array .int
  | 29 => .array .boolean
  | 30 => .int
  | 31 => .int
  | 32 => .int
  | 33 => .array .int
  | 34 => .int
  | 35 => .int
  | _ => .array .int
theorem nmX8 : ∀ a, a < 37 → ∀ b, b < 37 → a ≠ b → (TX8 a).2.1 ≠ (TX8 b).2.1 := by decide +kernel
theorem tyX8_ok : ∀ k, k < 37 → parseFieldDescriptor (TX8 k).2.2.1 = some (tyX8 k) := by decide +kernel
abbrev cX8_init : ByteArray := prog_10_method_1_code
def yX8_init : MethodName := ⟨RX8, "<init>", "()V"⟩
abbrev cX8_in : ByteArray := prog_10_method_2_code
def yX8_in : MethodName := ⟨RX8, "in", "(III)Z"⟩
abbrev cX8_has : ByteArray := prog_10_method_3_code
def yX8_has : MethodName := ⟨RX8, "has", "(II)Z"⟩
abbrev cX8_bits : ByteArray := prog_10_method_4_code
def yX8_bits : MethodName := ⟨RX8, "bits", "(I)I"⟩
abbrev cX8_isPerson : ByteArray := prog_10_method_5_code
def yX8_isPerson : MethodName := ⟨RX8, "isPerson", "(I)Z"⟩
abbrev cX8_isTram : ByteArray := prog_10_method_6_code
def yX8_isTram : MethodName := ⟨RX8, "isTram", "(I)Z"⟩
abbrev cX8_isPlace : ByteArray := prog_10_method_7_code
def yX8_isPlace : MethodName := ⟨RX8, "isPlace", "(I)Z"⟩
abbrev cX8_write : ByteArray := prog_10_method_8_code
def yX8_write : MethodName := ⟨RX8, "write", "(JI)I"⟩
abbrev cX8_erase : ByteArray := prog_10_method_9_code
def yX8_erase : MethodName := ⟨RX8, "erase", "()I"⟩
abbrev cX8_nextToken : ByteArray := prog_10_method_10_code
def yX8_nextToken : MethodName := ⟨RX8, "nextToken", "()V"⟩
abbrev cX8_fails : ByteArray := prog_10_method_11_code
def yX8_fails : MethodName := ⟨RX8, "fails", "()Z"⟩
abbrev cX8_isNumber : ByteArray := prog_10_method_12_code
def yX8_isNumber : MethodName := ⟨RX8, "isNumber", "(III)Z"⟩
abbrev cX8_isRail : ByteArray := prog_10_method_13_code
def yX8_isRail : MethodName := ⟨RX8, "isRail", "(I)Z"⟩
abbrev cX8_isFolk : ByteArray := prog_10_method_14_code
def yX8_isFolk : MethodName := ⟨RX8, "isFolk", "(I)Z"⟩
abbrev cX8_isMood : ByteArray := prog_10_method_15_code
def yX8_isMood : MethodName := ⟨RX8, "isMood", "(I)Z"⟩
abbrev cX8_isLine : ByteArray := prog_10_method_16_code
def yX8_isLine : MethodName := ⟨RX8, "isLine", "(I)Z"⟩
abbrev cX8_isRead : ByteArray := prog_10_method_17_code
def yX8_isRead : MethodName := ⟨RX8, "isRead", "()Z"⟩
abbrev cX8_fault : ByteArray := prog_10_method_18_code
def yX8_fault : MethodName := ⟨RX8, "fault", "()I"⟩
abbrev cX8_addMood : ByteArray := prog_10_method_19_code
def yX8_addMood : MethodName := ⟨RX8, "addMood", "(III)V"⟩
abbrev cX8_doLine : ByteArray := prog_10_method_20_code
def yX8_doLine : MethodName := ⟨RX8, "doLine", "(I)V"⟩
abbrev cX8_begin : ByteArray := prog_10_method_21_code
def yX8_begin : MethodName := ⟨RX8, "begin", "()V"⟩
abbrev cX8_rail : ByteArray := prog_10_method_22_code
def yX8_rail : MethodName := ⟨RX8, "rail", "()I"⟩
abbrev cX8_mood : ByteArray := prog_10_method_23_code
def yX8_mood : MethodName := ⟨RX8, "mood", "(II)I"⟩
abbrev cX8_personOf : ByteArray := prog_10_method_24_code
def yX8_personOf : MethodName := ⟨RX8, "personOf", "(I)I"⟩
abbrev cX8_drawn : ByteArray := prog_10_method_25_code
def yX8_drawn : MethodName := ⟨RX8, "drawn", "(II)I"⟩
abbrev cX8_placeNow : ByteArray := prog_10_method_26_code
def yX8_placeNow : MethodName := ⟨RX8, "placeNow", "(I)I"⟩
abbrev cX8_causeOf : ByteArray := prog_10_method_27_code
def yX8_causeOf : MethodName := ⟨RX8, "causeOf", "(I)I"⟩
abbrev cX8_haltMany : ByteArray := prog_10_method_28_code
def yX8_haltMany : MethodName := ⟨RX8, "haltMany", "()I"⟩
abbrev cX8_haltBy : ByteArray := prog_10_method_29_code
def yX8_haltBy : MethodName := ⟨RX8, "haltBy", "(II)V"⟩
abbrev cX8_goOn : ByteArray := prog_10_method_30_code
def yX8_goOn : MethodName := ⟨RX8, "goOn", "(I)V"⟩
abbrev cX8_goMinute : ByteArray := prog_10_method_31_code
def yX8_goMinute : MethodName := ⟨RX8, "goMinute", "()V"⟩
abbrev cX8_asTold : ByteArray := prog_10_method_32_code
def yX8_asTold : MethodName := ⟨RX8, "asTold", "()V"⟩
abbrev cX8_go : ByteArray := prog_10_method_33_code
def yX8_go : MethodName := ⟨RX8, "go", "(I)I"⟩
abbrev cX8_tram : ByteArray := prog_10_method_34_code
def yX8_tram : MethodName := ⟨RX8, "tram", "(II)I"⟩
abbrev cX8_person : ByteArray := prog_10_method_35_code
def yX8_person : MethodName := ⟨RX8, "person", "(II)I"⟩
abbrev cX8_halt : ByteArray := prog_10_method_36_code
def yX8_halt : MethodName := ⟨RX8, "halt", "(II)I"⟩
abbrev cX8_copy : ByteArray := prog_10_method_37_code
def yX8_copy : MethodName := ⟨RX8, "copy", "([II[II)V"⟩
abbrev cX8_keep : ByteArray := prog_10_method_38_code
def yX8_keep : MethodName := ⟨RX8, "keep", "(I)I"⟩
abbrev cX8_back : ByteArray := prog_10_method_39_code
def yX8_back : MethodName := ⟨RX8, "back", "(I)I"⟩
abbrev cX8_goDay : ByteArray := prog_10_method_40_code
def yX8_goDay : MethodName := ⟨RX8, "goDay", "()V"⟩
abbrev cX8_putBack : ByteArray := prog_10_method_41_code
def yX8_putBack : MethodName := ⟨RX8, "putBack", "()V"⟩
abbrev cX8_late : ByteArray := prog_10_method_42_code
def yX8_late : MethodName := ⟨RX8, "late", "(I)I"⟩
abbrev cX8_home : ByteArray := prog_10_method_43_code
def yX8_home : MethodName := ⟨RX8, "home", "(I)I"⟩
abbrev cX8_tryFeigned : ByteArray := prog_10_method_44_code
def yX8_tryFeigned : MethodName := ⟨RX8, "tryFeigned", "(IIII)V"⟩
abbrev cX8_feigned : ByteArray := prog_10_method_45_code
def yX8_feigned : MethodName := ⟨RX8, "feigned", "(III)I"⟩
abbrev cX8_law : ByteArray := prog_10_method_46_code
def yX8_law : MethodName := ⟨RX8, "law", "(I)I"⟩
abbrev cX8_wornAt : ByteArray := prog_10_method_47_code
def yX8_wornAt : MethodName := ⟨RX8, "wornAt", "(I)I"⟩
abbrev cX8_worn : ByteArray := prog_10_method_48_code
def yX8_worn : MethodName := ⟨RX8, "worn", "(I)I"⟩
abbrev cX8_dry : ByteArray := prog_10_method_49_code
def yX8_dry : MethodName := ⟨RX8, "dry", "()I"⟩
abbrev cX8_divisor : ByteArray := prog_10_method_50_code
def yX8_divisor : MethodName := ⟨RX8, "divisor", "(II)I"⟩
abbrev cX8_last : ByteArray := prog_10_method_51_code
def yX8_last : MethodName := ⟨RX8, "last", "(I)I"⟩
abbrev cX8_fares : ByteArray := prog_10_method_52_code
def yX8_fares : MethodName := ⟨RX8, "fares", "()I"⟩
abbrev cX8_seen : ByteArray := prog_10_method_53_code
def yX8_seen : MethodName := ⟨RX8, "seen", "(II)I"⟩
abbrev cX8_forget : ByteArray := prog_10_method_54_code
def yX8_forget : MethodName := ⟨RX8, "forget", "()I"⟩
abbrev cX8_areSeen : ByteArray := prog_10_method_55_code
def yX8_areSeen : MethodName := ⟨RX8, "areSeen", "()Z"⟩
abbrev cX8_layLaws : ByteArray := prog_10_method_56_code
def yX8_layLaws : MethodName := ⟨RX8, "layLaws", "()V"⟩
abbrev cX8_read : ByteArray := prog_10_method_57_code
def yX8_read : MethodName := ⟨RX8, "read", "(I)I"⟩
abbrev cX8_odds : ByteArray := prog_10_method_58_code
def yX8_odds : MethodName := ⟨RX8, "odds", "(II)I"⟩
abbrev cX8_count : ByteArray := prog_10_method_59_code
def yX8_count : MethodName := ⟨RX8, "count", "(I)I"⟩
def RJx145de : String := "java/io/Serializable"
def RJx9f9b0 : String := "java/lang/CharSequence"
def RJxb160c : String := "java/lang/Comparable"
def RJ6 : String := "java/lang/Integer"
abbrev cJ6_bitCount_0f7a4 : ByteArray := prog_11_method_49_code
def yJ6_bitCount_0f7a4 : MethodName := ⟨RJ6, "bitCount", "(I)I"⟩
def RJ9 : String := "java/lang/Math"
abbrev cJ9_max_7cf53 : ByteArray := prog_12_method_65_code
def yJ9_max_7cf53 : MethodName := ⟨RJ9, "max", "(II)I"⟩
abbrev cJ9_min_7cf53 : ByteArray := prog_12_method_69_code
def yJ9_min_7cf53 : MethodName := ⟨RJ9, "min", "(II)I"⟩
def RJ0 : String := "java/lang/String"
abbrev cJ0_length_8abf5 : ByteArray := prog_13_method_54_code
def yJ0_length_8abf5 : MethodName := ⟨RJ0, "length", "()I"⟩
abbrev cJ0_charAt_5068e : ByteArray := prog_13_method_56_code
def yJ0_charAt_5068e : MethodName := ⟨RJ0, "charAt", "(I)C"⟩
abbrev cJ0_coder_7d493 : ByteArray := prog_13_method_152_code
def yJ0_coder_7d493 : MethodName := ⟨RJ0, "coder", "()B"⟩
abbrev cJ0_isLatin1_aae02 : ByteArray := prog_13_method_154_code
def yJ0_isLatin1_aae02 : MethodName := ⟨RJ0, "isLatin1", "()Z"⟩
abbrev cJ0_checkIndex_df160 : ByteArray := prog_13_method_155_code
def yJ0_checkIndex_df160 : MethodName := ⟨RJ0, "checkIndex", "(II)V"⟩
def RJ1 : String := "java/lang/StringLatin1"
abbrev cJ1_charAt_3b067 : ByteArray := prog_14_method_2_code
def yJ1_charAt_3b067 : MethodName := ⟨RJ1, "charAt", "([BI)C"⟩
def RJ2 : String := "java/lang/StringUTF16"
abbrev cJ2_getChar_3b067 : ByteArray := prog_15_method_5_code
def yJ2_getChar_3b067 : MethodName := ⟨RJ2, "getChar", "([BI)C"⟩
abbrev cJ2_length_9d52b : ByteArray := prog_15_method_6_code
def yJ2_length_9d52b : MethodName := ⟨RJ2, "length", "([B)I"⟩
abbrev cJ2_charAt_3b067 : ByteArray := prog_15_method_83_code
def yJ2_charAt_3b067 : MethodName := ⟨RJ2, "charAt", "([BI)C"⟩
abbrev cJ2_checkIndex_2214a : ByteArray := prog_15_method_91_code
def yJ2_checkIndex_2214a : MethodName := ⟨RJ2, "checkIndex", "(I[B)V"⟩
def RJ10 : String := "java/lang/System"
def RJxfd54e : String := "java/lang/constant/Constable"
def RJx3cf43 : String := "java/lang/constant/ConstantDesc"
def RJ7 : String := "java/util/Arrays"
abbrev cJ7_fill_53178 : ByteArray := prog_17_method_103_code
def yJ7_fill_53178 : MethodName := ⟨RJ7, "fill", "([II)V"⟩
def RJ3 : String := "jdk/internal/util/Preconditions"
abbrev cJ3_checkIndex_8e157 : ByteArray := prog_18_method_11_code
def yJ3_checkIndex_8e157 : MethodName := ⟨RJ3, "checkIndex", "(IILjava/util/function/BiFunction;)I"⟩
def RL : String := "NeededStopLaw"
abbrev cL_law : ByteArray := code
def yL_law : MethodName := ⟨RL, "law", "([I)Z"⟩
abbrev vwCl : List vw_C := [(RX0, TX0, 15), (RX1, TX1, 13), (RX2, TX2, 5), (RX3, TX3, 9), (RX4, TX4, 8), (RX5, TX5, 2), (RX6, TX6, 17), (RX7, TX7, 9), (RX8, TX8, 37)]
end
section
/-! ===== the abstract world: cells by numbers, an address map, the judgement ===== -/
abbrev xE : Type := (Nat × Nat × (Nat → Int32)) ⊕ (List (Option Nat) ⊕ (Nat × List Value))
abbrev xI : Type := va_G × ClassId × ClassId × ClassId
abbrev xB : Nat := 1000000
def xv (ad : Nat → Nat) : Value → Value
  | .ref k => .ref (ad k)
  | v => v
def xe (I : xI) (ad : Nat → Nat) : xE → va_E
  | .inl (t, n, f) => .inl (if t = 0 then I.2.1 else I.2.2.1, n, .inl f)
  | .inr (.inl l) => .inl (I.2.2.2, l.length, .inr (.inr (.inr (.inr (fun j => (l[j]?.join).map ad)))))
  | .inr (.inr (ci, fs)) => .inr (ci, fs.map (xv ad))
def xw (I : xI) (ad : Nat → Nat) (X : List xE) : va_W := X.mapIdx (fun i c => (ad i, xe I ad c))
theorem xw_len (I : xI) (ad : Nat → Nat) (X : List xE) : (xw I ad X).length = X.length := by simp [xw]
theorem xw_at (I : xI) (ad : Nat → Nat) (X : List xE) (k : Nat) : (xw I ad X)[k]? = (X[k]?).map (fun c => (ad k, xe I ad c)) := by simp [xw]
theorem xw_get {I : xI} {ad : Nat → Nat} {X : List xE} {k : Nat} {c : xE} (h : X[k]? = some c) : (xw I ad X)[k]? = some (ad k, xe I ad c) := by rw [xw_at, h]; rfl
theorem xw_inv {I : xI} {ad : Nat → Nat} {X : List xE} {k : Nat} {q : Nat × va_E} (h : (xw I ad X)[k]? = some q) : ∃ c, X[k]? = some c ∧ q = (ad k, xe I ad c) := by
  rw [xw_at] at h
  cases hx : X[k]? with
  | none => rw [hx] at h; cases h
  | some c => rw [hx] at h; exact ⟨c, rfl, (Option.some.inj h).symm⟩
theorem xw_set (I : xI) (ad : Nat → Nat) (X : List xE) (k : Nat) (c : xE) : (xw I ad X).set k (ad k, xe I ad c) = xw I ad (X.set k c) := by
  apply List.ext_getElem?
  intro i
  rw [xw_at, List.getElem?_set, List.getElem?_set]
  by_cases h : k = i
  · subst h
    rw [if_pos rfl, if_pos rfl, xw_len]
    by_cases h2 : k < X.length
    · rw [if_pos h2, if_pos h2]; rfl
    · rw [if_neg h2, if_neg h2]; rfl
  · rw [if_neg h, if_neg h, xw_at]
theorem xw_push (I : xI) (ad : Nat → Nat) (X : List xE) (c : xE) : xw I ad X ++ [(ad X.length, xe I ad c)] = xw I ad (X ++ [c]) := by simp [xw, List.mapIdx_append]
def xrv (P : Nat → Prop) : Value → Prop
  | .ref k => P k
  | _ => True
def xre (P : Nat → Prop) : xE → Prop
  | .inl _ => True
  | .inr (.inl l) => ∀ k, some k ∈ l → P k
  | .inr (.inr (_, fs)) => ∀ v ∈ fs, xrv P v
theorem xv_congr {P : Nat → Prop} {ad ad' : Nat → Nat} (ha : ∀ k, P k → ad k = ad' k) {v : Value} (h : xrv P v) : xv ad v = xv ad' v := by
  cases v <;> first | rfl | (simp only [xv]; rw [ha _ h])
theorem xe_congr {P : Nat → Prop} {I : xI} {ad ad' : Nat → Nat} (ha : ∀ k, P k → ad k = ad' k) {c : xE} (h : xre P c) : xe I ad c = xe I ad' c := by
  rcases c with ⟨t, n, f⟩ | l | ⟨ci, fs⟩
  · rfl
  · simp only [xe]
    have hf : (fun j : Nat => (l[j]?.join).map ad) = (fun j : Nat => (l[j]?.join).map ad') := by
     funext j
     cases hj : l[j]? with
     | none => rfl
     | some o =>
      cases o with
      | none => rfl
      | some k => show some (ad k) = some (ad' k); rw [ha k (h k (List.mem_of_getElem? hj))]
    rw [hf]
  · simp only [xe]
    congr 2
    exact List.map_congr_left (fun v hv => xv_congr ha (h v hv))
theorem xw_congr {I : xI} {ad ad' : Nat → Nat} {P : Nat → Prop} {X : List xE} (ha : ∀ k, P k → ad k = ad' k) (hl : ∀ k, k < X.length → P k) (h : ∀ c ∈ X, xre P c) : xw I ad X = xw I ad' X := by
  apply List.ext_getElem?
  intro i
  rw [xw_at, xw_at]
  cases hi : X[i]? with
  | none => rfl
  | some c =>
    simp only [Option.map]
    rw [ha i (hl i (List.getElem?_eq_some_iff.mp hi).1), xe_congr ha (h c (List.mem_of_getElem? hi))]
def xokv (n : Nat) : Value → Bool
  | .ref k => Nat.blt k n || Nat.ble xB k
  | _ => true
def xoke (n : Nat) : xE → Bool
  | .inl _ => true
  | .inr (.inl l) => l.all (fun o => match o with | none => true | some k => Nat.blt k n || Nat.ble xB k)
  | .inr (.inr (_, fs)) => fs.all (xokv n)
theorem xokv_sp {n : Nat} {v : Value} (h : xokv n v = true) : xrv (fun k => k < n ∨ xB ≤ k) v := by
  cases v <;> first | trivial | skip
  simp only [xokv, Bool.or_eq_true, Nat.blt_eq, Nat.ble_eq] at h
  exact h
theorem xoke_sp {n : Nat} {c : xE} (h : xoke n c = true) : xre (fun k => k < n ∨ xB ≤ k) c := by
  rcases c with ⟨t, m, f⟩ | l | ⟨ci, fs⟩
  · trivial
  · intro k hk
    have := List.all_eq_true.mp h (some k) hk
    simp only [Bool.or_eq_true, Nat.blt_eq, Nat.ble_eq] at this
    exact this
  · intro v hv
    exact xokv_sp (List.all_eq_true.mp h v hv)
def xls (ad : Nat → Nat) : Nat → List (Option Value) → List (Nat × Value)
  | _, [] => []
  | i, none :: t => xls ad (i + 1) t
  | i, some v :: t => (i, xv ad v) :: xls ad (i + 1) t
theorem xls_mem (ad : Nat → Nat) : ∀ (ls : List (Option Value)) (b : Nat) (q : Nat × Value), q ∈ xls ad b ls ↔ ∃ k v, ls[k]? = some (some v) ∧ q = (b + k, xv ad v)
  | [], b, q => by simp [xls]
  | none :: t, b, q => by
    rw [xls, xls_mem ad t (b + 1) q]
    constructor
    · rintro ⟨k, v, h, rfl⟩
      exact ⟨k + 1, v, by simpa using h, by rw [Nat.add_assoc, Nat.add_comm 1 k]⟩
    · rintro ⟨k, v, h, rfl⟩
      cases k with
      | zero => simp at h
      | succ k => exact ⟨k, v, by simpa using h, by rw [Nat.add_assoc, Nat.add_comm 1 k]⟩
  | some w :: t, b, q => by
    rw [xls, List.mem_cons, xls_mem ad t (b + 1) q]
    constructor
    · rintro (rfl | ⟨k, v, h, rfl⟩)
      · exact ⟨0, w, by simp, by simp⟩
      · exact ⟨k + 1, v, by simpa using h, by rw [Nat.add_assoc, Nat.add_comm 1 k]⟩
    · rintro ⟨k, v, h, rfl⟩
      cases k with
      | zero => left; simp at h; simp [h]
      | succ k => right; exact ⟨k, v, by simpa using h, by rw [Nat.add_assoc, Nat.add_comm 1 k]⟩
def xL (la : Array Slot) (n : Nat) (ad : Nat → Nat) (ls : List (Option Value)) : Prop := lv_has la n (xls ad 0 ls) ∧ ls.length = n
theorem xL_at {la : Array Slot} {n : Nat} {ad : Nat → Nat} {ls : List (Option Value)} (h : xL la n ad ls) {k : Nat} {v : Value} (hk : ls[k]? = some (some v)) : la[k]? = some (.val (xv ad v)) :=
  h.1.2.2 (k, xv ad v) ((xls_mem ad ls 0 _).mpr ⟨k, v, hk, by rw [Nat.zero_add]⟩)
theorem xv_cat (ad : Nat → Nat) (v : Value) : (xv ad v).category = v.category := by cases v <;> rfl
/-- may a value of one slot be stored at k: k is a place, and what stands just below is no long -/
def xlok (ls : List (Option Value)) (k : Nat) : Bool := Nat.blt k ls.length && (match k with
  | 0 => true
  | j + 1 => match ls[j]? with
    | some (some (.long _)) => false
    | some (some (.double _)) => false
    | _ => true)
theorem xL_store {la : Array Slot} {n : Nat} {ad : Nat → Nat} {ls : List (Option Value)} (h : xL la n ad ls) {k : Nat} {v : Value} (hk : xlok ls k = true) (hc : v.category = 1) :
    ∃ la', storeLocals la k (xv ad v) = some la' ∧ xL la' n ad (ls.set k (some v)) := by
  obtain ⟨hl, hn⟩ := h
  simp only [xlok, Bool.and_eq_true, Nat.blt_eq] at hk
  obtain ⟨hk1, hk2⟩ := hk
  obtain ⟨la', e, h'⟩ := lv_store1 (v := xv ad v) hl (by omega : k < n) (by rw [xv_cat]; exact hc)
  refine ⟨la', e, ⟨h'.1, h'.2.1, fun q hq => ?_⟩, by rw [List.length_set]; exact hn⟩
  obtain ⟨j, w, hj, rfl⟩ := (xls_mem ad _ 0 q).mp hq
  rw [Nat.zero_add]
  rw [List.getElem?_set] at hj
  by_cases hkj : k = j
  · subst hkj
    rw [if_pos rfl, if_pos hk1] at hj
    cases hj
    exact h'.2.2 _ List.mem_cons_self
  · rw [if_neg hkj] at hj
    refine h'.2.2 (j, xv ad w) (List.mem_cons_of_mem _ (List.mem_filter.mpr ⟨(xls_mem ad ls 0 _).mpr ⟨j, w, hj, by rw [Nat.zero_add]⟩, ?_⟩))
    have e1 : (j == k) = false := by simp; omega
    simp only [e1, Bool.not_false, Bool.true_and, Bool.not_eq_true', Bool.and_eq_false_iff]
    by_cases h2 : j + 1 = k
    · right
      subst h2
      simp only [hj] at hk2
      cases w <;> first | rfl | (simp at hk2)
    · left
      simp; exact h2
theorem xL_ad {la : Array Slot} {n m : Nat} {ad ad' : Nat → Nat} {ls : List (Option Value)} (h : xL la n ad ls) (ha : ∀ k, k < m ∨ xB ≤ k → ad k = ad' k) (hok : ls.all (fun o => match o with | none => true | some v => xokv m v) = true) : xL la n ad' ls := by
  refine ⟨⟨h.1.1, h.1.2.1, fun q hq => ?_⟩, h.2⟩
  obtain ⟨j, w, hj, rfl⟩ := (xls_mem ad' ls 0 q).mp hq
  have h1 := List.all_eq_true.mp hok _ (List.mem_of_getElem? hj)
  rw [Nat.zero_add, ← xv_congr ha (xokv_sp h1)]
  exact xL_at h hj
theorem xmap_ad {m : Nat} {ad ad' : Nat → Nat} {st : List Value} (ha : ∀ k, k < m ∨ xB ≤ k → ad k = ad' k) (hok : st.all (xokv m) = true) : st.map (xv ad) = st.map (xv ad') :=
  List.map_congr_left (fun v hv => xv_congr ha (xokv_sp (List.all_eq_true.mp hok v hv)))
end
section
/-! ===== words, contexts, judgement, contract ===== -/
def xtb : List Cond := lw_tbl.filter goodWord
theorem xtb_sub : ∀ w ∈ xtb, w ∈ lw_tbl := fun _ h => (List.mem_filter.mp h).1
theorem xtb_good {ts : List Cond} (h : ∀ w ∈ xtb, w ∈ ts) : GoodIn ts xtb := fun w hw => ⟨h w hw, good_of_word (List.mem_filter.mp hw).2⟩
theorem xtb_in {w : Cond} (h : w ∈ tables_1) (hg : goodWord w = true) : w ∈ xtb := List.mem_filter.mpr ⟨List.mem_append_right _ h, hg⟩
theorem xtb_at {w : Cond} (t : Nat) (h : tables_1[t]? = some w) (hg : goodWord w = true) : w ∈ xtb := xtb_in (List.mem_of_getElem? h) hg
/-- an instruction with what it links: next place, target, int and long constant, three numbers, a switch's cases -/
abbrev xO : Type := Instr × Nat × Nat × Int32 × Int64 × Nat × Nat × Nat × List (Int32 × Nat)
/-- a method: name, code, locals, what it returns, its rows by sixteens -/
abbrev xM : Type := MethodName × ByteArray × Nat × Option FieldType × List (List (Nat × xO))
abbrev xown (M : xM) : String := M.1.cls
abbrev xcc (M : xM) : ByteArray := M.2.1
abbrev xml (M : xM) : Nat := M.2.2.1
abbrev xret (M : xM) : Option FieldType := M.2.2.2.1
def xat (M : xM) (pc : Nat) : Option xO := match M.2.2.2.2[pc / 16]? with
  | some l => l.lookup pc
  | none => none
abbrev xT (I : xI) : List (ClassId × FieldType) := [(I.2.1, .int), (I.2.2.1, .boolean), (I.2.2.2, .object "NeededStop$Day")]
def xnum : List Int32 := [1, 2, 1, 1, 4, 3, 2, 2, 2, 0]
def xsl : List Nat := [4, 4, 5, 4, 4, 4, 5, 8, 4, 4]
def xsb : List (List Int32) := [[114, 97, 105, 108], [110, 111, 115, 101], [115, 101, 97, 116, 115], [102, 97, 114, 101], [116, 114, 97, 109], [102, 111, 108, 107], [116, 101, 97, 114, 115], [108, 97, 117, 103, 104, 116, 101, 114], [100, 101, 98, 116], [99, 97, 108, 109]]
def xsk : List Nat := [89, 95, 97, 99, 101, 103, 105, 107, 109, 111]
def xst : List String := ["rail", "nose", "seats", "fare", "tram", "folk", "tears", "laughter", "debt", "calm"]
abbrev xLn : Type := Launch × Nat × (Nat → Int32)
/-- what stood before the start, and is never written: the numbers' row, the ten words, the script -/
def xFF (L : xLn) (ad : Nat → Nat) (A : Nat → Prop) (U : State) (H : Heap) : Prop :=
  va_Z "NeededStop$Reader" "NUMBERS" "[I" (.ref (ad xB)) A U H ∧ va_T .int (ad xB) 10 (fun j => .int (xnum.getD j 0)) A U H ∧ va_Z "java/lang/String" "COMPACT_STRINGS" "Z" (.int 1) A U H ∧
  vk_S 10 xsl xsb (fun i => ad (xB + 1 + i)) (fun i => ad (xB + 11 + i)) A U H ∧ (∀ i : Nat, i < 10 → vk_R "NeededStop$Reader" (xsk.getD i 0) (xst.getD i "") (ad (xB + 1 + i)) U) ∧ va_T .int (ad (xB + 40)) L.2.1 (fun j => .int (L.2.2 j)) A U H ∧ va_AO "NeededStop$Day" U
theorem xFF.warm {L : xLn} {ad : Nat → Nat} {A : Nat → Prop} {s U : State} {H : Heap} (hW : s.WarmedH U.vm) (h : xFF L ad A s H) : xFF L ad A U H :=
  ⟨h.1.moved hW.alike, h.2.1.moved hW.alike, h.2.2.1.moved hW.alike, h.2.2.2.1.moved hW.alike, fun i hi => (h.2.2.2.2.1 i hi).warm hW, h.2.2.2.2.2.1.moved hW.alike, h.2.2.2.2.2.2.moved hW.alike⟩
theorem xFF.same {L : xLn} {ad : Nat → Nat} {A : Nat → Prop} {s U : State} {H : Heap} (hv : U.vm = s.vm) (h : xFF L ad A s H) : xFF L ad A U H := by
  have ha : s.vm.Alike U.vm := by rw [hv]; exact Vm.Alike.refl _
  exact ⟨h.1.moved ha, h.2.1.moved ha, h.2.2.1.moved ha, h.2.2.2.1.moved ha, fun i hi => (h.2.2.2.2.1 i hi).same hv, h.2.2.2.2.2.1.moved ha, h.2.2.2.2.2.2.moved ha⟩
theorem xFF.kept {L : xLn} {ad : Nat → Nat} {A : Nat → Prop} {U : State} {H H1 : Heap} (h : xFF L ad A U H) (hq : ∀ a : Nat, a < H.size → ¬ A a → H1[a]? = H[a]?) : xFF L ad A U H1 :=
  ⟨h.1.kept hq, h.2.1.kept hq, h.2.2.1.kept hq, h.2.2.2.1.kept hq, h.2.2.2.2.1, h.2.2.2.2.2.1.kept hq, h.2.2.2.2.2.2⟩
theorem xFF.narrow {L : xLn} {ad : Nat → Nat} {A B : Nat → Prop} {U : State} {H : Heap} (h : xFF L ad A U H) (hAB : ∀ q, B q → A q) : xFF L ad B U H :=
  ⟨h.1.narrow hAB, h.2.1.narrow hAB, h.2.2.1.narrow hAB, h.2.2.2.1.narrow hAB, h.2.2.2.2.1, h.2.2.2.2.2.1.narrow hAB, h.2.2.2.2.2.2⟩
theorem xFF.ad {L : xLn} {ad ad' : Nat → Nat} {A : Nat → Prop} {U : State} {H : Heap} (h : xFF L ad A U H) (ha : ∀ i, xB ≤ i → ad' i = ad i) : xFF L ad' A U H := by
  have e0 := ha xB (Nat.le_refl _)
  have e1 : (fun i => ad' (xB + 1 + i)) = (fun i => ad (xB + 1 + i)) := funext fun i => ha _ (by omega)
  have e3 := ha (xB + 40) (by omega)
  have e2 : (fun i => ad' (xB + 11 + i)) = (fun i => ad (xB + 11 + i)) := funext fun i => ha _ (by omega)
  unfold xFF
  rw [e0, e1, e2, e3]
  refine ⟨h.1, h.2.1, h.2.2.1, h.2.2.2.1, fun i hi => ?_, h.2.2.2.2.2⟩
  rw [ha _ (by omega)]
  exact h.2.2.2.2.1 i hi
/-- the machine's own part of a context -/
def xC (M : xM) (d : Nat) (p : Program) (R : Room) (s : State) (m : MethodId) (args : Array Value) (meth : Method) (c : Code) (I : xI) (A : Nat → Prop) : Prop :=
  p.tables.exec = Jvm.exec ∧ c.code = xcc M ∧ meth.sig.returnType = xret M ∧ c.maxLocals = xml M ∧ s.vm.findClass (xown M) = some m.cls ∧ (∀ w ∈ xtb, w.before args s = true) ∧ va_K I.1 vwCl (xT I) s ∧ meth.locks = false ∧ (M.1.name = "<init>" → meth.name = "<init>") ∧ (∀ q, s.heap.size ≤ q → A q) ∧ d ≤ R.frames ∧ 50 * d ≤ R.locals
/-- the world now -/
def xH (I : xI) (A : Nat → Prop) (s : State) (n0 : Nat) (ad0 ad : Nat → Nat) (X : List xE) (H : Heap) (locs : List Loc) : Prop :=
  (∀ i, i < n0 ∨ xB ≤ i → ad i = ad0 i) ∧ n0 ≤ X.length ∧ X.length ≤ xB ∧ va_P I.1 vwCl (xw I ad X) H ∧ va_D A (xw I ad X) ∧ va_S A s.heap H locs
/-- how it returns: an instruction of the code, an answer that its type takes -/
def xrt (M : xM) (pc : Nat) : Option Value → Prop
  | none => xret M = none ∧ decode (xcc M) pc = .ok (.return_, 1)
  | some (.int v) => decode (xcc M) pc = .ok (.ireturn, 1) ∧ ∃ ty, xret M = some ty ∧ narrow ty (.int v) = .int v
  | _ => False
def xG (L : xLn) (M : xM) (d mc ms : Nat) (Q : Option Value → List xE → Prop) (n0 : Nat) (p : Program) (e : Env) (R : Room) (s : State) (m : MethodId) (args : Array Value) (below : List Frame) (meth : Method) (c : Code) (I : xI) (A : Nat → Prop) (QF : State → Prop) (ad0 : Nat → Nat) : Prop :=
  xC M d p R s m args meth c I A ∧ mc ≤ R.cells ∧ ms ≤ R.slots ∧ xFF L ad0 A s s.heap ∧
  ∀ (r : Option Value) (X : List xE) (ad : Nat → Nat) (H : Heap) (locs : List Loc) (pc : Nat) (la : Array Slot), Q r X → X.all (xoke X.length) = true → xH I A s n0 ad0 ad X H locs → xrt M pc r → W p L.1 e R s m args below meth c H locs mc ms QF (F0 m pc la (r.toList.map (xv ad)))
/-- THE JUDGEMENT: from this abstract configuration the method comes to its end with Q -/
def AJ (L : xLn) (M : xM) (d mc ms : Nat) (Q : Option Value → List xE → Prop) (n0 : Nat) (z : Nat × Nat) (pc : Nat) (ls : List (Option Value)) (st : List Value) (X : List xE) : Prop :=
  ∀ (p : Program) (e : Env) (R : Room) (s : State) (m : MethodId) (args : Array Value) (below : List Frame) (meth : Method) (c : Code) (I : xI) (A : Nat → Prop) (QF : State → Prop) (ad0 : Nat → Nat), xG L M d mc ms Q n0 p e R s m args below meth c I A QF ad0 →
  ∀ (ad : Nat → Nat) (H : Heap) (locs : List Loc) (la : Array Slot), xH I A s n0 ad0 ad X H locs → xL la (xml M) ad ls → W p L.1 e R s m args below meth c H locs z.1 z.2 QF (F0 m pc la (st.map (xv ad)))
abbrev xW (M : xM) : List Cond := .code M.1 (xcc M) (xml M) (xret M) :: xtb
def xPc (L : xLn) (I : xI) (ad : Nat → Nat) (X : List xE) (sz : Nat) (av : List Value) : Array Value → State → Prop :=
  va_Pc (av.map (xv ad)) (fun U => U.heap.size = sz ∧ va_P I.1 vwCl (xw I ad X) U.heap ∧ va_K I.1 vwCl (xT I) U ∧ va_D (fun _ => True) (xw I ad X) ∧ xFF L ad (va_A (xw I ad X) sz) U U.heap)
def xQc (I : xI) (ad0 : Nat → Nat) (n0 : Nat) (A : Nat → Prop) (Q : Option Value → List xE → Prop) : Array Value → State → Outcome → State → Prop := fun _ st oc t =>
  (∃ (r : Option Value) (X : List xE) (ad : Nat → Nat), oc = .returned (r.map (xv ad)) ∧ (∀ i, i < n0 ∨ xB ≤ i → ad i = ad0 i) ∧ n0 ≤ X.length ∧ X.length ≤ xB ∧ X.all (xoke X.length) = true ∧ (∀ u, r = some u → xokv 0 u = true) ∧ Q r X ∧ va_P I.1 vwCl (xw I ad X) t.heap ∧ va_K I.1 vwCl (xT I) t ∧ va_D A (xw I ad X)) ∧ va_F A st t
abbrev xRm (d mc ms : Nat) : Room := { frames := d, cells := mc, slots := ms, locals := 50 * d }
/-- THE CONTRACT: called with av in the world X, the method returns, and Q holds of its answer and the world behind it -/
def CT (L : xLn) (M : xM) (d mc ms : Nat) (av : List Value) (X : List xE) (Q : Option Value → List xE → Prop) : Prop :=
  X.length ≤ xB ∧ ∀ (I : xI) (ad : Nat → Nat) (sz : Nat), Met L.1 M.1 (xW M) (xRm d mc ms) (xPc L I ad X sz av) (xQc I ad X.length (va_A (xw I ad X) sz) Q) mc ms (va_A (xw I ad X) sz)
theorem xPc_blind (L : xLn) (I : xI) (ad : Nat → Nat) (X : List xE) (sz : Nat) (av : List Value) : FrameBlind (xPc L I ad X sz av) := fun a U g mk q => by
  obtain ⟨q0, q1, qP, qK, qD, qF⟩ := q
  exact ⟨q0, q1, qP, va_K.moved (u := U) (U := U.calling g mk a) (Vm.Alike.refl U.vm) qK, qD, qF.same (U := U.calling g mk a) rfl⟩
def xfl : List Value → List (Option Value)
  | [] => []
  | v :: t => if v.category = 2 then some v :: none :: xfl t else some v :: xfl t
theorem xfl_args (ad : Nat → Nat) : ∀ (av : List Value) (b : Nat) (r : List (Option Value)), (∀ o ∈ r, o = none) → xls ad b (xfl av ++ r) = lv_args b (av.map (xv ad))
  | [], b, r, hr => by
    simp only [xfl, List.nil_append, List.map_nil, lv_args]
    induction r generalizing b with
    | nil => rfl
    | cons o t ih =>
      cases hr o List.mem_cons_self
      rw [xls]
      exact ih (b + 1) (fun o h => hr o (List.mem_cons_of_mem _ h))
  | v :: t, b, r, hr => by
    rw [List.map_cons, lv_args, xv_cat, xfl]
    by_cases h : v.category = 2
    · rw [if_pos h, if_pos h, List.cons_append, List.cons_append, xls, xls, xfl_args ad t (b + 1 + 1) r hr]
    · rw [if_neg h, if_neg h, List.cons_append, xls, xfl_args ad t (b + 1) r hr]
theorem xfl_len (ad : Nat → Nat) : ∀ av : List Value, (lg_sl (av.map (xv ad))).length = (xfl av).length
  | [] => rfl
  | v :: t => by
    have ih := xfl_len ad t
    simp only [lg_sl, List.map_cons, List.flatMap_cons, List.length_append, xv_cat, xfl] at ih ⊢
    by_cases h : v.category = 2
    · simp [h, ih]; omega
    · simp [h, ih]; omega
def xent (n : Nat) (av : List Value) : List (Option Value) := xfl av ++ List.replicate (n - (xfl av).length) none
theorem xent_L (ad : Nat → Nat) (n : Nat) (av : List Value) (h : (xfl av).length ≤ n) : xL ((lg_sl (av.map (xv ad)) ++ List.replicate (n - (lg_sl (av.map (xv ad))).length) Slot.unset).toArray) n ad (xent n av) := by
  refine ⟨?_, ?_⟩
  · unfold xent
    rw [xfl_args ad av 0 _ (fun o h => (List.mem_replicate.mp h).2)]
    exact lv_entry (av.map (xv ad)) (by rw [xfl_len]; exact h)
  · unfold xent
    rw [List.length_append, List.length_replicate]
    omega
set_option maxHeartbeats 1000000 in
/-- a contract out of the judgement at the method's entry -/
theorem CT.of {L : xLn} {M : xM} {d mc ms : Nat} {av : List Value} {X : List xE} {Q : Option Value → List xE → Prop} (hy : plainName M.1.cls = true) (hB : X.length ≤ xB) (hn : (xfl av).length ≤ xml M)
    (h : AJ L M d mc ms Q X.length (0, 0) 0 (xent (xml M) av) [] X) : CT L M d mc ms av X Q := by
  refine ⟨hB, fun I ad sz => ?_⟩
  refine Met.ofW (cc := xcc M) (maxL := xml M) (ret := xret M) hy rfl ?_
  intro p e s m args below meth c s₁ B hml hv
  obtain ⟨rfl, hsz, hP, hK, hD0, hF⟩ := hv
  subst hsz
  have hD := hD0.self (sz := s.heap.size)
  have hts := atoms_spec (ws := xW M) B.pre
  have hown : s.vm.findClass M.1.cls = some m.cls := findClass_of_methodNamed B.named
  have hA : ∀ q : Nat, s.heap.size ≤ q → va_A (xw I ad X) s.heap.size q := fun q h => Or.inr h
  have hlocks : meth.locks = false := B.notSynchronized
  have hin : M.1.name = "<init>" → meth.name = "<init>" := fun h => ((name_of_methodNamed B.named B.method).1).trans h
  rw [lg_entry_eq]
  refine h p e _ s m _ below meth c I (va_A (xw I ad X) s.heap.size) _ ad ⟨⟨B.exec, B.bytes, B.returns, hml, hown, fun w hw => hts w (List.mem_cons_of_mem _ hw), hK, B.notSynchronized, hin, hA, Nat.le_refl _, Nat.le_refl _⟩, Nat.le_refl _, Nat.le_refl _, hF, ?_⟩ ad s.heap [] _ ⟨fun _ _ => rfl, Nat.le_refl _, hB, hP, hD, va_S.rf⟩ (xent_L ad (xml M) av hn)
  intro r X' ad' H locs pc la hQ hwf hH hrt
  obtain ⟨ha, hn0, hB', hP', hD', hS⟩ := hH
  match r, hrt with
  | none, hrt =>
    exact W.vret B.exec B.bytes (B.returns.trans hrt.1) (fun t ht hW => ⟨⟨none, X', ad', rfl, ha, hn0, hB', hwf, (fun u h => by cases h), hQ, by rw [ht]; exact hP', va_K.moved hW.alike hK, hD'⟩, hS.F ht⟩) hS.2.2 hrt.2
  | some (.int v), hrt =>
    obtain ⟨hd, ty, h1, h2⟩ := hrt
    exact W.zret B.exec B.bytes (B.returns.trans h1) h2 (fun t ht hW => ⟨⟨some (.int v), X', ad', rfl, ha, hn0, hB', hwf, (fun u h => by cases h; rfl), hQ, by rw [ht]; exact hP', va_K.moved hW.alike hK, hD'⟩, hS.F ht⟩) hS.2.2 hd
end
section
/-! ===== one step, as what must hold before it ===== -/
abbrev xK : Type := (Nat × Nat) → Nat → List (Option Value) → List Value → List xE → Prop
def h_l (ls : List (Option Value)) (k : Nat) (f : Value → Prop) : Prop := match ls[k]? with
  | some (some v) => f v
  | _ => False
theorem h_l_i {ls : List (Option Value)} {k : Nat} {f : Value → Prop} (h : h_l ls k f) : ∃ v, ls[k]? = some (some v) ∧ f v := by
  unfold h_l at h; split at h
  · next v hv => exact ⟨v, hv, h⟩
  · exact h.elim
def h_vi (v : Value) (f : Int32 → Prop) : Prop := match v with
  | .int x => f x
  | _ => False
theorem h_vi_i {v : Value} {f : Int32 → Prop} (h : h_vi v f) : ∃ x, v = .int x ∧ f x := by
  unfold h_vi at h; split at h
  · exact ⟨_, rfl, h⟩
  · exact h.elim
def h_vj (v : Value) (f : Int64 → Prop) : Prop := match v with
  | .long x => f x
  | _ => False
theorem h_vj_i {v : Value} {f : Int64 → Prop} (h : h_vj v f) : ∃ x, v = .long x ∧ f x := by
  unfold h_vj at h; split at h
  · exact ⟨_, rfl, h⟩
  · exact h.elim
def h_vr (v : Value) (f : Nat → Prop) : Prop := match v with
  | .ref x => f x
  | _ => False
theorem h_vr_i {v : Value} {f : Nat → Prop} (h : h_vr v f) : ∃ x, v = .ref x ∧ f x := by
  unfold h_vr at h; split at h
  · exact ⟨_, rfl, h⟩
  · exact h.elim
def h_i (st : List Value) (f : Int32 → List Value → Prop) : Prop := match st with
  | .int x :: r => f x r
  | _ => False
theorem h_i_i {st : List Value} {f : Int32 → List Value → Prop} (h : h_i st f) : ∃ x r, st = .int x :: r ∧ f x r := by
  unfold h_i at h; split at h
  · exact ⟨_, _, rfl, h⟩
  · exact h.elim
def h_j (st : List Value) (f : Int64 → List Value → Prop) : Prop := match st with
  | .long x :: r => f x r
  | _ => False
theorem h_j_i {st : List Value} {f : Int64 → List Value → Prop} (h : h_j st f) : ∃ x r, st = .long x :: r ∧ f x r := by
  unfold h_j at h; split at h
  · exact ⟨_, _, rfl, h⟩
  · exact h.elim
def h_r (st : List Value) (f : Nat → List Value → Prop) : Prop := match st with
  | .ref x :: r => f x r
  | _ => False
theorem h_r_i {st : List Value} {f : Nat → List Value → Prop} (h : h_r st f) : ∃ x r, st = .ref x :: r ∧ f x r := by
  unfold h_r at h; split at h
  · exact ⟨_, _, rfl, h⟩
  · exact h.elim
/-- two ints: the lower one first -/
def h_ii (st : List Value) (f : Int32 → Int32 → List Value → Prop) : Prop := match st with
  | .int y :: .int x :: r => f x y r
  | _ => False
theorem h_ii_i {st : List Value} {f : Int32 → Int32 → List Value → Prop} (h : h_ii st f) : ∃ x y r, st = .int y :: .int x :: r ∧ f x y r := by
  unfold h_ii at h; split at h
  · exact ⟨_, _, _, rfl, h⟩
  · exact h.elim
def h_jj (st : List Value) (f : Int64 → Int64 → List Value → Prop) : Prop := match st with
  | .long y :: .long x :: r => f x y r
  | _ => False
theorem h_jj_i {st : List Value} {f : Int64 → Int64 → List Value → Prop} (h : h_jj st f) : ∃ x y r, st = .long y :: .long x :: r ∧ f x y r := by
  unfold h_jj at h; split at h
  · exact ⟨_, _, _, rfl, h⟩
  · exact h.elim
def h_ji (st : List Value) (f : Int64 → Int32 → List Value → Prop) : Prop := match st with
  | .int y :: .long x :: r => f x y r
  | _ => False
theorem h_ji_i {st : List Value} {f : Int64 → Int32 → List Value → Prop} (h : h_ji st f) : ∃ x y r, st = .int y :: .long x :: r ∧ f x y r := by
  unfold h_ji at h; split at h
  · exact ⟨_, _, _, rfl, h⟩
  · exact h.elim
def h_ri (st : List Value) (f : Nat → Int32 → List Value → Prop) : Prop := match st with
  | .int y :: .ref x :: r => f x y r
  | _ => False
theorem h_ri_i {st : List Value} {f : Nat → Int32 → List Value → Prop} (h : h_ri st f) : ∃ x y r, st = .int y :: .ref x :: r ∧ f x y r := by
  unfold h_ri at h; split at h
  · exact ⟨_, _, _, rfl, h⟩
  · exact h.elim
def h_rii (st : List Value) (f : Nat → Int32 → Int32 → List Value → Prop) : Prop := match st with
  | .int v :: .int y :: .ref x :: r => f x y v r
  | _ => False
theorem h_rii_i {st : List Value} {f : Nat → Int32 → Int32 → List Value → Prop} (h : h_rii st f) : ∃ x y v r, st = .int v :: .int y :: .ref x :: r ∧ f x y v r := by
  unfold h_rii at h; split at h
  · exact ⟨_, _, _, _, rfl, h⟩
  · exact h.elim
def h_rir (st : List Value) (f : Nat → Int32 → Nat → List Value → Prop) : Prop := match st with
  | .ref v :: .int y :: .ref x :: r => f x y v r
  | _ => False
theorem h_rir_i {st : List Value} {f : Nat → Int32 → Nat → List Value → Prop} (h : h_rir st f) : ∃ x y v r, st = .ref v :: .int y :: .ref x :: r ∧ f x y v r := by
  unfold h_rir at h; split at h
  · exact ⟨_, _, _, _, rfl, h⟩
  · exact h.elim
def h_rv (st : List Value) (f : Nat → Value → List Value → Prop) : Prop := match st with
  | v :: .ref x :: r => f x v r
  | _ => False
theorem h_rv_i {st : List Value} {f : Nat → Value → List Value → Prop} (h : h_rv st f) : ∃ x v r, st = v :: .ref x :: r ∧ f x v r := by
  unfold h_rv at h; split at h
  · exact ⟨_, _, _, rfl, h⟩
  · exact h.elim
def h_cp (st : List Value) (f : Nat → Int32 → Nat → Int32 → Int32 → List Value → Prop) : Prop := match st with
  | .int n :: .int dp :: .ref d :: .int sp :: .ref a :: r => f a sp d dp n r
  | _ => False
theorem h_cp_i {st : List Value} {f : Nat → Int32 → Nat → Int32 → Int32 → List Value → Prop} (h : h_cp st f) : ∃ a sp d dp n r, st = .int n :: .int dp :: .ref d :: .int sp :: .ref a :: r ∧ f a sp d dp n r := by
  unfold h_cp at h; split at h
  · exact ⟨_, _, _, _, _, _, rfl, h⟩
  · exact h.elim
/-- a value of one slot on top -/
def h_1 (st : List Value) (f : Value → List Value → Prop) : Prop := match st with
  | .int x :: r => f (.int x) r
  | .ref x :: r => f (.ref x) r
  | _ => False
theorem h_1_i {st : List Value} {f : Value → List Value → Prop} (h : h_1 st f) : ∃ v r, st = v :: r ∧ v.category = 1 ∧ f v r := by
  unfold h_1 at h; split at h
  · exact ⟨_, _, rfl, rfl, h⟩
  · exact ⟨_, _, rfl, rfl, h⟩
  · exact h.elim
/-- a row of ints (0) or of booleans (1) -/
def h_a (X : List xE) (k t : Nat) (f : Nat → (Nat → Int32) → Prop) : Prop := match X[k]? with
  | some (.inl (t', n, g)) => bif Nat.beq t' t then f n g else False
  | _ => False
theorem h_a_i {X : List xE} {k t : Nat} {f : Nat → (Nat → Int32) → Prop} (h : h_a X k t f) : ∃ n g, X[k]? = some (.inl (t, n, g)) ∧ f n g := by
  unfold h_a at h; split at h
  · next t' n g hX =>
    cases hb : Nat.beq t' t with
    | false => rw [hb] at h; exact h.elim
    | true => rw [hb] at h; rw [Nat.eq_of_beq_eq_true hb] at hX; exact ⟨n, g, hX, h⟩
  · exact h.elim
def h_q (X : List xE) (k : Nat) (f : List (Option Nat) → Prop) : Prop := match X[k]? with
  | some (.inr (.inl l)) => f l
  | _ => False
theorem h_q_i {X : List xE} {k : Nat} {f : List (Option Nat) → Prop} (h : h_q X k f) : ∃ l, X[k]? = some (.inr (.inl l)) ∧ f l := by
  unfold h_q at h; split at h
  · next l hX => exact ⟨l, hX, h⟩
  · exact h.elim
/-- an object of class number ci -/
def h_o (X : List xE) (k ci : Nat) (f : List Value → Prop) : Prop := match X[k]? with
  | some (.inr (.inr (c, fs))) => bif Nat.beq c ci then f fs else False
  | _ => False
theorem h_o_i {X : List xE} {k ci : Nat} {f : List Value → Prop} (h : h_o X k ci f) : ∃ fs, X[k]? = some (.inr (.inr (ci, fs))) ∧ f fs := by
  unfold h_o at h; split at h
  · next c fs hX =>
    cases hb : Nat.beq c ci with
    | false => rw [hb] at h; exact h.elim
    | true => rw [hb] at h; rw [Nat.eq_of_beq_eq_true hb] at hX; exact ⟨fs, hX, h⟩
  · exact h.elim
def h_s {α : Type} (o : Option α) (f : α → Prop) : Prop := match o with
  | some v => f v
  | none => False
theorem h_s_i {α : Type} {o : Option α} {f : α → Prop} (h : h_s o f) : ∃ v, o = some v ∧ f v := by
  cases o with
  | none => exact h.elim
  | some v => exact ⟨v, rfl, h⟩
def h_b (b : Bool) (P : Prop) : Prop := bif b then P else False
theorem h_b_i {b : Bool} {P : Prop} (h : h_b b P) : b = true ∧ P := by
  cases b with
  | false => exact h.elim
  | true => exact ⟨rfl, h⟩
/-- may a value be written into a field of this kind (0 int, 1 boolean, 2 reference) -/
def h_f (t : Nat) (v : Value) (P : Prop) : Prop := match t with
  | 0 => match v with
    | .int _ => P
    | _ => False
  | 1 => match v with
    | .int x => (x = 0 ∨ x = 1) ∧ P
    | _ => False
  | 2 => match v with
    | .ref _ => P
    | _ => False
  | _ => match v with
    | .long _ => P
    | _ => False
/-- what the classes' fields hold at first -/
def xdf : List (List Value) := [
  [.null, .int 0, .int 0, .int 0, .null, .null, .null, .int 0, .null, .null, .null, .null, .int 0, .int 0, .null],
  [.null, .null, .null, .null, .null, .int 0, .int 0, .int 0, .int 0, .int 0, .int 0, .int 0, .int 0],
  [.null, .null, .null, .null, .int 0],
  [.null, .null, .null, .int 0, .int 0, .int 0, .int 0, .int 0, .null],
  [.null, .null, .null, .null, .int 0, .int 0, .int 0, .int 0],
  [.null, .int 0],
  [.int 0, .int 0, .int 0, .int 0, .int 0, .int 0, .null, .null, .null, .int 0, .null, .null, .int 0, .null, .null, .null, .null],
  [.null, .null, .null, .null, .null, .null, .null, .null, .null],
  [.int 0, .int 0, .int 0, .int 0, .int 0, .int 0, .null, .int 0, .null, .int 0, .null, .int 0, .null, .int 0, .null, .int 0, .int 0, .long 0, .int 0, .int 0, .int 0, .int 0, .int 0, .int 0, .int 0, .null, .null, .null, .null, .null, .int 0, .int 0, .int 0, .null, .int 0, .int 0, .null]]
def xswk (x : Int32) (dn : Nat) (f : Nat → Prop) : List (Int32 × Nat) → Prop
  | [] => f dn
  | (v, t) :: r => (x = v → f t) ∧ (¬ x = v → xswk x dn f r)

def xmt (t : Nat) (w : Cond) : Bool := decide (tables_1[t]? = some w)
def xmm (w : Cond) : Bool := decide (w ∈ tables_1)
/-- a field's row: class number a, field b, its kind tg, final or not -/
def xfk (own : String) (idx a b t : Nat) : Bool := match vwCl[a]? with
  | some r => Nat.blt b r.2.2 && xmt t (.fieldLink own idx (r.2.1 b).1 (r.2.1 b).2.1 (r.2.1 b).2.2.1)
  | none => false
def xisr (o : Option FieldType) : Bool := match o with
  | some (.object _) => true
  | some (.array _) => true
  | _ => false
theorem xisr_i {o : Option FieldType} (h : xisr o = true) : ∃ ty, o = some ty ∧ ((∃ n, ty = .object n) ∨ ∃ t, ty = .array t) := by
  unfold xisr at h
  split at h
  · exact ⟨_, rfl, Or.inl ⟨_, rfl⟩⟩
  · exact ⟨_, rfl, Or.inr ⟨_, rfl⟩⟩
  · cases h
def xfw (own : String) (a b tg : Nat) (v : Int32) : Bool := match vwCl[a]? with
  | some r => decide ((r.2.1 b).2.2.2 = decide (v = 1)) && (decide (v = 0) || decide ((r.2.1 b).1 = own)) && (match tg with
    | 0 => decide (parseFieldDescriptor (r.2.1 b).2.2.1 = some .int)
    | 1 => decide (parseFieldDescriptor (r.2.1 b).2.2.1 = some .boolean)
    | 2 => xisr (parseFieldDescriptor (r.2.1 b).2.2.1)
    | _ => decide (parseFieldDescriptor (r.2.1 b).2.2.1 = some .long))
  | none => false
def xswT (pc : Nat) (lo : Int) : List Int → List (Int32 × Int)
  | [] => []
  | o :: r => (Int32.ofInt lo, (pc : Int) + o) :: xswT pc (lo + 1) r
/-- is the row as the code and the tables have it -/
def xck (own : String) (ini : Bool) (cc : ByteArray) (pc : Nat) (o : xO) : Bool := match o with
  | (i, nx, tg, v, w, a, b, t, sw) => decide (decode cc pc = .ok (i, nx - pc)) && (match i with
    | .iconst n => Nat.beq nx (pc + 1) && decide (Int32.ofInt n = v)
    | .bipush n => Nat.beq nx (pc + 2) && decide ((Int8.ofInt n).toInt32 = v)
    | .sipush n => Nat.beq nx (pc + 3) && decide ((Int16.ofInt n).toInt32 = v)
    | .ldc n => Nat.beq nx (pc + 2) && (match a with
      | 0 => xmt t (.constant own n v)
      | _ => decide (own = "NeededStop$Reader") && Nat.beq (xsk.getD b 0) n)
    | .ldc_w n => Nat.beq nx (pc + 3) && xmt t (.constant own n v)
    | .ldc2_w n => Nat.beq nx (pc + 3) && xmt t (.constantLong own n w)
    | .lconst n => Nat.beq nx (pc + 1) && decide (Int64.ofNat (n : Nat) = w)
    | .iload _ => Nat.beq nx (pc + 2)
    | .aload _ => Nat.beq nx (pc + 2)
    | .istore _ => Nat.beq nx (pc + 2)
    | .iinc _ n => Nat.beq nx (pc + 3) && decide (Int32.ofInt n = v)
    | .goto off => Nat.beq nx (pc + 3) && decide ((pc : Int) + off = (tg : Int))
    | .ifCond _ off => Nat.beq nx (pc + 3) && decide ((pc : Int) + off = (tg : Int))
    | .if_icmp _ off => Nat.beq nx (pc + 3) && decide ((pc : Int) + off = (tg : Int))
    | .tableswitch df lo hi offs => decide ((pc : Int) + df = (tg : Int)) && decide (lo = 0) && decide (hi + 1 = (offs.size : Int)) && Nat.blt offs.size 100 && decide (sw.map (fun q => (q.1, (q.2 : Int))) = xswT pc 0 offs.toList)
    | .lookupswitch df ps => decide ((pc : Int) + df = (tg : Int)) && decide ((ps.toList.zip (ps.toList.drop 1)).all (fun (a, next) => a.1 < next.1) = true) && decide (sw.map (fun q => (q.1.toInt, (q.2 : Int))) = ps.toList.map (fun q => (q.1, (pc : Int) + q.2)))
    | .getfield n => Nat.beq nx (pc + 3) && (match a with
      | 100 => (match b with
        | 0 => xmt t (.fieldLink own n "java/lang/String" "value" "[B")
        | _ => xmt t (.fieldLink own n "java/lang/String" "coder" "B"))
      | _ => xfk own n a b t)
    | .putfield n => Nat.beq nx (pc + 3) && xfk own n a b t && xfw own a b tg v && (decide (v = 0) || ini)
    | .getstatic n => Nat.beq nx (pc + 3) && (match a with
      | 1 => xmt t (.fieldLink own n "NeededStop$Reader" "NUMBERS" "[I")
      | _ => xmt t (.fieldLink own n "java/lang/String" "COMPACT_STRINGS" "Z"))
    | .new n => Nat.beq nx (pc + 3) && (match vwCl[a]? with
      | some r => xmt t (.classLink own n r.1) && xmm (.instantiable r.1 r.2.2) && xmm (.initialized r.1) && Nat.beq (xdf.getD a []).length r.2.2 && (List.range r.2.2).all (fun j => match parseFieldDescriptor (r.2.1 j).2.2.1 with
        | some ty => decide (defaultValue ty = vp_V (xdf.getD a []) j)
        | none => false)
      | none => false)
    | .newarray ty => Nat.beq nx (pc + 2) && Nat.blt b 65536 && (match ty with
      | .int => Nat.beq a 0
      | .boolean => Nat.beq a 1
      | _ => false) && xmm (.arrayClass (newarray.typeOf ty))
    | .anewarray n => Nat.beq nx (pc + 3) && Nat.blt b 65536 && xmt t (.classLink own n "NeededStop$Day")
    | .invokestatic n => Nat.beq nx (pc + 3) && (match a with
      | 1 => xmt t (.methodLink own n Lib.Math.max.name) && xmm (.static Lib.Math.max.name) && xmm (.initialized "java/lang/Math") && xmm (.code Lib.Math.max.name Lib.Math.max.code 2 (some .int))
      | 2 => xmt t (.methodLink own n Lib.Math.min.name) && xmm (.static Lib.Math.min.name) && xmm (.initialized "java/lang/Math") && xmm (.code Lib.Math.min.name Lib.Math.min.code 2 (some .int))
      | 3 => xmt t (.methodLink own n arraycopyName) && xmm (.native arraycopyName) && xmm (.static arraycopyName) && xmm (.initialized "java/lang/System")
      | _ => true)
    | .invokespecial n => Nat.beq nx (pc + 3) && (match a with
      | 1 => xmt t (.methodLink own n Lib.objectInit) && xmm (.instanceMethod Lib.objectInit) && xmm (.code Lib.objectInit ⟨#[0xb1]⟩ 1 none)
      | _ => true)
    | .invokevirtual _ => Nat.beq nx (pc + 3)
    | _ => Nat.beq nx (pc + 1))
def xal (z : Nat × Nat) (mc ms N : Nat) (ls : List (Option Value)) (st : List Value) (X : List xE) : Bool :=
  Nat.blt z.1 mc && Nat.ble (z.2 + N) ms && Nat.blt X.length xB && X.all (xoke X.length) && ls.all (fun o => match o with | none => true | some v => xokv X.length v) && st.all (xokv X.length)
def xrr (M : xM) (Q : Option Value → List xE → Prop) (st : List Value) (X : List xE) : Prop := match st with
  | [.int x] => match xret M with
    | some .int => Q (some (.int x)) X
    | some .boolean => (x = 0 ∨ x = 1) ∧ Q (some (.int x)) X
    | some .char => narrow .char (.int x) = .int x ∧ Q (some (.int x)) X
    | some .byte => narrow .byte (.int x) = .int x ∧ Q (some (.int x)) X
    | _ => False
  | _ => False
/-- what must hold ahead of a row, if k is what must hold behind it, and stop here -/
def xs1 (L : xLn) (M : xM) (d mc ms : Nat) (Q : Option Value → List xE → Prop) (o : xO) (z : Nat × Nat) (ls : List (Option Value)) (st : List Value) (X : List xE) (k : xK) (stop : Prop) : Prop := match o with
  | (i, nx, tg, v, w, a, b, _, sw) => match i with
    | .iconst _ => k z nx ls (.int v :: st) X
    | .bipush _ => k z nx ls (.int v :: st) X
    | .sipush _ => k z nx ls (.int v :: st) X
    | .ldc _ => match a with
      | 0 => k z nx ls (.int v :: st) X
      | _ => h_b (Nat.blt b 10) (k z nx ls (.ref (xB + 1 + b) :: st) X)
    | .ldc_w _ => k z nx ls (.int v :: st) X
    | .ldc2_w _ => k z nx ls (.long w :: st) X
    | .lconst _ => k z nx ls (.long w :: st) X
    | .iload_n n => h_l ls n.val fun u => h_vi u fun x => k z nx ls (.int x :: st) X
    | .iload n => h_l ls n fun u => h_vi u fun x => k z nx ls (.int x :: st) X
    | .lload_n n => h_l ls n.val fun u => h_vj u fun x => k z nx ls (.long x :: st) X
    | .aload_n n => h_l ls n.val fun u => h_vr u fun x => k z nx ls (.ref x :: st) X
    | .aload n => h_l ls n fun u => h_vr u fun x => k z nx ls (.ref x :: st) X
    | .istore_n n => h_i st fun x r => h_b (xlok ls n.val) (k z nx (ls.set n.val (some (.int x))) r X)
    | .istore n => h_i st fun x r => h_b (xlok ls n) (k z nx (ls.set n (some (.int x))) r X)
    | .astore_n n => h_r st fun x r => h_b (xlok ls n.val) (k z nx (ls.set n.val (some (.ref x))) r X)
    | .iinc n _ => h_l ls n fun u => h_vi u fun x => h_b (xlok ls n) (k z nx (ls.set n (some (.int (x + v)))) st X)
    | .iadd => h_ii st fun x y r => k z nx ls (.int (x + y) :: r) X
    | .isub => h_ii st fun x y r => k z nx ls (.int (x - y) :: r) X
    | .imul => h_ii st fun x y r => k z nx ls (.int (x * y) :: r) X
    | .iand => h_ii st fun x y r => k z nx ls (.int (x &&& y) :: r) X
    | .ior => h_ii st fun x y r => k z nx ls (.int (x ||| y) :: r) X
    | .ixor => h_ii st fun x y r => k z nx ls (.int (x ^^^ y) :: r) X
    | .ishl => h_ii st fun x y r => k z nx ls (.int (x <<< (y &&& 31)) :: r) X
    | .ishr => h_ii st fun x y r => k z nx ls (.int (x >>> (y &&& 31)) :: r) X
    | .iushr => h_ii st fun x y r => k z nx ls (.int (x.toUInt32 >>> (y.toUInt32 &&& Int32.toUInt32 31)).toInt32 :: r) X
    | .idiv => h_ii st fun x y r => ¬ y = 0 ∧ k z nx ls (.int (x / y) :: r) X
    | .irem => h_ii st fun x y r => ¬ y = 0 ∧ k z nx ls (.int (x - x / y * y) :: r) X
    | .ladd => h_jj st fun x y r => k z nx ls (.long (x + y) :: r) X
    | .lsub => h_jj st fun x y r => k z nx ls (.long (x - y) :: r) X
    | .lmul => h_jj st fun x y r => k z nx ls (.long (x * y) :: r) X
    | .land => h_jj st fun x y r => k z nx ls (.long (x &&& y) :: r) X
    | .lor => h_jj st fun x y r => k z nx ls (.long (x ||| y) :: r) X
    | .lshl => h_ji st fun x y r => k z nx ls (.long (x <<< (y.toInt64 &&& 63)) :: r) X
    | .lshr => h_ji st fun x y r => k z nx ls (.long (x >>> (y.toInt64 &&& 63)) :: r) X
    | .lcmp => h_jj st fun x y r => k z nx ls (.int (lg_cmp x y) :: r) X
    | .i2l => h_i st fun x r => k z nx ls (.long x.toInt64 :: r) X
    | .l2i => h_j st fun x r => k z nx ls (.int x.toInt32 :: r) X
    | .i2c => h_i st fun x r => k z nx ls (.int (x.toUInt32 % 65536).toInt32 :: r) X
    | .dup => h_1 st fun u r => k z nx ls (u :: u :: r) X
    | .dup2 => h_1 st fun u r => h_1 r fun u2 r2 => k z nx ls (u :: u2 :: u :: u2 :: r2) X
    | .pop => h_1 st fun _ r => k z nx ls r X
    | .goto _ => k z tg ls st X
    | .ifCond .eq _ => h_i st fun x r => (x = 0 → k z tg ls r X) ∧ (¬ x = 0 → k z nx ls r X)
    | .ifCond .ne _ => h_i st fun x r => (¬ x = 0 → k z tg ls r X) ∧ (x = 0 → k z nx ls r X)
    | .ifCond .lt _ => h_i st fun x r => (x < 0 → k z tg ls r X) ∧ (¬ x < 0 → k z nx ls r X)
    | .ifCond .ge _ => h_i st fun x r => (0 ≤ x → k z tg ls r X) ∧ (¬ 0 ≤ x → k z nx ls r X)
    | .ifCond .gt _ => h_i st fun x r => (0 < x → k z tg ls r X) ∧ (¬ 0 < x → k z nx ls r X)
    | .ifCond .le _ => h_i st fun x r => (x ≤ 0 → k z tg ls r X) ∧ (¬ x ≤ 0 → k z nx ls r X)
    | .if_icmp .eq _ => h_ii st fun x y r => (x = y → k z tg ls r X) ∧ (¬ x = y → k z nx ls r X)
    | .if_icmp .ne _ => h_ii st fun x y r => (¬ x = y → k z tg ls r X) ∧ (x = y → k z nx ls r X)
    | .if_icmp .lt _ => h_ii st fun x y r => (x < y → k z tg ls r X) ∧ (¬ x < y → k z nx ls r X)
    | .if_icmp .ge _ => h_ii st fun x y r => (y ≤ x → k z tg ls r X) ∧ (¬ y ≤ x → k z nx ls r X)
    | .if_icmp .gt _ => h_ii st fun x y r => (y < x → k z tg ls r X) ∧ (¬ y < x → k z nx ls r X)
    | .if_icmp .le _ => h_ii st fun x y r => (x ≤ y → k z tg ls r X) ∧ (¬ x ≤ y → k z nx ls r X)
    | .tableswitch _ _ _ _ => h_i st fun x r => xswk x tg (fun t => k z t ls r X) sw
    | .lookupswitch _ _ => h_i st fun x r => xswk x tg (fun t => k z t ls r X) sw
    | .getfield _ => h_r st fun q r => match a with
      | 100 => h_b (Nat.ble (xB + 1) q && Nat.blt q (xB + 11)) (match b with
        | 0 => k z nx ls (.ref (q + 10) :: r) X
        | _ => k z nx ls (.int 0 :: r) X)
      | _ => h_o X q a fun fs => h_s fs[b]? fun u => k z nx ls (u :: r) X
    | .putfield _ => h_rv st fun q u r => h_o X q a fun fs => h_b (Nat.blt b fs.length) (h_f tg u (k z nx ls r (X.set q (.inr (.inr (a, fs.set b u))))))
    | .getstatic _ => match a with
      | 1 => k z nx ls (.ref xB :: st) X
      | 2 => k z nx ls (.int 1 :: st) X
      | _ => stop
    | .iaload => h_ri st fun q i r => bif Nat.beq q xB then vp_in i 10 ∧ k z nx ls (.int (xnum.getD i.toNatClampNeg 0) :: r) X else bif Nat.beq q (xB + 40) then vp_in i L.2.1 ∧ k z nx ls (.int (L.2.2 i.toNatClampNeg) :: r) X else h_a X q 0 fun n f => vp_in i n ∧ k z nx ls (.int (f i.toNatClampNeg) :: r) X
    | .baload => h_ri st fun q i r => bif Nat.ble (xB + 11) q && Nat.blt q (xB + 21) then vp_in i (xsl.getD (q - (xB + 11)) 0) ∧ k z nx ls (.int ((xsb.getD (q - (xB + 11)) []).getD i.toNatClampNeg 0) :: r) X else h_a X q 1 fun n f => vp_in i n ∧ k z nx ls (.int (f i.toNatClampNeg) :: r) X
    | .iastore => h_rii st fun q i x r => h_a X q 0 fun n f => vp_in i n ∧ k z nx ls r (X.set q (.inl (0, n, upd f i.toNatClampNeg x)))
    | .bastore => h_rii st fun q i x r => h_a X q 1 fun n f => vp_in i n ∧ (x = 0 ∨ x = 1) ∧ k z nx ls r (X.set q (.inl (1, n, upd f i.toNatClampNeg x)))
    | .aaload => h_ri st fun q i r => h_q X q fun c => vp_in i c.length ∧ h_s (c[i.toNatClampNeg]?.join) fun u => k z nx ls (.ref u :: r) X
    | .aastore => h_rir st fun q i u r => h_q X q fun c => h_o X u 0 fun _ => vp_in i c.length ∧ k z nx ls r (X.set q (.inr (.inl (c.set i.toNatClampNeg (some u)))))
    | .arraylength => h_r st fun q r => bif Nat.beq q (xB + 40) then k z nx ls (.int (nI L.2.1) :: r) X else bif Nat.ble (xB + 11) q && Nat.blt q (xB + 21) then k z nx ls (.int (nI (xsl.getD (q - (xB + 11)) 0)) :: r) X else h_a X q 0 fun n _ => k z nx ls (.int (nI n) :: r) X
    | .new _ => h_b (xal z mc ms (xdf.getD a []).length ls st X) (k (z.1 + 1, z.2 + (xdf.getD a []).length) nx ls (.ref X.length :: st) (X ++ [.inr (.inr (a, xdf.getD a []))]))
    | .newarray _ => h_i st fun x r => h_b (decide (x = nI b) && xal z mc ms b ls r X) (k (z.1 + 1, z.2 + b) nx ls (.ref X.length :: r) (X ++ [.inl (a, b, fun _ => 0)]))
    | .anewarray _ => h_i st fun x r => h_b (decide (x = nI b) && xal z mc ms b ls r X) (k (z.1 + 1, z.2 + b) nx ls (.ref X.length :: r) (X ++ [.inr (.inl (List.replicate b none))]))
    | .invokestatic _ => match a with
      | 1 => h_ii st fun x y r => h_b (Nat.blt 0 d && Nat.ble (r.map fun v => v.category).sum 8 && Nat.ble z.1 mc && Nat.ble z.2 ms) (k z nx ls (.int (if x < y then y else x) :: r) X)
      | 2 => h_ii st fun x y r => h_b (Nat.blt 0 d && Nat.ble (r.map fun v => v.category).sum 8 && Nat.ble z.1 mc && Nat.ble z.2 ms) (k z nx ls (.int (if y < x then y else x) :: r) X)
      | 3 => h_cp st fun s0 sp d0 dp n r => h_a X s0 0 fun n0 f => h_a X d0 0 fun n1 _ => h_b (Nat.blt 0 d && Nat.ble (r.map fun v => v.category).sum 8 && decide (sp = 0) && decide (dp = 0) && Nat.beq n0 n1 && decide (n = nI n1) && Nat.blt n1 65536) (k z nx ls r (X.set d0 (.inl (0, n1, f))))
      | _ => stop
    | .invokespecial _ => match a with
      | 1 => h_r st fun _ r => h_b (Nat.blt 0 d && Nat.ble (r.map fun v => v.category).sum 8) (k z nx ls r X)
      | _ => stop
    | .ireturn => h_b (Nat.ble z.1 mc && Nat.ble z.2 ms && X.all (xoke X.length)) (xrr M Q st X)
    | .return_ => h_b (Nat.ble z.1 mc && Nat.ble z.2 ms && X.all (xoke X.length)) (match st, xret M with
      | [], none => Q none X
      | _, _ => False)
    | _ => stop
end
section
/-! ===== one step is sound ===== -/
theorem xmt_in {t : Nat} {w : Cond} (h : xmt t w = true) (hg : goodWord w = true) : w ∈ xtb := xtb_at t (of_decide_eq_true h) hg
theorem xmm_in {w : Cond} (h : xmm w = true) (hg : goodWord w = true) : w ∈ xtb := xtb_in (of_decide_eq_true h) hg
theorem xcls_in : ∀ r ∈ vwCl, ∀ w ∈ u_ws r.1 r.2.1 r.2.2, w ∈ tables_1 := by decide +kernel
theorem xcls_gd : ∀ r ∈ vwCl, ∀ w ∈ u_ws r.1 r.2.1 r.2.2, goodWord w = true := by decide +kernel
theorem xcls {a : Nat} {r : vw_C} (h : vwCl[a]? = some r) : ∀ w ∈ u_ws r.1 r.2.1 r.2.2, w ∈ xtb := fun w hw => xtb_in (xcls_in r (List.mem_of_getElem? h) w hw) (xcls_gd r (List.mem_of_getElem? h) w hw)
def xtyF (r : vw_C) (k : Nat) : FieldType := (parseFieldDescriptor (r.2.1 k).2.2.1).getD .int
theorem xty_ok : ∀ r ∈ vwCl, ∀ k, k < r.2.2 → parseFieldDescriptor (r.2.1 k).2.2.1 = some (xtyF r k) := by decide +kernel
theorem xnm_ok : ∀ r ∈ vwCl, ∀ a, a < r.2.2 → ∀ b, b < r.2.2 → a ≠ b → (r.2.1 a).2.1 ≠ (r.2.1 b).2.1 := by decide +kernel
theorem xnx {nx pc j : Nat} (h : Nat.beq nx (pc + j) = true) : nx = pc + j := Nat.eq_of_beq_eq_true h
section XS
variable {p : Program} {l : Launch} {e : Env} {R : Room} {s : State} {m : MethodId} {args : Array Value} {below : List Frame} {meth : Method} {c : Code} {H : Heap} {locs : List Loc} {cells slots : Nat} {Q : State → Prop} {cc : ByteArray} {pc : Nat} {la la' : Array Slot} {rest : List Value}
theorem x_istore_n (hexec : p.tables.exec = Jvm.exec) (hb : c.code = cc) {k : Fin 4} {x : Int32} (hdg : decode cc pc = .ok (.istore_n k, 1)) (e' : storeLocals la k.val (.int x) = some la') (kk : W p l e R s m args below meth c H locs cells slots Q (F0 m (pc + 1) la' rest)) : W p l e R s m args below meth c H locs cells slots Q (F0 m pc la (.int x :: rest)) := by
  intro T hT X
  obtain ⟨t, a, b⟩ := kk T hT X
  refine ⟨t, ?_, b⟩
  jvm_step X.here [X.here.top, ↓top_set X.here.top, hexec, hb, hdg, e']
  exact a
theorem x_istore (hexec : p.tables.exec = Jvm.exec) (hb : c.code = cc) {k : Nat} {x : Int32} (hdg : decode cc pc = .ok (.istore k, 2)) (e' : storeLocals la k (.int x) = some la') (kk : W p l e R s m args below meth c H locs cells slots Q (F0 m (pc + 2) la' rest)) : W p l e R s m args below meth c H locs cells slots Q (F0 m pc la (.int x :: rest)) := by
  intro T hT X
  obtain ⟨t, a, b⟩ := kk T hT X
  refine ⟨t, ?_, b⟩
  jvm_step X.here [X.here.top, ↓top_set X.here.top, hexec, hb, hdg, e']
  exact a
theorem x_astore_n (hexec : p.tables.exec = Jvm.exec) (hb : c.code = cc) {k : Fin 4} {x : Nat} (hdg : decode cc pc = .ok (.astore_n k, 1)) (e' : storeLocals la k.val (.ref x) = some la') (kk : W p l e R s m args below meth c H locs cells slots Q (F0 m (pc + 1) la' rest)) : W p l e R s m args below meth c H locs cells slots Q (F0 m pc la (.ref x :: rest)) := by
  intro T hT X
  obtain ⟨t, a, b⟩ := kk T hT X
  refine ⟨t, ?_, b⟩
  jvm_step X.here [X.here.top, ↓top_set X.here.top, hexec, hb, hdg, e', Value.isRef]
  exact a
theorem x_iinc (hexec : p.tables.exec = Jvm.exec) (hb : c.code = cc) {k : Nat} {n : Int} {x v : Int32} (hdg : decode cc pc = .ok (.iinc k n, 3)) (hg : la[k]? = some (.val (.int x))) (hv : Int32.ofInt n = v) (e' : storeLocals la k (.int (x + v)) = some la') (kk : W p l e R s m args below meth c H locs cells slots Q (F0 m (pc + 3) la' rest)) : W p l e R s m args below meth c H locs cells slots Q (F0 m pc la rest) := by
  subst hv
  intro T hT X
  obtain ⟨t, a, b⟩ := kk T hT X
  refine ⟨t, ?_, b⟩
  jvm_step X.here [X.here.top, ↓top_set X.here.top, hexec, hb, hdg, hg, e']
  exact a
end XS
theorem xcell_cp {cA : ClassId} {n : Nat} {f g : Nat → Int32} : vp_cell cA (n, .inl (va_cpy f g 0 0 n)) = vp_cell cA (n, .inl f) := by
  rw [vp_cell_i, vp_cell_i]
  unfold arrV
  congr 1
  apply Array.ext
  · simp
  · intro i h1 h2
    simp only [Array.getElem_ofFn]
    have : i < n := by simpa using h1
    simp [va_cpy, this]
theorem xfits_ref {ty : FieldType} (h : (∃ n, ty = .object n) ∨ ∃ t, ty = .array t) (k : Nat) : narrow ty (.ref k) = .ref k ∧ fits ty (.ref k) = true := by
  rcases h with ⟨n, rfl⟩ | ⟨t, rfl⟩ <;> exact ⟨rfl, rfl⟩
theorem xup_list {l : List (Option Nat)} {i u : Nat} (ad : Nat → Nat) (hi : i < l.length) : (fun j : Nat => ((l.set i (some u))[j]?.join).map ad) = va_up (fun j : Nat => (l[j]?.join).map ad) i (some (ad u)) := by
  funext j
  unfold va_up
  by_cases h : j = i
  · subst h
    rw [if_pos rfl, List.getElem?_set_self hi]; rfl
  · rw [if_neg h, List.getElem?_set_ne (Ne.symm h)]
theorem vp_in_lt {i : Int32} {n : Nat} (h : vp_in i n) : i.toNatClampNeg < n := Nat.not_le.mp fun q => h (Or.inr q)
/-- a cell written -/
theorem xH.put {I : xI} {A : Nat → Prop} {s : State} {n0 : Nat} {ad0 ad : Nat → Nat} {X : List xE} {H H1 : Heap} {locs locs1 : List Loc} (h : xH I A s n0 ad0 ad X H locs) {k : Nat} {c : xE} (hP : va_P I.1 vwCl ((xw I ad X).set k (ad k, xe I ad c)) H1) (hD : va_D A ((xw I ad X).set k (ad k, xe I ad c))) (hS : va_S A s.heap H1 locs1) : xH I A s n0 ad0 ad (X.set k c) H1 locs1 := by
  rw [xw_set] at hP hD
  exact ⟨h.1, by rw [List.length_set]; exact h.2.1, by rw [List.length_set]; exact h.2.2.1, hP, hD, hS⟩
/-- a cell made: the address map grows -/
theorem xH.push {I : xI} {A : Nat → Prop} {s : State} {n0 : Nat} {ad0 ad : Nat → Nat} {X : List xE} {H H1 : Heap} {locs locs1 : List Loc} (h : xH I A s n0 ad0 ad X H locs) {q : Nat} {c : xE} (hB : X.length < xB) (hok : X.all (xoke X.length) = true) (hc : xe I ad c = xe I (va_up ad X.length q) c)
    (hP : va_P I.1 vwCl (xw I ad X ++ [(q, xe I ad c)]) H1) (hD : va_D A (xw I ad X ++ [(q, xe I ad c)])) (hS : va_S A s.heap H1 locs1) : xH I A s n0 ad0 (va_up ad X.length q) (X ++ [c]) H1 locs1 ∧ ∀ k, k < X.length ∨ xB ≤ k → ad k = va_up ad X.length q k := by
  have ha : ∀ k, k < X.length ∨ xB ≤ k → ad k = va_up ad X.length q k := fun k hk => by
    unfold va_up
    rw [if_neg (by omega)]
  have e1 : xw I ad X = xw I (va_up ad X.length q) X := xw_congr ha (fun k hk => Or.inl hk) (fun c hc => xoke_sp (List.all_eq_true.mp hok c hc))
  have e2 : xw I ad X ++ [(q, xe I ad c)] = xw I (va_up ad X.length q) (X ++ [c]) := by
    rw [e1, hc, ← xw_push]
    congr 3
    unfold va_up
    rw [if_pos rfl]
  rw [e2] at hP hD
  refine ⟨⟨fun i hi => ?_, ?_, ?_, hP, hD, hS⟩, ha⟩
  · have := h.2.1
    rw [← ha i (by omega)]
    exact h.1 i hi
  · rw [List.length_append]; have := h.2.1; simp; omega
  · rw [List.length_append]; simp; omega
end
section
/-! ===== every row is sound ===== -/
theorem xsw_sound {x : Int32} {dn : Nat} {f : Nat → Prop} : ∀ {sw : List (Int32 × Nat)}, xswk x dn f sw → (∃ (j t : Nat), sw[j]? = some (x, t) ∧ f t ∧ ∀ (i : Nat) (q : Int32 × Nat), i < j → sw[i]? = some q → q.1 ≠ x) ∨ ((∀ q ∈ sw, q.1 ≠ x) ∧ f dn)
  | [], h => Or.inr ⟨fun _ hq => (by cases hq), h⟩
  | (v, t) :: r, h => by
    by_cases hv : x = v
    · subst hv
      exact Or.inl ⟨0, t, rfl, h.1 rfl, fun i q hi => absurd hi (Nat.not_lt_zero i)⟩
    · rcases xsw_sound (h.2 hv) with ⟨j, t', h1, h2, h3⟩ | ⟨h1, h2⟩
      · refine Or.inl ⟨j + 1, t', by simpa using h1, h2, fun i q hi hq => ?_⟩
        cases i with
        | zero => simp at hq; subst hq; exact fun z => hv z.symm
        | succ i => exact h3 i q (by omega) (by simpa using hq)
      · refine Or.inr ⟨fun q hq => ?_, h2⟩
        rcases List.mem_cons.mp hq with rfl | hq
        · exact fun z => hv z.symm
        · exact h1 q hq
theorem xswT_at (pc : Nat) : ∀ (os : List Int) (lo : Int) (j : Nat), (xswT pc lo os)[j]? = (os[j]?).map (fun o => (Int32.ofInt (lo + j), (pc : Int) + o))
  | [], lo, j => by simp [xswT]
  | o :: r, lo, 0 => by simp [xswT]
  | o :: r, lo, j + 1 => by
    rw [xswT, List.getElem?_cons_succ, List.getElem?_cons_succ, xswT_at pc r (lo + 1) j]
    congr 1
    funext o'
    congr 2
    push_cast
    omega

theorem xlk {x : Int32} {pc tg : Nat} {df : Int} {f : Nat → Prop} (hdf : (pc : Int) + df = (tg : Int)) : ∀ (ps : List (Int × Int)) (sw : List (Int32 × Nat)), sw.map (fun q => (q.1.toInt, (q.2 : Int))) = ps.map (fun q => (q.1, (pc : Int) + q.2)) → xswk x tg f sw → ∃ (off : Int) (tgt : Nat), Op.lookupswitch.offset ps df x.toInt = off ∧ (pc : Int) + off = (tgt : Int) ∧ f tgt
  | [], [], _, h => ⟨df, tg, rfl, hdf, h⟩
  | [], _ :: _, e, _ => by simp at e
  | _ :: _, [], e, _ => by simp at e
  | (a, o) :: r, (v, t) :: sw, e, h => by
    simp only [List.map_cons, List.cons.injEq, Prod.mk.injEq] at e
    obtain ⟨⟨e1, e2⟩, e3⟩ := e
    by_cases hv : x = v
    · subst hv
      exact ⟨o, t, by rw [Op.lookupswitch.offset_cons, if_pos e1.symm], e2.symm, h.1 rfl⟩
    · obtain ⟨off, tgt, h1, h2, h3⟩ := xlk hdf r sw e3 (h.2 hv)
      exact ⟨off, tgt, by rw [lv_osw hv e1]; exact h1, h2, h3⟩
theorem xofI {j : Nat} (h : j < 100) : (Int32.ofInt (0 + (j : Int))).toInt = (j : Int) := by
  rw [Int.zero_add]
  have : Int32.ofInt (j : Int) = nI j := by unfold nI; rfl
  rw [this, nI_toInt (by omega)]

theorem xdf_nr : ∀ l ∈ xdf, (l.all fun v => match v with | .ref _ => false | _ => true) = true := by decide +kernel
theorem xdf_xv (ad : Nat → Nat) (a : Nat) : (xdf.getD a []).map (xv ad) = xdf.getD a [] := by
  have h : ∀ v ∈ xdf.getD a [], xv ad v = v := by
    rw [List.getD_eq_getElem?_getD]
    cases ha : xdf[a]? with
    | none => intro v hv; cases hv
    | some l =>
      intro v hv
      have := List.all_eq_true.mp (xdf_nr l (List.mem_of_getElem? ha)) v hv
      cases v <;> first | rfl | (simp at this)
  conv => rhs; rw [← List.map_id (xdf.getD a [])]
  exact List.map_congr_left h

set_option maxHeartbeats 4000000 in
set_option maxRecDepth 10000 in
/-- ONE ROW IS SOUND: if what xs1 asks holds, and what it hands on leads to the end, so does this place -/
theorem xs_sound {L : xLn} {M : xM} {d mc ms : Nat} {Q : Option Value → List xE → Prop} {n0 : Nat} {o : xO} {pc : Nat} {z : Nat × Nat} {ls : List (Option Value)} {st : List Value} {X : List xE} {k : xK} {stop : Prop} (hc : xck (xown M) (decide (M.1.name = "<init>")) (xcc M) pc o = true) (h : xs1 L M d mc ms Q o z ls st X k stop)
    (hk : ∀ z' pc' ls' st' X', k z' pc' ls' st' X' → AJ L M d mc ms Q n0 z' pc' ls' st' X') (hs : stop → AJ L M d mc ms Q n0 z pc ls st X) : AJ L M d mc ms Q n0 z pc ls st X := by
  obtain ⟨i, nx, tg, v, w, a, b, t, sw⟩ := o
  intro p e R s m args below meth c I A QF ad0 G ad H locs la HH hl
  have hst := fun (h : stop) => hs h p e R s m args below meth c I A QF ad0 G ad H locs la HH hl
  have go : ∀ {pc' : Nat} {st' : List Value}, k z pc' ls st' X → W p L.1 e R s m args below meth c H locs z.1 z.2 QF (F0 m pc' la (st'.map (xv ad))) := fun h => hk _ _ _ _ _ h p e R s m args below meth c I A QF ad0 G ad H locs la HH hl
  have goL : ∀ {pc' : Nat} {ls' : List (Option Value)} {st' : List Value} {la' : Array Slot}, xL la' (xml M) ad ls' → k z pc' ls' st' X → W p L.1 e R s m args below meth c H locs z.1 z.2 QF (F0 m pc' la' (st'.map (xv ad))) := fun hl h => hk _ _ _ _ _ h p e R s m args below meth c I A QF ad0 G ad H locs _ HH hl
  have goX : ∀ {pc' : Nat} {st' : List Value} {X' : List xE} {H' : Heap} {locs' : List Loc}, xH I A s n0 ad0 ad X' H' locs' → k z pc' ls st' X' → W p L.1 e R s m args below meth c H' locs' z.1 z.2 QF (F0 m pc' la (st'.map (xv ad))) := fun HH h => hk _ _ _ _ _ h p e R s m args below meth c I A QF ad0 G ad _ _ la HH hl
  obtain ⟨⟨hx, hb, hr, hml, hown, hts, hK, hlk, hini, hA, hfr, hlo⟩, hmc, hms, hF, hret⟩ := id G
  obtain ⟨hag, hn0, hB, hP, hD, hS⟩ := id HH
  have hmla : c.maxLocals = la.size := hml.trans hl.1.1.symm
  simp only [xck, Bool.and_eq_true] at hc
  obtain ⟨hd, hc⟩ := hc
  replace hd := of_decide_eq_true hd
  cases i <;> dsimp only [xs1] at h <;> first | exact hst h | skip
  case iconst n =>
    simp only [Bool.and_eq_true] at hc; obtain ⟨hn, hc⟩ := hc; obtain rfl := xnx hn; rw [Nat.add_sub_cancel_left] at hd
    exact lv_iconst hx hb hd (of_decide_eq_true hc) (go h)
  case bipush n =>
    simp only [Bool.and_eq_true] at hc; obtain ⟨hn, hc⟩ := hc; obtain rfl := xnx hn; rw [Nat.add_sub_cancel_left] at hd
    exact lv_bipush hx hb hd (of_decide_eq_true hc) (go h)
  case sipush n =>
    simp only [Bool.and_eq_true] at hc; obtain ⟨hn, hc⟩ := hc; obtain rfl := xnx hn; rw [Nat.add_sub_cancel_left] at hd
    exact lv_sipush hx hb hd (of_decide_eq_true hc) (go h)
  case ldc n =>
    simp only [Bool.and_eq_true] at hc; obtain ⟨hn, hc⟩ := hc; obtain rfl := xnx hn; rw [Nat.add_sub_cancel_left] at hd
    cases a with
    | zero => exact lv_ldc hx hb hown (hts _ (xmt_in hc rfl)) hd (go h)
    | succ a =>
      simp only [Bool.and_eq_true] at hc
      obtain ⟨h1, h2⟩ := h_b_i h
      have h3 : b < 10 := Nat.blt_eq.mp h1
      have h4 := hF.2.2.2.2.1 b h3
      rw [← hag _ (Or.inr (by omega)), Nat.eq_of_beq_eq_true hc.2, ← of_decide_eq_true hc.1] at h4
      exact va_ldcS hx hb hown h4 hd (go h2)
  case ldc_w n =>
    simp only [Bool.and_eq_true] at hc; obtain ⟨hn, hc⟩ := hc; obtain rfl := xnx hn; rw [Nat.add_sub_cancel_left] at hd
    exact lv_ldcw hx hb hown (hts _ (xmt_in hc rfl)) hd (go h)
  case ldc2_w n =>
    simp only [Bool.and_eq_true] at hc; obtain ⟨hn, hc⟩ := hc; obtain rfl := xnx hn; rw [Nat.add_sub_cancel_left] at hd
    exact lv_ldc2 hx hb hown (hts _ (xmt_in hc rfl)) hd (go h)
  case lconst n =>
    simp only [Bool.and_eq_true] at hc; obtain ⟨hn, hc⟩ := hc; obtain rfl := xnx hn; rw [Nat.add_sub_cancel_left] at hd
    exact lv_lconst hx hb hd (of_decide_eq_true hc) (go h)
  case iload_n n =>
    obtain rfl := xnx hc; rw [Nat.add_sub_cancel_left] at hd
    obtain ⟨u, h1, h2⟩ := h_l_i h
    obtain ⟨x, rfl, h3⟩ := h_vi_i h2
    exact lv_iload_n hx hb hd rfl (xL_at hl h1) (go h3)
  case lload_n n =>
    obtain rfl := xnx hc; rw [Nat.add_sub_cancel_left] at hd
    obtain ⟨u, h1, h2⟩ := h_l_i h
    obtain ⟨x, rfl, h3⟩ := h_vj_i h2
    exact lv_lload_n hx hb hd rfl (xL_at hl h1) (go h3)
  case aload_n n =>
    obtain rfl := xnx hc; rw [Nat.add_sub_cancel_left] at hd
    obtain ⟨u, h1, h2⟩ := h_l_i h
    obtain ⟨x, rfl, h3⟩ := h_vr_i h2
    exact lv_aload_n hx hb hd rfl (xL_at hl h1) (go h3)
  case iload n =>
    obtain rfl := xnx hc; rw [Nat.add_sub_cancel_left] at hd
    obtain ⟨u, h1, h2⟩ := h_l_i h
    obtain ⟨x, rfl, h3⟩ := h_vi_i h2
    exact lv_iload hx hb hd (xL_at hl h1) (go h3)
  case aload n =>
    obtain rfl := xnx hc; rw [Nat.add_sub_cancel_left] at hd
    obtain ⟨u, h1, h2⟩ := h_l_i h
    obtain ⟨x, rfl, h3⟩ := h_vr_i h2
    exact lv_aload hx hb hd (xL_at hl h1) (go h3)
  case istore_n n =>
    obtain rfl := xnx hc; rw [Nat.add_sub_cancel_left] at hd
    obtain ⟨x, r, rfl, h1⟩ := h_i_i h
    obtain ⟨h2, h3⟩ := h_b_i h1
    obtain ⟨la2, e2, hl2⟩ := xL_store hl (v := .int x) h2 rfl
    exact x_istore_n hx hb hd e2 (goL hl2 h3)
  case istore n =>
    obtain rfl := xnx hc; rw [Nat.add_sub_cancel_left] at hd
    obtain ⟨x, r, rfl, h1⟩ := h_i_i h
    obtain ⟨h2, h3⟩ := h_b_i h1
    obtain ⟨la2, e2, hl2⟩ := xL_store hl (v := .int x) h2 rfl
    exact x_istore hx hb hd e2 (goL hl2 h3)
  case astore_n n =>
    obtain rfl := xnx hc; rw [Nat.add_sub_cancel_left] at hd
    obtain ⟨x, r, rfl, h1⟩ := h_r_i h
    obtain ⟨h2, h3⟩ := h_b_i h1
    obtain ⟨la2, e2, hl2⟩ := xL_store hl (v := .ref x) h2 rfl
    exact x_astore_n hx hb hd e2 (goL hl2 h3)
  case iinc n y =>
    simp only [Bool.and_eq_true] at hc; obtain ⟨hn, hc⟩ := hc; obtain rfl := xnx hn; rw [Nat.add_sub_cancel_left] at hd
    obtain ⟨u, h1, h2⟩ := h_l_i h
    obtain ⟨x, rfl, h3⟩ := h_vi_i h2
    obtain ⟨h4, h5⟩ := h_b_i h3
    obtain ⟨la2, e2, hl2⟩ := xL_store hl (v := .int (x + v)) h4 rfl
    exact x_iinc hx hb hd (xL_at hl h1) (of_decide_eq_true hc) e2 (goL hl2 h5)
  case iadd =>
    obtain rfl := xnx hc; rw [Nat.add_sub_cancel_left] at hd
    obtain ⟨x, y, r, rfl, h1⟩ := h_ii_i h
    exact lv_iadd hx hb hd (go h1)
  case isub =>
    obtain rfl := xnx hc; rw [Nat.add_sub_cancel_left] at hd
    obtain ⟨x, y, r, rfl, h1⟩ := h_ii_i h
    exact lv_isub hx hb hd (go h1)
  case imul =>
    obtain rfl := xnx hc; rw [Nat.add_sub_cancel_left] at hd
    obtain ⟨x, y, r, rfl, h1⟩ := h_ii_i h
    exact lv_imul hx hb hd (go h1)
  case iand =>
    obtain rfl := xnx hc; rw [Nat.add_sub_cancel_left] at hd
    obtain ⟨x, y, r, rfl, h1⟩ := h_ii_i h
    exact lv_iand hx hb hd (go h1)
  case ior =>
    obtain rfl := xnx hc; rw [Nat.add_sub_cancel_left] at hd
    obtain ⟨x, y, r, rfl, h1⟩ := h_ii_i h
    exact lv_ior hx hb hd (go h1)
  case ixor =>
    obtain rfl := xnx hc; rw [Nat.add_sub_cancel_left] at hd
    obtain ⟨x, y, r, rfl, h1⟩ := h_ii_i h
    exact lv_ixor hx hb hd (go h1)
  case ishl =>
    obtain rfl := xnx hc; rw [Nat.add_sub_cancel_left] at hd
    obtain ⟨x, y, r, rfl, h1⟩ := h_ii_i h
    exact lv_ishl hx hb hd (go h1)
  case ishr =>
    obtain rfl := xnx hc; rw [Nat.add_sub_cancel_left] at hd
    obtain ⟨x, y, r, rfl, h1⟩ := h_ii_i h
    exact lv_ishr hx hb hd (go h1)
  case iushr =>
    obtain rfl := xnx hc; rw [Nat.add_sub_cancel_left] at hd
    obtain ⟨x, y, r, rfl, h1⟩ := h_ii_i h
    exact lv_iushr hx hb hd rfl (go h1)
  case idiv =>
    obtain rfl := xnx hc; rw [Nat.add_sub_cancel_left] at hd
    obtain ⟨x, y, r, rfl, h1, h2⟩ := h_ii_i h
    exact lv_idiv hx hb hd h1 (go h2)
  case irem =>
    obtain rfl := xnx hc; rw [Nat.add_sub_cancel_left] at hd
    obtain ⟨x, y, r, rfl, h1, h2⟩ := h_ii_i h
    exact lv_irem hx hb hd h1 (go h2)
  case ladd =>
    obtain rfl := xnx hc; rw [Nat.add_sub_cancel_left] at hd
    obtain ⟨x, y, r, rfl, h1⟩ := h_jj_i h
    exact lv_ladd hx hb hd (go h1)
  case lsub =>
    obtain rfl := xnx hc; rw [Nat.add_sub_cancel_left] at hd
    obtain ⟨x, y, r, rfl, h1⟩ := h_jj_i h
    exact lv_lsub hx hb hd (go h1)
  case lmul =>
    obtain rfl := xnx hc; rw [Nat.add_sub_cancel_left] at hd
    obtain ⟨x, y, r, rfl, h1⟩ := h_jj_i h
    exact lv_lmul hx hb hd (go h1)
  case land =>
    obtain rfl := xnx hc; rw [Nat.add_sub_cancel_left] at hd
    obtain ⟨x, y, r, rfl, h1⟩ := h_jj_i h
    exact lv_land hx hb hd (go h1)
  case lor =>
    obtain rfl := xnx hc; rw [Nat.add_sub_cancel_left] at hd
    obtain ⟨x, y, r, rfl, h1⟩ := h_jj_i h
    exact lv_lor hx hb hd (go h1)
  case lshl =>
    obtain rfl := xnx hc; rw [Nat.add_sub_cancel_left] at hd
    obtain ⟨x, y, r, rfl, h1⟩ := h_ji_i h
    exact lv_lshl hx hb hd rfl (go h1)
  case lshr =>
    obtain rfl := xnx hc; rw [Nat.add_sub_cancel_left] at hd
    obtain ⟨x, y, r, rfl, h1⟩ := h_ji_i h
    exact lv_lshr hx hb hd rfl (go h1)
  case lcmp =>
    obtain rfl := xnx hc; rw [Nat.add_sub_cancel_left] at hd
    obtain ⟨x, y, r, rfl, h1⟩ := h_jj_i h
    exact W.lcmp hx hb hd (go h1)
  case i2l =>
    obtain rfl := xnx hc; rw [Nat.add_sub_cancel_left] at hd
    obtain ⟨x, r, rfl, h1⟩ := h_i_i h
    exact lv_i2l hx hb hd rfl (go h1)
  case l2i =>
    obtain rfl := xnx hc; rw [Nat.add_sub_cancel_left] at hd
    obtain ⟨x, r, rfl, h1⟩ := h_j_i h
    exact lv_l2i hx hb hd rfl (go h1)
  case i2c =>
    obtain rfl := xnx hc; rw [Nat.add_sub_cancel_left] at hd
    obtain ⟨x, r, rfl, h1⟩ := h_i_i h
    exact lv_i2c hx hb hd rfl (go h1)
  case dup =>
    obtain rfl := xnx hc; rw [Nat.add_sub_cancel_left] at hd
    obtain ⟨u, r, rfl, hu, h1⟩ := h_1_i h
    exact lv_dup hx hb hd (by rw [xv_cat]; exact hu) (go h1)
  case dup2 =>
    obtain rfl := xnx hc; rw [Nat.add_sub_cancel_left] at hd
    obtain ⟨u, r, rfl, hu, h1⟩ := h_1_i h
    obtain ⟨u2, r2, rfl, hu2, h2⟩ := h_1_i h1
    exact lv_dup2_11 hx hb hd (by rw [xv_cat]; exact hu) (by rw [xv_cat]; exact hu2) (go h2)
  case pop =>
    obtain rfl := xnx hc; rw [Nat.add_sub_cancel_left] at hd
    obtain ⟨u, r, rfl, hu, h1⟩ := h_1_i h
    exact lv_pop hx hb hd (by rw [xv_cat]; exact hu) (go h1)
  case goto off =>
    simp only [Bool.and_eq_true] at hc; obtain ⟨hn, hc⟩ := hc; obtain rfl := xnx hn; rw [Nat.add_sub_cancel_left] at hd
    exact lv_goto hx hb hd (of_decide_eq_true hc) (go h)
  case ifCond cd off =>
    simp only [Bool.and_eq_true] at hc; obtain ⟨hn, hc⟩ := hc; obtain rfl := xnx hn; rw [Nat.add_sub_cancel_left] at hd
    have ht := of_decide_eq_true hc
    cases cd with
    | eq => obtain ⟨x, r, rfl, h1, h2⟩ := h_i_i h; exact lv_if_eq hx hb hd ht (fun q => go (h1 q)) (fun q => go (h2 q))
    | ne => obtain ⟨x, r, rfl, h1, h2⟩ := h_i_i h; exact lv_if_ne hx hb hd ht (fun q => go (h1 q)) (fun q => go (h2 q))
    | lt => obtain ⟨x, r, rfl, h1, h2⟩ := h_i_i h; exact lv_if_lt hx hb hd ht (fun q => go (h1 q)) (fun q => go (h2 q))
    | ge => obtain ⟨x, r, rfl, h1, h2⟩ := h_i_i h; exact lv_if_ge hx hb hd ht (fun q => go (h1 q)) (fun q => go (h2 q))
    | gt => obtain ⟨x, r, rfl, h1, h2⟩ := h_i_i h; exact lv_if_gt hx hb hd ht (fun q => go (h1 q)) (fun q => go (h2 q))
    | le => obtain ⟨x, r, rfl, h1, h2⟩ := h_i_i h; exact lv_if_le hx hb hd ht (fun q => go (h1 q)) (fun q => go (h2 q))
  case if_icmp cd off =>
    simp only [Bool.and_eq_true] at hc; obtain ⟨hn, hc⟩ := hc; obtain rfl := xnx hn; rw [Nat.add_sub_cancel_left] at hd
    have ht := of_decide_eq_true hc
    cases cd with
    | eq => obtain ⟨x, y, r, rfl, h1, h2⟩ := h_ii_i h; exact lv_icmp_eq hx hb hd ht (fun q => go (h1 q)) (fun q => go (h2 q))
    | ne => obtain ⟨x, y, r, rfl, h1, h2⟩ := h_ii_i h; exact lv_icmp_ne hx hb hd ht (fun q => go (h1 q)) (fun q => go (h2 q))
    | lt => obtain ⟨x, y, r, rfl, h1, h2⟩ := h_ii_i h; exact lv_icmp_lt hx hb hd ht (fun q => go (h1 q)) (fun q => go (h2 q))
    | ge => obtain ⟨x, y, r, rfl, h1, h2⟩ := h_ii_i h; exact lv_icmp_ge hx hb hd ht (fun q => go (h1 q)) (fun q => go (h2 q))
    | gt => obtain ⟨x, y, r, rfl, h1, h2⟩ := h_ii_i h; exact lv_icmp_gt hx hb hd ht (fun q => go (h1 q)) (fun q => go (h2 q))
    | le => obtain ⟨x, y, r, rfl, h1, h2⟩ := h_ii_i h; exact lv_icmp_le hx hb hd ht (fun q => go (h1 q)) (fun q => go (h2 q))
  case tableswitch df lo hi offs =>
    simp only [Bool.and_eq_true] at hc
    obtain ⟨⟨⟨⟨c1, c2⟩, c3⟩, c4⟩, c5⟩ := hc
    have c1 := of_decide_eq_true c1
    have c2 := of_decide_eq_true c2
    have c3 := of_decide_eq_true c3
    have c4 : offs.size < 100 := Nat.blt_eq.mp c4
    have c5 := of_decide_eq_true c5
    subst c2
    obtain ⟨x, r, rfl, h1⟩ := h_i_i h
    rcases xsw_sound h1 with ⟨j, t2, hj, ht, -⟩ | ⟨hall, hdn⟩
    · have e1 := congrArg (fun l => l[j]?) c5
      rw [List.getElem?_map, hj, xswT_at] at e1
      cases ho : offs.toList[j]? with
      | none => rw [ho] at e1; simp at e1
      | some off =>
        rw [ho] at e1
        simp only [Option.map_some, Option.some.injEq, Prod.mk.injEq] at e1
        have hjl : j < offs.size := by
          have := (List.getElem?_eq_some_iff.mp ho).1
          simpa using this
        have ex : x.toInt = (j : Int) := by rw [e1.1]; exact xofI (by omega)
        exact lv_tableIn hx hb hd (by omega) (by omega) (off := off) (by rw [ex, show ((j : Int) - 0).toNat = j by omega, ← Array.getElem?_toList]; exact ho) e1.2.symm (go ht)
    · have hout : x.toInt < 0 ∨ hi < x.toInt := by
        by_cases hq : x.toInt < 0 ∨ hi < x.toInt
        · exact hq
        · exfalso
          have hj : x.toInt.toNat < offs.toList.length := by rw [Array.length_toList]; omega
          have e1 := congrArg (fun l => l[x.toInt.toNat]?) c5
          rw [List.getElem?_map, xswT_at, List.getElem?_eq_getElem hj] at e1
          cases hs : sw[x.toInt.toNat]? with
          | none => rw [hs] at e1; simp at e1
          | some q =>
            rw [hs] at e1
            simp only [Option.map_some, Option.some.injEq, Prod.mk.injEq] at e1
            refine hall q (List.mem_of_getElem? hs) ?_
            rw [e1.1]
            apply Int32.toInt_inj.mp
            rw [Array.length_toList] at hj
            rw [xofI (by omega)]
            omega
      exact lv_tableOut hx hb hd hout c1 (go hdn)
  case lookupswitch df ps =>
    simp only [Bool.and_eq_true] at hc
    obtain ⟨⟨c1, c2⟩, c3⟩ := hc
    obtain ⟨x, r, rfl, h1⟩ := h_i_i h
    obtain ⟨off, tgt, q1, q2, q3⟩ := xlk (of_decide_eq_true c1) _ _ (of_decide_eq_true c3) h1
    exact lv_lookup hx hb hd (of_decide_eq_true c2) q1 q2 (go q3)
  case getfield n =>
    simp only [Bool.and_eq_true] at hc; obtain ⟨hn, hc⟩ := hc; obtain rfl := xnx hn; rw [Nat.add_sub_cancel_left] at hd
    obtain ⟨q, r, rfl, h1⟩ := h_r_i h
    split at h1
    · obtain ⟨h2, h3⟩ := h_b_i h1
      simp only [Bool.and_eq_true, Nat.ble_eq, Nat.blt_eq] at h2
      obtain ⟨j, rfl⟩ := Nat.exists_eq_add_of_le h2.1
      have hj : j < 10 := by omega
      have hv := hF.2.2.2.1.1 j hj
      cases b with
      | zero =>
        have h4 := hv.2.2.1
        dsimp only at h4
        rw [← hag _ (Or.inr (by omega : xB ≤ xB + 11 + j)), ← hag _ (Or.inr (by omega : xB ≤ xB + 1 + j))] at h4
        rw [show xB + 1 + j + 10 = xB + 11 + j by omega] at h3
        exact vk_getf hx hb h4 hS hown (hts _ (xmt_in hc rfl)) (fun _ h => h) hd (go h3)
      | succ b =>
        have h4 := hv.2.1
        dsimp only at h4
        rw [← hag _ (Or.inr (by omega : xB ≤ xB + 1 + j))] at h4
        exact vk_getf hx hb h4 hS hown (hts _ (xmt_in hc rfl)) (fun _ h => h) hd (go h3)
    · obtain ⟨fs, h2, h3⟩ := h_o_i h1
      obtain ⟨u, h4, h5⟩ := h_s_i h3
      have hc : xfk (xown M) n a b t = true := by
        revert hc
        split
        · contradiction
        · exact id
      unfold xfk at hc
      split at hc
      · next rr hrr =>
        simp only [Bool.and_eq_true] at hc
        exact va_get hx hb hts (xcls hrr) hown hK hP q (xw_get h2) hrr b (Nat.blt_eq.mp hc.1) (hts _ (xmt_in hc.2 rfl)) (fun _ h => h) (by rw [List.getElem?_map, h4]; rfl) hd (go h5)
      · cases hc
  case putfield n =>
    simp only [Bool.and_eq_true] at hc
    obtain ⟨⟨⟨hn, hc⟩, hw⟩, hi⟩ := hc
    obtain rfl := xnx hn
    rw [Nat.add_sub_cancel_left] at hd
    obtain ⟨q, u, r, rfl, h1⟩ := h_rv_i h
    obtain ⟨fs, h2, h3⟩ := h_o_i h1
    obtain ⟨h4, h5⟩ := h_b_i h3
    have hbl : b < fs.length := Nat.blt_eq.mp h4
    unfold xfk at hc
    unfold xfw at hw
    cases hrr : vwCl[a]? with
    | none => rw [hrr] at hc; cases hc
    | some rr =>
      rw [hrr] at hc hw
      simp only [Bool.and_eq_true] at hc hw
      obtain ⟨⟨w1, w2⟩, w3⟩ := hw
      have w1 := of_decide_eq_true w1
      have hu : ∃ ty, parseFieldDescriptor (rr.2.1 b).2.2.1 = some ty ∧ narrow ty (xv ad u) = xv ad u ∧ fits ty (xv ad u) = true ∧ k z (pc + 3) ls r (X.set q (.inr (.inr (a, fs.set b u)))) := by
        match tg, w3, h5 with
        | 0, w3, h5 =>
          cases u <;> first | exact h5.elim | exact ⟨.int, of_decide_eq_true w3, rfl, rfl, h5⟩
        | 1, w3, h5 =>
          cases u <;> first | exact h5.elim | skip
          rcases h5 with ⟨rfl | rfl, h5⟩ <;> exact ⟨.boolean, of_decide_eq_true w3, rfl, rfl, h5⟩
        | 2, w3, h5 =>
          cases u <;> first | exact h5.elim | skip
          obtain ⟨ty, t1, t2⟩ := xisr_i w3
          exact ⟨ty, t1, (xfits_ref t2 _).1, (xfits_ref t2 _).2, h5⟩
        | tg + 3, w3, h5 =>
          cases u <;> first | exact h5.elim | exact ⟨.long, of_decide_eq_true w3, rfl, rfl, h5⟩
      obtain ⟨ty, u1, u2, u3, u4⟩ := hu
      have hlk : (Cond.fieldLink M.1.cls n (rr.2.1 b).1 (rr.2.1 b).2.1 (rr.2.1 b).2.2.1).before args s = true := hts _ (xmt_in hc.2 rfl)
      have fin : ∀ (H1 : Heap) (locs1 : List Loc), va_P I.1 vwCl ((xw I ad X).set q (ad q, .inr (a, (fs.map (xv ad)).set b (xv ad u)))) H1 → va_D A ((xw I ad X).set q (ad q, .inr (a, (fs.map (xv ad)).set b (xv ad u)))) → va_S A s.heap H1 locs1 → W p L.1 e R s m args below meth c H1 locs1 z.1 z.2 QF (F0 m (pc + 3) la (r.map (xv ad))) := by
        intro H1 locs1 q1 q2 q3
        refine goX (X' := X.set q (.inr (.inr (a, fs.set b u)))) (xH.put HH ?_ ?_ q3) u4
        · show va_P I.1 vwCl ((xw I ad X).set q (ad q, .inr (a, (fs.set b u).map (xv ad)))) H1
          rw [List.map_set]; exact q1
        · show va_D A ((xw I ad X).set q (ad q, .inr (a, (fs.set b u).map (xv ad))))
          rw [List.map_set]; exact q2
      cases hf : (rr.2.1 b).2.2.2 with
      | false => exact va_put hx hb hts (xcls hrr) (xtyF rr) (xty_ok rr (List.mem_of_getElem? hrr)) (xnm_ok rr (List.mem_of_getElem? hrr)) hown hK hP hD hS q (xw_get h2) hrr b (Nat.blt_eq.mp hc.1) hlk (fun _ h => h) hf u1 u2 u3 (by rw [List.length_map]; exact hbl) hd fin
      | true =>
        have hv1 : v = 1 := by rw [hf] at w1; exact of_decide_eq_true w1.symm
        have ho : (rr.2.1 b).1 = M.1.cls := by
          rw [hv1] at w2
          simp at w2
          exact w2
        have hnm : M.1.name = "<init>" := by
          rw [hv1] at hi
          simpa using hi
        exact va_putF hx hb hts (xcls hrr) (xtyF rr) (xty_ok rr (List.mem_of_getElem? hrr)) (xnm_ok rr (List.mem_of_getElem? hrr)) hown hK hP hD hS q (xw_get h2) hrr b (Nat.blt_eq.mp hc.1) hlk (fun _ h => h) hf (hini hnm) ho u1 u2 u3 (by rw [List.length_map]; exact hbl) hd fin
  case getstatic n =>
    simp only [Bool.and_eq_true] at hc; obtain ⟨hn, hc⟩ := hc; obtain rfl := xnx hn; rw [Nat.add_sub_cancel_left] at hd
    split at h
    · have h4 := hF.1
      rw [← hag _ (Or.inr (Nat.le_refl xB))] at h4
      exact va_gets hx hb h4 hS hown (hts _ (xmt_in hc rfl)) (fun _ h => h) hd (go h)
    · exact va_gets hx hb hF.2.2.1 hS hown (hts _ (xmt_in hc rfl)) (fun _ h => h) hd (go h)
    · exact hst h
  case iaload =>
    obtain rfl := xnx hc; rw [Nat.add_sub_cancel_left] at hd
    obtain ⟨q, i, r, rfl, h1⟩ := h_ri_i h
    cases e1 : Nat.beq q xB with
    | true =>
      rw [e1] at h1
      obtain rfl := Nat.eq_of_beq_eq_true e1
      have h4 := hF.2.1
      rw [← hag _ (Or.inr (Nat.le_refl xB))] at h4
      exact va_ti hx hb h4 hS h1.1 rfl hd (go h1.2)
    | false =>
      rw [e1] at h1
      cases e2 : Nat.beq q (xB + 40) with
      | true =>
        rw [e2] at h1
        obtain rfl := Nat.eq_of_beq_eq_true e2
        have h4 := hF.2.2.2.2.2.1
        rw [← hag _ (Or.inr (by omega))] at h4
        exact va_ti hx hb h4 hS h1.1 rfl hd (go h1.2)
      | false =>
        rw [e2] at h1
        obtain ⟨n, f, h2, h3, h4⟩ := h_a_i h1
        exact va_iald hx hb hK hP q 0 (xw_get h2) rfl h3 hd (go h4)
  case baload =>
    obtain rfl := xnx hc; rw [Nat.add_sub_cancel_left] at hd
    obtain ⟨q, i, r, rfl, h1⟩ := h_ri_i h
    cases e1 : Nat.ble (xB + 11) q && Nat.blt q (xB + 21) with
    | true =>
      rw [e1] at h1
      simp only [Bool.and_eq_true, Nat.ble_eq, Nat.blt_eq] at e1
      obtain ⟨j, rfl⟩ := Nat.exists_eq_add_of_le e1.1
      rw [Nat.add_sub_cancel_left] at h1
      have h4 := (hF.2.2.2.1.1 j (by omega)).2.2.2
      dsimp only at h4
      rw [← hag _ (Or.inr (by omega : xB ≤ xB + 11 + j))] at h4
      exact va_tb hx hb h4 hS h1.1 rfl hd (go h1.2)
    | false =>
      rw [e1] at h1
      obtain ⟨n, f, h2, h3, h4⟩ := h_a_i h1
      exact va_zald hx hb hK hP q 1 (xw_get h2) rfl h3 hd (go h4)
  case iastore =>
    obtain rfl := xnx hc; rw [Nat.add_sub_cancel_left] at hd
    obtain ⟨q, i, x, r, rfl, h1⟩ := h_rii_i h
    obtain ⟨n, f, h2, h3, h4⟩ := h_a_i h1
    exact va_iast hx hb hK hP hD hS q 0 (xw_get h2) rfl h3 hd (fun H1 locs1 q1 q2 q3 => goX (HH.put (c := .inl (0, n, upd f i.toNatClampNeg x)) q1 q2 q3) h4)
  case bastore =>
    obtain rfl := xnx hc; rw [Nat.add_sub_cancel_left] at hd
    obtain ⟨q, i, x, r, rfl, h1⟩ := h_rii_i h
    obtain ⟨n, f, h2, h3, h5, h4⟩ := h_a_i h1
    have hv : vp_nar .boolean x = x := by rcases h5 with rfl | rfl <;> rfl
    exact va_zast hx hb hK hP hD hS q 1 (xw_get h2) rfl h3 hd (fun H1 locs1 q1 q2 q3 => by rw [hv] at q1 q2; exact goX (HH.put (c := .inl (1, n, upd f i.toNatClampNeg x)) q1 q2 q3) h4)
  case aaload =>
    obtain rfl := xnx hc; rw [Nat.add_sub_cancel_left] at hd
    obtain ⟨q, i, r, rfl, h1⟩ := h_ri_i h
    obtain ⟨l, h2, h3, h4⟩ := h_q_i h1
    obtain ⟨u, h5, h6⟩ := h_s_i h4
    refine va_aldq hx hb hK hP q 2 (xw_get h2) rfl h3 hd ?_
    show W p L.1 e R s m args below meth c H locs z.1 z.2 QF (F0 m (pc + 1) la (va_rf ((l[i.toNatClampNeg]?.join).map ad) :: r.map (xv ad)))
    rw [h5]
    exact go h6
  case aastore =>
    obtain rfl := xnx hc; rw [Nat.add_sub_cancel_left] at hd
    obtain ⟨q, i, u, r, rfl, h1⟩ := h_rir_i h
    obtain ⟨l, h2, h1⟩ := h_q_i h1
    obtain ⟨fs, h3, h4, h5⟩ := h_o_i h1
    refine va_astq hx hb hK hP hD hS q 2 u 0 (xw_get h2) (r := (RX0, TX0, 15)) rfl (xw_get h3) rfl h4 hd (fun H1 locs1 q1 q2 q3 => ?_)
    refine goX (HH.put (c := .inr (.inl (l.set i.toNatClampNeg (some u)))) ?_ ?_ q3) h5
    · show va_P I.1 vwCl ((xw I ad X).set q (ad q, .inl (I.2.2.2, (l.set i.toNatClampNeg (some u)).length, .inr (.inr (.inr (.inr (fun j => ((l.set i.toNatClampNeg (some u))[j]?.join).map ad))))))) H1
      rw [xup_list ad (vp_in_lt h4), List.length_set]; exact q1
    · show va_D A ((xw I ad X).set q (ad q, .inl (I.2.2.2, (l.set i.toNatClampNeg (some u)).length, .inr (.inr (.inr (.inr (fun j => ((l.set i.toNatClampNeg (some u))[j]?.join).map ad)))))))
      rw [xup_list ad (vp_in_lt h4), List.length_set]; exact q2
  case arraylength =>
    obtain rfl := xnx hc; rw [Nat.add_sub_cancel_left] at hd
    obtain ⟨q, r, rfl, h1⟩ := h_r_i h
    cases e1 : Nat.beq q (xB + 40) with
    | true =>
      rw [e1] at h1
      obtain rfl := Nat.eq_of_beq_eq_true e1
      have h4 := hF.2.2.2.2.2.1
      rw [← hag _ (Or.inr (by omega))] at h4
      exact va_tlen hx hb h4 hS rfl hd (go h1)
    | false =>
      rw [e1] at h1
      cases e2 : Nat.ble (xB + 11) q && Nat.blt q (xB + 21) with
      | true =>
        rw [e2] at h1
        simp only [Bool.and_eq_true, Nat.ble_eq, Nat.blt_eq] at e2
        obtain ⟨j, rfl⟩ := Nat.exists_eq_add_of_le e2.1
        rw [Nat.add_sub_cancel_left] at h1
        have h4 := (hF.2.2.2.1.1 j (by omega)).2.2.2
        dsimp only at h4
        rw [← hag _ (Or.inr (by omega : xB ≤ xB + 11 + j))] at h4
        exact va_tlen hx hb h4 hS rfl hd (go h1)
      | false =>
        rw [e2] at h1
        obtain ⟨n, f, h2, h3⟩ := h_a_i h1
        exact va_alen hx hb hK hP q 0 (xw_get h2) rfl rfl hd (go h3)
  case return_ =>
    obtain rfl := xnx hc; rw [Nat.add_sub_cancel_left] at hd
    obtain ⟨h1, h2⟩ := h_b_i h
    simp only [Bool.and_eq_true, Nat.ble_eq] at h1
    split at h2
    · next e1 => exact W.widen h1.1.1 h1.1.2 (hret none X ad H locs pc la h2 h1.2 HH ⟨e1, hd⟩)
    · exact h2.elim
  case ireturn =>
    obtain rfl := xnx hc; rw [Nat.add_sub_cancel_left] at hd
    obtain ⟨h1, h2⟩ := h_b_i h
    simp only [Bool.and_eq_true, Nat.ble_eq] at h1
    unfold xrr at h2
    split at h2
    · next x =>
      split at h2
      · next e1 => exact W.widen h1.1.1 h1.1.2 (hret (some (.int x)) X ad H locs pc la h2 h1.2 HH ⟨hd, _, e1, rfl⟩)
      · next e1 => exact W.widen h1.1.1 h1.1.2 (hret (some (.int x)) X ad H locs pc la h2.2 h1.2 HH ⟨hd, _, e1, by rcases h2.1 with rfl | rfl <;> rfl⟩)
      · next e1 => exact W.widen h1.1.1 h1.1.2 (hret (some (.int x)) X ad H locs pc la h2.2 h1.2 HH ⟨hd, _, e1, h2.1⟩)
      · next e1 => exact W.widen h1.1.1 h1.1.2 (hret (some (.int x)) X ad H locs pc la h2.2 h1.2 HH ⟨hd, _, e1, h2.1⟩)
      · exact h2.elim
    · exact h2.elim
  case invokespecial n =>
    simp only [Bool.and_eq_true] at hc; obtain ⟨hn, hc⟩ := hc; obtain rfl := xnx hn; rw [Nat.add_sub_cancel_left] at hd
    split at h
    · obtain ⟨q, r, rfl, h1⟩ := h_r_i h
      obtain ⟨h2, h3⟩ := h_b_i h1
      simp only [Bool.and_eq_true, Nat.ble_eq, Nat.blt_eq] at h2 hc
      refine W.objInit hx hb hown (hts _ (xmt_in hc.1.1 rfl)) (hts _ (xmm_in hc.1.2 rfl)) (hts _ (xmm_in hc.2 rfl)) rfl hmla.symm rfl hd (by omega) ?_ (go h3)
      have e1 : ((r.map (xv ad)).map fun v => v.category) = r.map fun v => v.category := by rw [List.map_map]; exact List.map_congr_left (fun v _ => xv_cat ad v)
      rw [e1]
      have e2 : JFrame.monitorRoom (F0 m pc la (.ref (ad q) :: r.map (xv ad))) = 0 := rfl
      show 2 * JFrame.monitorRoom (F0 m pc la (.ref (ad q) :: r.map (xv ad))) + _ + 12 ≤ _
      rw [e2]
      omega
    · exact hst h
  case invokestatic n =>
    simp only [Bool.and_eq_true] at hc; obtain ⟨hn, hc⟩ := hc; obtain rfl := xnx hn; rw [Nat.add_sub_cancel_left] at hd
    have e1 : ∀ r : List Value, ((r.map (xv ad)).map fun v => v.category) = r.map fun v => v.category := fun r => by rw [List.map_map]; exact List.map_congr_left (fun v _ => xv_cat ad v)
    split at h
    · obtain ⟨x, y, r, rfl, h1⟩ := h_ii_i h
      obtain ⟨h2, h3⟩ := h_b_i h1
      simp only [Bool.and_eq_true, Nat.ble_eq, Nat.blt_eq] at h2 hc
      exact va_mmax hx hb hmla hown (hts _ (xmt_in hc.1.1.1 rfl)) (hts _ (xmm_in hc.1.1.2 rfl)) (hts _ (xmm_in hc.1.2 rfl)) (hts _ (xmm_in hc.2 rfl)) (by omega) (by rw [e1]; omega) (by omega) (by omega) hd (go h3)
    · obtain ⟨x, y, r, rfl, h1⟩ := h_ii_i h
      obtain ⟨h2, h3⟩ := h_b_i h1
      simp only [Bool.and_eq_true, Nat.ble_eq, Nat.blt_eq] at h2 hc
      exact va_mmin hx hb hmla hown (hts _ (xmt_in hc.1.1.1 rfl)) (hts _ (xmm_in hc.1.1.2 rfl)) (hts _ (xmm_in hc.1.2 rfl)) (hts _ (xmm_in hc.2 rfl)) (by omega) (by rw [e1]; omega) (by omega) (by omega) hd (go h3)
    · obtain ⟨a1, sp, d1, dp, n1, r, rfl, h1⟩ := h_cp_i h
      obtain ⟨na, f, h2, h3⟩ := h_a_i h1
      obtain ⟨nd, g, h4, h5⟩ := h_a_i h3
      obtain ⟨h6, h7⟩ := h_b_i h5
      simp only [Bool.and_eq_true, Nat.ble_eq, Nat.blt_eq, decide_eq_true_eq] at h6 hc
      obtain ⟨⟨⟨⟨⟨⟨q1, q2⟩, rfl⟩, rfl⟩, q3⟩, rfl⟩, q4⟩ := h6
      obtain rfl := Nat.eq_of_beq_eq_true q3
      have qn : (nI na).toNatClampNeg = na := nI_clamp (by omega)
      refine va_copyi hx hb hmla hown (hts _ (xmt_in hc.1.1.1 rfl)) (hts _ (xmm_in hc.1.1.2 rfl)) (hts _ (xmm_in hc.1.2 rfl)) (hts _ (xmm_in hc.2 rfl)) hK hP hD hS a1 d1 0 0 (ty := .int) (xw_get h2) (xw_get h4) rfl rfl rfl (by decide) (by decide) (nI_pos (by omega)) (by rw [qn]; show 0 + na ≤ na; omega) (by rw [qn]; show 0 + na ≤ na; omega) (fun _ _ => rfl) (by omega) ?_ hd (fun H1 locs1 p1 p2 p3 => ?_)
      · rw [e1]
        show _ + (5 + 2 + 11) ≤ _
        omega
      · rw [qn] at p1 p2
        have p1' : va_P I.1 vwCl ((xw I ad X).set d1 (ad d1, .inl (I.2.1, na, .inl f))) H1 := by
          intro kk qq hq
          by_cases hkd : kk = d1
          · subst hkd
            have hlt : kk < (xw I ad X).length := (List.getElem?_eq_some_iff.mp (xw_get (I := I) (ad := ad) h4)).1
            rw [List.getElem?_set_self hlt] at hq
            cases hq
            have := p1 kk _ (List.getElem?_set_self hlt)
            show H1[ad kk]? = some (vp_cell _ _)
            rw [← xcell_cp (g := g)]
            exact this
          · rw [List.getElem?_set_ne (Ne.symm hkd)] at hq
            exact p1 kk qq (by rw [List.getElem?_set_ne (Ne.symm hkd)]; exact hq)
        exact goX (HH.put (c := .inl (0, na, f)) p1' (hD.set (xw_get h4)) p3) h7
    · exact hst h
  all_goals
    have goA : ∀ {pc' : Nat} {r : List Value} {N : Nat} {cc' : xE} {q : Nat} {H1 : Heap}, xal z mc ms N ls r X = true → (∀ ad', xe I ad cc' = xe I ad' cc') → va_P I.1 vwCl (xw I ad X ++ [(q, xe I ad cc')]) H1 → va_D A (xw I ad X ++ [(q, xe I ad cc')]) → va_S A s.heap H1 locs → k (z.1 + 1, z.2 + N) pc' ls (.ref X.length :: r) (X ++ [cc']) → W p L.1 e R s m args below meth c H1 locs (z.1 + 1) (z.2 + N) QF (F0 m pc' la (.ref q :: r.map (xv ad))) := by
      intro pc' r N cc' q H1 hal hcc p1 p2 p3 p4
      simp only [xal, Bool.and_eq_true, Nat.blt_eq, Nat.ble_eq] at hal
      obtain ⟨⟨⟨⟨⟨a1, a2⟩, a3⟩, a4⟩, a5⟩, a6⟩ := hal
      obtain ⟨H2, ha2⟩ := HH.push a3 a4 (hcc _) p1 p2 p3
      have w := hk _ _ _ _ _ p4 p e R s m args below meth c I A QF ad0 G (va_up ad X.length q) H1 locs la H2 (xL_ad hl ha2 a5)
      rw [List.map_cons, ← xmap_ad ha2 a6] at w
      have eq1 : xv (va_up ad X.length q) (.ref X.length) = .ref q := by
        show Value.ref (va_up ad X.length q X.length) = _
        unfold va_up
        rw [if_pos rfl]
      rw [eq1] at w
      exact w
  case new n =>
    simp only [Bool.and_eq_true] at hc; obtain ⟨hn, hc⟩ := hc; obtain rfl := xnx hn; rw [Nat.add_sub_cancel_left] at hd
    obtain ⟨h1, h2⟩ := h_b_i h
    have hal := h1
    simp only [xal, Bool.and_eq_true, Nat.blt_eq, Nat.ble_eq] at hal
    cases hrr : vwCl[a]? with
    | none => rw [hrr] at hc; cases hc
    | some rr =>
      rw [hrr] at hc
      simp only [Bool.and_eq_true] at hc
      obtain ⟨⟨⟨⟨c1, c2⟩, c3⟩, c4⟩, c5⟩ := hc
      have c4 := Nat.eq_of_beq_eq_true c4
      have hfs : ∀ j, j < rr.2.2 → defaultValue (xtyF rr j) = vp_V (xdf.getD a []) j := by
        intro j hj
        have q1 := List.all_eq_true.mp c5 j (List.mem_range.mpr hj)
        have q2 := xty_ok rr (List.mem_of_getElem? hrr) j hj
        rw [q2] at q1
        exact of_decide_eq_true q1
      refine va_new hx hb hts (xcls hrr) (xtyF rr) (xty_ok rr (List.mem_of_getElem? hrr)) hown (hts _ (xmt_in c1 rfl)) (hts _ (xmm_in c2 rfl)) (hts _ (xmm_in c3 rfl)) hK hP hD hS hA hrr hfs (by omega) (by omega) hd (fun q H1 q1 q2 q3 => ?_)
      rw [← c4]
      refine goA (cc' := .inr (.inr (a, xdf.getD a []))) h1 (fun ad' => ?_) ?_ ?_ q3 h2
      · show (Sum.inr (a, (xdf.getD a []).map (xv ad)) : va_E) = .inr (a, (xdf.getD a []).map (xv ad'))
        rw [xdf_xv, xdf_xv]
      · show va_P I.1 vwCl (xw I ad X ++ [(q, .inr (a, (xdf.getD a []).map (xv ad)))]) H1
        rw [xdf_xv]; exact q1
      · show va_D A (xw I ad X ++ [(q, .inr (a, (xdf.getD a []).map (xv ad)))])
        rw [xdf_xv]; exact q2
  case newarray ty =>
    simp only [Bool.and_eq_true] at hc
    obtain ⟨⟨⟨hn, hb2⟩, hta⟩, harr⟩ := hc
    obtain rfl := xnx hn; rw [Nat.add_sub_cancel_left] at hd
    obtain ⟨x, r, rfl, h1⟩ := h_i_i h
    obtain ⟨h2, h3⟩ := h_b_i h1
    simp only [Bool.and_eq_true, decide_eq_true_eq] at h2
    obtain ⟨rfl, hal0⟩ := h2
    have hal := hal0
    simp only [xal, Bool.and_eq_true, Nat.blt_eq, Nat.ble_eq] at hal
    have hb3 : b < 65536 := Nat.blt_eq.mp hb2
    have key : ∃ ft : FieldType, newarray.typeOf ty = ft ∧ ((ft = .int ∧ a = 0) ∨ (ft = .boolean ∧ a = 1)) := by
      cases ty <;> first | exact ⟨.int, rfl, Or.inl ⟨rfl, Nat.eq_of_beq_eq_true hta⟩⟩ | exact ⟨.boolean, rfl, Or.inr ⟨rfl, Nat.eq_of_beq_eq_true hta⟩⟩ | cases hta
    obtain ⟨ft, hft, hor⟩ := key
    have hbyt : b * componentBytes ft ≤ 536870912 := by
      rcases hor with ⟨rfl, -⟩ | ⟨rfl, -⟩
      · show b * 4 ≤ _; omega
      · show b * 1 ≤ _; omega
    refine va_newa hx hb (hts _ (xmm_in harr rfl)) hft hK hP hD hS hA (a0 := (b, .inl (fun _ => 0))) (fun cA => by rcases hor with ⟨rfl, -⟩ | ⟨rfl, -⟩ <;> rfl) (nI_pos (by omega)) (nI_clamp (by omega)) hbyt (by omega) (by omega) hd (fun q cA H1 k1 q1 q2 q3 => ?_)
    have hcA : cA = (if a = 0 then I.2.1 else I.2.2.1) := by
      have r1 := (k1.2 3 (cA, ft) rfl).2
      rcases hor with ⟨rfl, rfl⟩ | ⟨rfl, rfl⟩
      · have r2 := (hK.2 0 _ rfl).2
        exact Option.some.inj (r1.symm.trans r2)
      · have r2 := (hK.2 1 _ rfl).2
        exact Option.some.inj (r1.symm.trans r2)
    subst hcA
    exact goA (cc' := .inl (a, b, fun _ => 0)) hal0 (fun _ => rfl) q1 q2 q3 h3
  case anewarray n =>
    simp only [Bool.and_eq_true] at hc
    obtain ⟨⟨hn, hb2⟩, hcl⟩ := hc
    obtain rfl := xnx hn; rw [Nat.add_sub_cancel_left] at hd
    obtain ⟨x, r, rfl, h1⟩ := h_i_i h
    obtain ⟨h2, h3⟩ := h_b_i h1
    simp only [Bool.and_eq_true, decide_eq_true_eq] at h2
    obtain ⟨rfl, hal0⟩ := h2
    have hal := hal0
    simp only [xal, Bool.and_eq_true, Nat.blt_eq, Nat.ble_eq] at hal
    have hb3 : b < 65536 := Nat.blt_eq.mp hb2
    refine va_newq hx hb hown (hts _ (xmt_in hcl rfl)) hF.2.2.2.2.2.2 hK hP hD hS hA (nI_pos (by omega)) (nI_clamp (by omega)) (by omega) (by omega) (by omega) hd (fun q cA H1 k1 q1 q2 q3 => ?_)
    have hcA : cA = I.2.2.2 := by
      obtain ⟨_, _, _, _, _, r1⟩ := (k1.2 3 (cA, _) rfl).2
      obtain ⟨_, _, _, _, _, r2⟩ := (hK.2 2 _ rfl).2
      exact Option.some.inj (r1.symm.trans r2)
    subst hcA
    have hnone : ∀ ad' : Nat → Nat, (fun j : Nat => ((List.replicate b (none : Option Nat))[j]?.join).map ad') = fun _ => none := by
      intro ad'
      funext j
      by_cases hj : j < b
      · simp [hj]
      · simp [hj]
    have hxe : ∀ ad' : Nat → Nat, xe I ad' (.inr (.inl (List.replicate b none))) = .inl (I.2.2.2, b, .inr (.inr (.inr (.inr (fun _ => none))))) := by
      intro ad'
      show (Sum.inl (I.2.2.2, (List.replicate b (none : Option Nat)).length, .inr (.inr (.inr (.inr (fun j : Nat => ((List.replicate b (none : Option Nat))[j]?.join).map ad'))))) : va_E) = _
      rw [hnone ad', List.length_replicate]
    refine goA (cc' := .inr (.inl (List.replicate b none))) hal0 (fun ad' => by rw [hxe, hxe]) ?_ ?_ q3 h3
    · rw [hxe]; exact q1
    · rw [hxe]; exact q2
end
section
/-! ===== many rows; calls ===== -/
def xMk (M : xM) : Bool := M.2.2.2.2.all fun l => l.all fun q => xck (xown M) (decide (M.1.name = "<init>")) (xcc M) q.1 q.2
theorem xlk_mem {pc : Nat} {o : xO} : ∀ {l : List (Nat × xO)}, l.lookup pc = some o → (pc, o) ∈ l
  | [], h => by cases h
  | (a, q) :: r, h => by
    rw [List.lookup_cons] at h
    cases hb : pc == a with
    | false => rw [hb] at h; exact List.mem_cons_of_mem _ (xlk_mem h)
    | true =>
      rw [hb] at h
      have e1 : pc = a := by simpa using hb
      have e2 : q = o := Option.some.inj h
      subst e1; subst e2
      exact List.mem_cons_self
theorem xat_ck {M : xM} (hM : xMk M = true) {pc : Nat} {o : xO} (h : xat M pc = some o) : xck (xown M) (decide (M.1.name = "<init>")) (xcc M) pc o = true := by
  unfold xat at h
  split at h
  · next l hl => exact List.all_eq_true.mp (List.all_eq_true.mp hM l (List.mem_of_getElem? hl)) (pc, o) (xlk_mem h)
  · cases h
/-- n rows on, but no further than a place of 'stops', a call, or the end -/
def xg (L : xLn) (M : xM) (d mc ms : Nat) (Q : Option Value → List xE → Prop) (stops : List Nat) (K : xK) : Nat → xK
  | 0 => K
  | n + 1 => fun z pc ls st X => bif stops.elem pc then K z pc ls st X else match xat M pc with
    | some o => xs1 L M d mc ms Q o z ls st X (xg L M d mc ms Q stops K n) (K z pc ls st X)
    | none => False
theorem xg_sound {L : xLn} {M : xM} {d mc ms : Nat} {Q : Option Value → List xE → Prop} {n0 : Nat} {stops : List Nat} (hM : xMk M = true) : ∀ (n : Nat) (z : Nat × Nat) (pc : Nat) (ls : List (Option Value)) (st : List Value) (X : List xE), xg L M d mc ms Q stops (AJ L M d mc ms Q n0) n z pc ls st X → AJ L M d mc ms Q n0 z pc ls st X
  | 0, _, _, _, _, _, h => h
  | n + 1, z, pc, ls, st, X, h => by
    unfold xg at h
    cases hs : stops.elem pc with
    | true => rw [hs] at h; exact h
    | false =>
      rw [hs] at h
      dsimp only [cond] at h
      split at h
      · next o ho => exact xs_sound (xat_ck hM ho) h (fun z' pc' ls' st' X' h' => xg_sound hM n z' pc' ls' st' X' h') id
      · exact h.elim
/-- from here on n rows: the first is taken also at a place of 'stops' -/
theorem AJ.run {L : xLn} {M : xM} {d mc ms : Nat} {Q : Option Value → List xE → Prop} {n0 : Nat} {z : Nat × Nat} {pc : Nat} {ls : List (Option Value)} {st : List Value} {X : List xE} (hM : xMk M = true) (stops : List Nat) (n : Nat)
    (h : match xat M pc with
      | some o => xs1 L M d mc ms Q o z ls st X (xg L M d mc ms Q stops (AJ L M d mc ms Q n0) n) (AJ L M d mc ms Q n0 z pc ls st X)
      | none => False) : AJ L M d mc ms Q n0 z pc ls st X := by
  split at h
  · next o ho => exact xs_sound (xat_ck hM ho) h (fun z' pc' ls' st' X' h' => xg_sound hM n z' pc' ls' st' X' h') id
  · exact h.elim
/-- cells that agree where they count -/
def xq : xE → xE → Prop
  | .inl (t, n, f), .inl (t', n', f') => t = t' ∧ n = n' ∧ ∀ j, j < n → f j = f' j
  | a, b => a = b
theorem xq_cell {I : xI} {ad : Nat → Nat} {D : va_G} {cl : List vw_C} {a : Nat} {c c' : xE} {H : Heap} (h : xq c c') (hv : va_at D cl (a, xe I ad c) H) : va_at D cl (a, xe I ad c') H := by
  rcases c with ⟨t, n, f⟩ | l | ⟨ci, fs⟩ <;> rcases c' with ⟨t', n', f'⟩ | l' | ⟨ci', fs'⟩ <;> first | (cases h; done) | (cases h; exact hv) | skip
  obtain ⟨rfl, rfl, hf⟩ := h
  have e1 : vp_cell (if t = 0 then I.2.1 else I.2.2.1) (n, .inl f) = vp_cell (if t = 0 then I.2.1 else I.2.2.1) (n, .inl f') := by
    rw [vp_cell_i, vp_cell_i]
    unfold arrV
    congr 1
    apply Array.ext
    · simp
    · intro i h1 h2
      simp only [Array.getElem_ofFn]
      rw [hf i (by simpa using h1)]
  show H[a]? = some (vp_cell (if t = 0 then I.2.1 else I.2.2.1) (n, .inl f'))
  rw [← e1]
  exact hv
def xqs : List xE → List xE → Prop
  | [], [] => True
  | a :: r, b :: r' => xq a b ∧ xqs r r'
  | _, _ => False
theorem xqs_at : ∀ {X Y : List xE}, xqs X Y → X.length = Y.length ∧ ∀ (k : Nat) (c' : xE), Y[k]? = some c' → ∃ c, X[k]? = some c ∧ xq c c'
  | [], [], _ => ⟨rfl, fun k c' h => by simp at h⟩
  | [], _ :: _, h => h.elim
  | _ :: _, [], h => h.elim
  | a :: r, b :: r', h => by
    obtain ⟨h1, h2⟩ := xqs_at h.2
    refine ⟨by simp [h1], fun k c' hk => ?_⟩
    cases k with
    | zero => simp at hk; subst hk; exact ⟨a, rfl, h.1⟩
    | succ k => simpa using h2 k c' (by simpa using hk)
/-- the world may be told otherwise, where it is the same -/
theorem AJ.re {L : xLn} {M : xM} {d mc ms : Nat} {Q : Option Value → List xE → Prop} {n0 : Nat} {z : Nat × Nat} {pc : Nat} {ls : List (Option Value)} {st : List Value} {X Y : List xE} (h : xqs X Y) (k : AJ L M d mc ms Q n0 z pc ls st Y) : AJ L M d mc ms Q n0 z pc ls st X := by
  intro p e R s m args below meth c I A QF ad0 G ad H locs la HH hl
  obtain ⟨h1, h2⟩ := xqs_at h
  refine k p e R s m args below meth c I A QF ad0 G ad H locs la ⟨HH.1, by rw [← h1]; exact HH.2.1, by rw [← h1]; exact HH.2.2.1, ?_, ?_, HH.2.2.2.2.2⟩ hl
  · intro i q hq
    obtain ⟨c', e1, rfl⟩ := xw_inv hq
    obtain ⟨c, e2, e3⟩ := h2 i c' e1
    exact xq_cell e3 (HH.2.2.2.1 i _ (xw_get e2))
  · refine ⟨fun i j x y hi hj hxy => ?_, fun i q hq => ?_⟩
    · obtain ⟨c1, a1, rfl⟩ := xw_inv hi
      obtain ⟨c2, a2, rfl⟩ := xw_inv hj
      obtain ⟨d1, b1, -⟩ := h2 i c1 a1
      obtain ⟨d2, b2, -⟩ := h2 j c2 a2
      exact HH.2.2.2.2.1.1 i j _ _ (xw_get b1) (xw_get b2) hxy
    · obtain ⟨c1, a1, rfl⟩ := xw_inv hq
      obtain ⟨d1, b1, -⟩ := h2 i c1 a1
      exact HH.2.2.2.2.1.2 i (ad i, xe I ad d1) (xw_get b1)
/-- the cells' numbers told anew: the callee's numbers in the caller's words -/
def xsg (σ : List Nat) (N : Nat) (k : Nat) : Nat := if k < σ.length then σ.getD k 0 else if k < xB then N + (k - σ.length) else k
def xrE (f : Nat → Nat) : xE → xE
  | .inl a => .inl a
  | .inr (.inl l) => .inr (.inl (l.map (Option.map f)))
  | .inr (.inr (ci, fs)) => .inr (.inr (ci, fs.map (xv f)))
theorem xv_comp (ad f : Nat → Nat) (v : Value) : xv ad (xv f v) = xv (fun k => ad (f k)) v := by cases v <;> rfl
theorem xe_comp (I : xI) (ad f : Nat → Nat) (c : xE) : xe I ad (xrE f c) = xe I (fun k => ad (f k)) c := by
  rcases c with ⟨t, n, g⟩ | l | ⟨ci, fs⟩
  · rfl
  · show (Sum.inl (I.2.2.2, (l.map (Option.map f)).length, .inr (.inr (.inr (.inr (fun j : Nat => ((l.map (Option.map f))[j]?.join).map ad))))) : va_E) = .inl (I.2.2.2, l.length, .inr (.inr (.inr (.inr (fun j : Nat => (l[j]?.join).map (fun k => ad (f k)))))))
    have e1 : (fun j : Nat => ((l.map (Option.map f))[j]?.join).map ad) = (fun j : Nat => (l[j]?.join).map (fun k => ad (f k))) := by
      funext j
      rw [List.getElem?_map]
      cases l[j]? with
      | none => rfl
      | some o => cases o <;> rfl
    rw [e1, List.length_map]
  · show (Sum.inr (ci, (fs.map (xv f)).map (xv ad)) : va_E) = .inr (ci, fs.map (xv fun k => ad (f k)))
    rw [List.map_map]
    congr 2
    exact List.map_congr_left (fun v _ => xv_comp ad f v)
def xputs (f : Nat → Nat) : List xE → List Nat → List xE → List xE
  | X, i :: σ, c :: Y => xputs f (X.set i (xrE f c)) σ Y
  | X, _, _ => X
/-- the caller's world behind the call -/
def xput (σ : List Nat) (X Y : List xE) : List xE := xputs (xsg σ X.length) X σ Y ++ (Y.drop σ.length).map (xrE (xsg σ X.length))
theorem xputs_len (f : Nat → Nat) : ∀ (σ : List Nat) (X Y : List xE), (xputs f X σ Y).length = X.length
  | [], X, Y => by cases Y <;> rfl
  | i :: σ, X, [] => rfl
  | i :: σ, X, c :: Y => by rw [xputs, xputs_len f σ, List.length_set]
theorem xputs_out (f : Nat → Nat) : ∀ (σ : List Nat) (X Y : List xE) (k : Nat), k ∉ σ → (xputs f X σ Y)[k]? = X[k]?
  | [], X, Y, k, _ => by cases Y <;> rfl
  | i :: σ, X, [], k, _ => rfl
  | i :: σ, X, c :: Y, k, h => by
    rw [xputs, xputs_out f σ _ _ k (fun q => h (List.mem_cons_of_mem _ q)), List.getElem?_set_ne]
    exact fun q => h (by rw [← q]; exact List.mem_cons_self)
theorem xputs_in (f : Nat → Nat) : ∀ (σ : List Nat) (X Y : List xE), va_nd σ = true → (∀ i ∈ σ, i < X.length) → σ.length ≤ Y.length → ∀ (j i : Nat) (c : xE), σ[j]? = some i → Y[j]? = some c → (xputs f X σ Y)[i]? = some (xrE f c)
  | [], X, Y, _, _, _, j, i, c, h, _ => by simp at h
  | a :: σ, X, [], _, _, h, _, _, _, _, _ => by simp at h
  | a :: σ, X, b :: Y, hn, hl, hs, j, i, c, h1, h2 => by
    simp only [va_nd, Bool.and_eq_true, decide_eq_true_eq] at hn
    rw [xputs]
    cases j with
    | zero =>
      simp at h1 h2
      subst h1; subst h2
      rw [xputs_out f σ _ _ a hn.1, List.getElem?_set_self (hl a List.mem_cons_self)]
    | succ j =>
      refine xputs_in f σ (X.set a (xrE f b)) Y hn.2 (fun q hq => by rw [List.length_set]; exact hl q (List.mem_cons_of_mem _ hq)) (by simpa using hs) j i c (by simpa using h1) (by simpa using h2)

set_option maxHeartbeats 1000000 in
/-- BEHIND A CALL: what came back, beside the rest, which is unchanged -/
theorem xjoin {I : xI} {A : Nat → Prop} {s : State} {n0 : Nat} {ad0 ad : Nat → Nat} {X : List xE} {H : Heap} {locs : List Loc} (HH : xH I A s n0 ad0 ad X H locs) (hA : ∀ q, s.heap.size ≤ q → A q) (hwX : X.all (xoke X.length) = true) {σ : List Nat} (hnd : va_nd σ = true) {Xc : List xE}
    (hX : σ.map (fun i => X[i]?) = Xc.map (fun c => some (xrE (xsg σ X.length) c))) {Y : List xE} {ac : Nat → Nat} {H1 : Heap} {locs1 : List Loc} (ha : ∀ i, i < Xc.length ∨ xB ≤ i → ac i = ad (xsg σ X.length i)) (hl1 : Xc.length ≤ Y.length) (hB1 : X.length + Y.length ≤ xB) (hwY : Y.all (xoke Y.length) = true)
    (hP1 : va_P I.1 vwCl (xw I ac Y) H1) (hD1 : va_D (va_A (xw I (fun k => ad (xsg σ X.length k)) Xc) H.size) (xw I ac Y)) (hk1 : ∀ q : Nat, q < H.size → ¬ va_A (xw I (fun k => ad (xsg σ X.length k)) Xc) H.size q → H1[q]? = H[q]?) (hF : ∀ q, va_A (xw I (fun k => ad (xsg σ X.length k)) Xc) H.size q → A q) (hS1 : va_S A s.heap H1 locs1) :
    ∃ ad', xH I A s n0 ad0 ad' (xput σ X Y) H1 locs1 ∧ ∀ k, k < X.length ∨ xB ≤ k → ad k = ad' k := by
  obtain ⟨hag, hn0, hB, hP, hD, hS⟩ := HH
  have hsl : σ.length = Xc.length := by
    have := congrArg List.length hX
    simpa using this
  have hat : ∀ (j i : Nat), σ[j]? = some i → ∃ c, Xc[j]? = some c ∧ X[i]? = some (xrE (xsg σ X.length) c) := by
    intro j i hj
    have e1 := congrArg (fun l => l[j]?) hX
    simp only [List.getElem?_map, hj, Option.map_some] at e1
    cases hc : Xc[j]? with
    | none => rw [hc] at e1; cases e1
    | some c => rw [hc] at e1; exact ⟨c, rfl, Option.some.inj e1⟩
  have hlt : ∀ i ∈ σ, i < X.length := by
    intro i hi
    obtain ⟨j, hj⟩ := List.getElem?_of_mem hi
    obtain ⟨c, -, h2⟩ := hat j i hj
    exact (List.getElem?_eq_some_iff.mp h2).1
  have hsg1 : ∀ (j i : Nat), σ[j]? = some i → xsg σ X.length j = i := by
    intro j i hj
    have hjl := (List.getElem?_eq_some_iff.mp hj).1
    unfold xsg
    rw [if_pos hjl, List.getD_eq_getElem?_getD, hj]; rfl
  -- the new address map
  obtain ⟨ad', had'⟩ : ∃ ad' : Nat → Nat, ad' = fun k => if X.length ≤ k ∧ k < X.length + (Y.length - σ.length) then ac (σ.length + (k - X.length)) else ad k := ⟨_, rfl⟩
  have hold : ∀ k, k < X.length ∨ xB ≤ k → ad k = ad' k := by
    intro k hk
    rw [had']
    show ad k = if _ then _ else ad k
    rw [if_neg (by omega)]
  have hcomp : ∀ k, k < Y.length ∨ xB ≤ k → ad' (xsg σ X.length k) = ac k := by
    intro k hk
    by_cases h1 : k < σ.length
    · have hj : σ[k]? = some σ[k] := List.getElem?_eq_getElem h1
      rw [ha k (Or.inl (by omega)), hsg1 k _ hj, ← hold _ (Or.inl (hlt _ (List.mem_of_getElem? hj)))]
    · by_cases h2 : k < xB
      · have h3 : xsg σ X.length k = X.length + (k - σ.length) := by
          unfold xsg
          rw [if_neg h1, if_pos h2]
        rw [h3, had']
        show (if _ then _ else _) = ac k
        rw [if_pos (by omega)]
        congr 1
        omega
      · have h3 : xsg σ X.length k = k := by
          unfold xsg
          rw [if_neg h1, if_neg h2]
        rw [ha k (Or.inr (by omega)), h3, ← hold k (Or.inr (by omega))]
  have hcell : ∀ c ∈ Y, xe I ad' (xrE (xsg σ X.length) c) = xe I ac c := by
    intro c hc
    rw [xe_comp]
    exact xe_congr hcomp (xoke_sp (List.all_eq_true.mp hwY c hc))
  -- what stands where
  have hput : ∀ (k : Nat) (c : xE), (xput σ X Y)[k]? = some c → (k < X.length ∧ k ∉ σ ∧ X[k]? = some c) ∨ (∃ (j : Nat) (c0 : xE), Y[j]? = some c0 ∧ c = xrE (xsg σ X.length) c0 ∧ ad' k = ac j ∧ ((j < σ.length ∧ σ[j]? = some k) ∨ (σ.length ≤ j ∧ k = X.length + (j - σ.length)))) := by
    intro k c hk
    unfold xput at hk
    by_cases hkl : k < X.length
    · rw [List.getElem?_append_left (by rw [xputs_len]; exact hkl)] at hk
      by_cases hm : k ∈ σ
      · right
        obtain ⟨j, hj⟩ := List.getElem?_of_mem hm
        have hjl := (List.getElem?_eq_some_iff.mp hj).1
        have hjY : j < Y.length := by omega
        have h0 := xputs_in (xsg σ X.length) σ X Y hnd hlt (by omega) j k Y[j] hj (List.getElem?_eq_getElem hjY)
        rw [h0] at hk
        refine ⟨j, Y[j], List.getElem?_eq_getElem hjY, (Option.some.inj hk).symm, ?_, Or.inl ⟨hjl, hj⟩⟩
        rw [← hcomp j (Or.inl hjY), hsg1 j k hj]
      · left
        rw [xputs_out _ _ _ _ _ hm] at hk
        exact ⟨hkl, hm, hk⟩
    · right
      rw [List.getElem?_append_right (by rw [xputs_len]; omega), xputs_len, List.getElem?_map, List.getElem?_drop] at hk
      cases hy : Y[σ.length + (k - X.length)]? with
      | none => rw [hy] at hk; cases hk
      | some c0 =>
        rw [hy] at hk
        have hyl := (List.getElem?_eq_some_iff.mp hy).1
        refine ⟨σ.length + (k - X.length), c0, hy, (Option.some.inj hk).symm, ?_, Or.inr ⟨by omega, by omega⟩⟩
        rw [had']
        show (if _ then _ else _) = _
        rw [if_pos (by omega)]
  have hwc : ∀ (q : Nat), va_A (xw I (fun k => ad (xsg σ X.length k)) Xc) H.size q → (∃ (j i : Nat), σ[j]? = some i ∧ q = ad i) ∨ H.size ≤ q := by
    intro q hq
    rcases hq with ⟨j, e0, hj⟩ | hq
    · left
      obtain ⟨c0, h1, h2⟩ := xw_inv hj
      have hjl : j < σ.length := by rw [hsl]; exact (List.getElem?_eq_some_iff.mp h1).1
      refine ⟨j, σ[j], List.getElem?_eq_getElem hjl, ?_⟩
      have := congrArg Prod.fst h2
      dsimp only at this
      rw [this, hsg1 j _ (List.getElem?_eq_getElem hjl)]
    · exact Or.inr hq
  have hout : ∀ k c, k < X.length → k ∉ σ → X[k]? = some c → ad k < H.size ∧ ¬ va_A (xw I (fun k => ad (xsg σ X.length k)) Xc) H.size (ad k) := by
    intro k c hkl hm hk
    have hlt2 : ad k < H.size := (hP k _ (xw_get hk)).lt
    refine ⟨hlt2, fun hq => ?_⟩
    rcases hwc _ hq with ⟨j, i, hj, hi⟩ | hq
    · have him := List.mem_of_getElem? hj
      have hki := hD.1 k i _ _ (xw_get hk) (xw_get (List.getElem?_eq_getElem (hlt i him))) hi
      exact hm (hki ▸ him)
    · omega
  -- addresses of callee's cells
  have hcad : ∀ j i, σ[j]? = some i → ac j = ad i := by
    intro j i hj
    have hjl := (List.getElem?_eq_some_iff.mp hj).1
    rw [ha j (Or.inl (by omega)), hsg1 j i hj]
  have hD1' := hD1.2
  have hnew : ∀ (j : Nat) (c : xE), Y[j]? = some c → σ.length ≤ j → H.size ≤ ac j := by
    intro j c hj hjl
    rcases hwc _ (hD1' j _ (xw_get hj)) with ⟨j2, i2, h1, h2⟩ | h
    · exfalso
      have hj2 := (List.getElem?_eq_some_iff.mp h1).1
      have h3 := hD1.1 j j2 _ _ (xw_get hj) (xw_get (List.getElem?_eq_getElem (show j2 < Y.length by omega))) (show ac j = ac j2 by rw [hcad j2 i2 h1]; exact h2)
      omega
    · exact h
  refine ⟨ad', ⟨fun i hi => ?_, ?_, ?_, ?_, ?_, hS1⟩, hold⟩
  · rw [← hold i (by omega)]; exact hag i hi
  · unfold xput
    rw [List.length_append, xputs_len]; omega
  · unfold xput
    rw [List.length_append, xputs_len, List.length_map, List.length_drop]; omega
  · intro k q hq
    obtain ⟨c, hc, rfl⟩ := xw_inv hq
    rcases hput k c hc with ⟨h1, h2, h3⟩ | ⟨j, c0, h1, rfl, h3, -⟩
    · obtain ⟨h4, h5⟩ := hout k c h1 h2 h3
      have hv := (hP k _ (xw_get h3)).kept (H1 := H1) (hk1 _ h4 h5)
      rw [← hold k (Or.inl h1), ← xe_congr hold (xoke_sp (List.all_eq_true.mp hwX c (List.mem_of_getElem? h3)))]
      exact hv
    · have hv := hP1 j _ (xw_get h1)
      rw [h3, hcell c0 (List.mem_of_getElem? h1)]
      exact hv
  · refine ⟨fun i j x y hi hj hxy => ?_, fun k q hq => ?_⟩
    · obtain ⟨c1, a1, rfl⟩ := xw_inv hi
      obtain ⟨c2, a2, rfl⟩ := xw_inv hj
      dsimp only at hxy
      have low : ∀ (k : Nat) (c : xE), k < X.length → X[k]? = some c → ad k < H.size := fun k c _ h => (hP k _ (xw_get h)).lt
      have lowσ : ∀ (jj k : Nat), σ[jj]? = some k → ad k < H.size := by
        intro jj k h
        obtain ⟨c, -, h2⟩ := hat jj k h
        exact (hP k _ (xw_get h2)).lt
      have inj : ∀ (k1 k2 : Nat), k1 < X.length → k2 < X.length → ad k1 = ad k2 → k1 = k2 := fun k1 k2 h1 h2 h => hD.1 k1 k2 _ _ (xw_get (List.getElem?_eq_getElem h1)) (xw_get (List.getElem?_eq_getElem h2)) h
      rcases hput i c1 a1 with ⟨p1, p2, p3⟩ | ⟨j1, b1, p1, -, p3, p4⟩ <;> rcases hput j c2 a2 with ⟨r1, r2, r3⟩ | ⟨j2, b2, r1, -, r3, r4⟩
      · rw [← hold i (Or.inl p1), ← hold j (Or.inl r1)] at hxy
        exact inj i j p1 r1 hxy
      · rw [← hold i (Or.inl p1), r3] at hxy
        rcases r4 with ⟨r4, r5⟩ | ⟨r4, r5⟩
        · rw [hcad j2 j r5] at hxy
          exact inj i j p1 (hlt j (List.mem_of_getElem? r5)) hxy
        · have := hnew j2 b2 r1 r4
          have := low i c1 p1 p3
          omega
      · rw [p3, ← hold j (Or.inl r1)] at hxy
        rcases p4 with ⟨p4, p5⟩ | ⟨p4, p5⟩
        · rw [hcad j1 i p5] at hxy
          exact inj i j (hlt i (List.mem_of_getElem? p5)) r1 hxy
        · have := hnew j1 b1 p1 p4
          have := low j c2 r1 r3
          omega
      · rw [p3, r3] at hxy
        have hj12 := hD1.1 j1 j2 _ _ (xw_get p1) (xw_get r1) hxy
        subst hj12
        rcases p4 with ⟨p4, p5⟩ | ⟨p4, p5⟩ <;> rcases r4 with ⟨r4, r5⟩ | ⟨r4, r5⟩
        · exact Option.some.inj (p5.symm.trans r5)
        · omega
        · omega
        · omega
    · obtain ⟨c1, a1, rfl⟩ := xw_inv hq
      rcases hput k c1 a1 with ⟨p1, p2, p3⟩ | ⟨j1, b1, p1, -, p3, -⟩
      · rw [← hold k (Or.inl p1)]
        exact hD.2 k (ad k, xe I ad c1) (xw_get p3)
      · rw [p3]
        exact hF _ (hD1.2 j1 (ac j1, xe I ac b1) (xw_get p1))
end
section
/-! ===== calls ===== -/
def xwf (X : List xE) (ls : List (Option Value)) (rest : List Value) : Bool := X.all (xoke X.length) && ls.all (fun o => match o with | none => true | some v => xokv X.length v) && rest.all (xokv X.length) && Nat.ble (rest.map fun v => v.category).sum 8
set_option maxHeartbeats 1000000 in
theorem x_after {L : xLn} {M : xM} {d mc ms : Nat} {Q : Option Value → List xE → Prop} {n0 : Nat} {z : Nat × Nat} {pc : Nat} {ls : List (Option Value)} {X : List xE} {p : Program} {e : Env} {R : Room} {s : State} {m : MethodId} {args : Array Value} {below : List Frame} {meth : Method} {c : Code} {I : xI} {A : Nat → Prop} {QF : State → Prop} {ad0 ad : Nat → Nat} {H : Heap} {locs : List Loc} {la : Array Slot} {mc' ms' : Nat} {rest st0 : List Value} {σ : List Nat} {Xc : List xE} {Qc : Option Value → List xE → Prop} {a : Array Value}
    (G : xG L M d mc ms Q n0 p e R s m args below meth c I A QF ad0) (HH : xH I A s n0 ad0 ad X H locs) (hl : xL la (xml M) ad ls) (hwf : xwf X ls rest = true) (hnd : va_nd σ = true) (hX : σ.map (fun i => X[i]?) = Xc.map (fun c => some (xrE (xsg σ X.length) c)))
    (hF : ∀ q, va_A (xw I (fun k => ad (xsg σ X.length k)) Xc) H.size q → A q)
    (hr : va_Run p L.1 e R s m args below meth c H locs z.1 z.2 mc' ms' (F0 m pc la st0) (rest.map (xv ad)) (xQc I (fun k => ad (xsg σ X.length k)) Xc.length (va_A (xw I (fun k => ad (xsg σ X.length k)) Xc) H.size) Qc a) (va_A (xw I (fun k => ad (xsg σ X.length k)) Xc) H.size))
    (kk : ∀ (r : Option Value) (Y : List xE), Qc r Y → Nat.ble (X.length + Y.length) xB = true ∧ AJ L M d mc ms Q n0 (z.1 + mc', z.2 + ms') (pc + 3) ls (r.toList ++ rest) (xput σ X Y)) : W p L.1 e R s m args below meth c H locs z.1 z.2 QF (F0 m pc la st0) := by
  intro T hT XX
  obtain ⟨v, st₀, t, T', L', h0, X', hL, e1, e2, hq, st⟩ := hr T hT XX
  obtain ⟨⟨r, Y, ac, hv, ha, hn, hB, hw, hrr, hQ, hP1, hK1, hD1⟩, hz, hk⟩ := hq
  have hv : v = r.map (xv ac) := Outcome.returned.inj hv
  subst hv
  rw [h0] at hz hk
  simp only [xwf, Bool.and_eq_true, Nat.ble_eq] at hwf
  obtain ⟨⟨⟨w1, w2⟩, w3⟩, w4⟩ := hwf
  obtain ⟨k1, k2⟩ := kk r Y hQ
  have hS := HH.2.2.2.2.2
  have hA := G.1.2.2.2.2.2.2.2.2.2.1
  have hS' : va_S A s.heap T'.heap (locs ++ L') := ⟨Nat.le_trans hS.1 (by rw [e1]; exact hz), fun q h1 h2 => by rw [e1, hk q (Nat.lt_of_lt_of_le h1 hS.1) (fun z => h2 (hF q z))]; exact hS.2.1 q h1 h2, fun q hq => by
      rcases List.mem_append.mp hq with h | h
      · exact hS.2.2 q h
      · exact hF _ (hL q h)⟩
  obtain ⟨ad', H2, hold⟩ := xjoin HH hA w1 hnd hX (fun i hi => ha i hi) hn (Nat.ble_eq.mp k1) hw (by rw [e1]; exact hP1) hD1 (fun q h1 h2 => by rw [e1]; exact hk q h1 h2) hF hS'
  have hW := k2 p e R s m args below meth c I A QF ad0 G ad' T'.heap (locs ++ L') la H2 (xL_ad hl hold w2)
  have es : ((r.toList ++ rest).map (xv ad')) = (r.map (xv ac)).toList ++ rest.map (xv ad) := by
    rw [List.map_append, xmap_ad hold w3]
    congr 1
    cases r with
    | none => rfl
    | some u =>
      have hu := hrr u rfl
      have : xv ad' u = xv ac u := by
        refine (xv_congr (P := fun k => k < 0 ∨ xB ≤ k) (fun k hk => ?_) (xokv_sp hu)).symm
        have hk2 : xB ≤ k := by omega
        rw [ha k (Or.inr hk2), ← hold k (Or.inr hk2)]
        show ad (xsg σ X.length k) = ad k
        unfold xsg
        have hsl : σ.length ≤ xB := by
          have := congrArg List.length hX
          simp at this
          omega
        rw [if_neg (by omega), if_neg (by omega)]
      show [xv ad' u] = [xv ac u]
      rw [this]
  rw [es] at hW
  obtain ⟨t2, a1, b1⟩ := hW T' rfl X'
  exact ⟨t2, st t2 a1, b1⟩
/-- what the callee's start asks, in the caller's world -/
theorem x_before {L : xLn} {n0 : Nat} {X : List xE} {s : State} {I : xI} {A : Nat → Prop} {ad0 ad : Nat → Nat} {H : Heap} {locs : List Loc} {σ : List Nat} {Xc : List xE} {av : List Value} (hK : va_K I.1 vwCl (xT I) s) (hFF : xFF L ad0 A s s.heap) (hA : ∀ q, s.heap.size ≤ q → A q) (HH : xH I A s n0 ad0 ad X H locs) (hXB : Xc.length ≤ xB) (hnd : va_nd σ = true) (hX : σ.map (fun i => X[i]?) = Xc.map (fun c => some (xrE (xsg σ X.length) c))) :
    (va_P I.1 vwCl (xw I (fun k => ad (xsg σ X.length k)) Xc) H ∧ (∀ q, va_A (xw I (fun k => ad (xsg σ X.length k)) Xc) H.size q → A q)) ∧ ∀ U : State, U.heap = H → s.WarmedH U.vm → xPc L I (fun k => ad (xsg σ X.length k)) Xc H.size av (av.map (xv fun k => ad (xsg σ X.length k))).toArray U := by
  obtain ⟨hag, hn0, hB, hP, hD, hS⟩ := HH
  have hsl : σ.length = Xc.length := by
    have := congrArg List.length hX
    simpa using this
  have hC : σ.map (fun i => (xw I ad X)[i]?) = (xw I (fun k => ad (xsg σ X.length k)) Xc).map some := by
    apply List.ext_getElem?
    intro j
    rw [List.getElem?_map, List.getElem?_map, xw_at]
    cases hj : σ[j]? with
    | none =>
      have : Xc[j]? = none := by
        rw [List.getElem?_eq_none_iff] at hj ⊢
        omega
      rw [this]; rfl
    | some i =>
      have e1 := congrArg (fun l => l[j]?) hX
      simp only [List.getElem?_map, hj, Option.map_some] at e1
      cases hc : Xc[j]? with
      | none => rw [hc] at e1; cases e1
      | some c =>
        rw [hc] at e1
        have e2 : X[i]? = some (xrE (xsg σ X.length) c) := Option.some.inj e1
        have e3 : xsg σ X.length j = i := by
          unfold xsg
          rw [if_pos (List.getElem?_eq_some_iff.mp hj).1, List.getD_eq_getElem?_getD, hj]; rfl
        simp only [Option.map_some]
        rw [xw_get e2, xe_comp, e3]
  have hPc : va_P I.1 vwCl (xw I (fun k => ad (xsg σ X.length k)) Xc) H := by
    refine hP.sub σ ?_
    have : ∀ (σ : List Nat) (w1 w2 : va_W), σ.map (fun i => w1[i]?) = w2.map some → σ.filterMap (fun i => w1[i]?) = w2 := by
      intro σ w1
      induction σ with
      | nil => intro w2 h; cases w2 with
        | nil => rfl
        | cons a b => cases h
      | cons i r ih =>
        intro w2 h
        cases w2 with
        | nil => cases h
        | cons a b =>
          simp only [List.map_cons, List.cons.injEq] at h
          rw [List.filterMap_cons, h.1]
          simp only
          rw [ih b h.2]
    exact this _ _ _ hC
  have hDc : va_D A (xw I (fun k => ad (xsg σ X.length k)) Xc) := hD.sub σ hnd hC
  have hFr := va_free hD hS hA σ hC
  refine ⟨⟨hPc, hFr⟩, fun U hU hW => ⟨rfl, by rw [hU], by rw [hU]; exact hPc, va_K.moved hW.alike hK, hDc.weaken (fun _ _ _ _ => trivial), ?_⟩⟩
  have f1 : xFF L ad0 (va_A (xw I (fun k => ad (xsg σ X.length k)) Xc) H.size) s H := (hFF.kept (H1 := H) (fun q h1 h2 => hS.2.1 q h1 h2)).narrow hFr
  rw [hU]
  refine (f1.warm hW).ad (fun i hi => ?_)
  show ad (xsg σ X.length i) = ad0 i
  unfold xsg
  rw [if_neg (by omega), if_neg (by omega)]
  exact hag i (Or.inr hi)

def xwd (w : Cond) : Bool := decide (w ∈ lw_tbl) && goodWord w
theorem xwd_in {w : Cond} (h : xwd w = true) : w ∈ xtb := by
  simp only [xwd, Bool.and_eq_true, decide_eq_true_eq] at h
  exact List.mem_filter.mpr h
/-- what the tables must have of a callee: 0 an instance's method, 1 a static one, 2 a constructor -/
def xcB (M : xM) (kind n : Nat) : Bool := xwd (.initialized M.1.cls) && xwd (.code M.1 (xcc M) (xml M) (xret M)) && decide (M.1.cls ≠ "java/lang/invoke/MethodHandle" ∧ M.1.cls ≠ "java/lang/invoke/VarHandle") && decide ((parseMethodDescriptor M.1.desc).map (fun d => d.parameters.length) = some n) && Nat.ble (xml M) 31 && (match kind with
  | 0 => xwd (.instanceMethod M.1) && xwd (.selects M.1.cls M.1 M.1)
  | 1 => xwd (.static M.1)
  | _ => xwd (.instanceMethod M.1) && decide (M.1.name = "<init>") && decide (xret M = none))
theorem xgoodW {M : xM} (h : xwd (.code M.1 (xcc M) (xml M) (xret M)) = true) : GoodIn xtb (xW M) := fun w hw => by
  rcases List.mem_cons.mp hw with rfl | hw
  · exact ⟨xwd_in h, good_of_word (List.mem_filter.mp (xwd_in h)).2⟩
  · exact ⟨hw, good_of_word (List.mem_filter.mp hw).2⟩
theorem xgoodL {ws : List Cond} {M : xM} (h : xwd (.code M.1 (xcc M) (xml M) (xret M)) = true) (hw : ∀ w ∈ ws, w ∈ xtb) : GoodIn xtb (ws ++ xW M) := fun w h2 => by
  rcases List.mem_append.mp h2 with h2 | h2
  · exact ⟨hw w h2, good_of_word (List.mem_filter.mp (hw w h2)).2⟩
  · exact xgoodW h w h2
set_option maxHeartbeats 1000000 in
/-- a call of an instance's method -/
theorem AJ.callV {L : xLn} {M : xM} {d mc ms : Nat} {Q : Option Value → List xE → Prop} {n0 : Nat} {z : Nat × Nat} {pc : Nat} {ls : List (Option Value)} {st : List Value} {X : List xE} (hM : xMk M = true) {M' : xM} {d' mc' ms' q0 n : Nat} {as : List Value} {Xc : List xE} {Qc : Option Value → List xE → Prop}
    (hC : CT L M' d' mc' ms' (.ref q0 :: as) Xc Qc) (hcv : xcB M' 0 n = true) {idx nx tg : Nat} {v : Int32} {w : Int64} {a b t : Nat} {sw : List (Int32 × Nat)} (ho : xat M pc = some (.invokevirtual idx, nx, tg, v, w, a, b, t, sw)) (hlk : xmt t (.methodLink (xown M) idx M'.1) = true)
    (σ : List Nat) (rest : List Value) (hst : st = (as.map (xv (xsg σ X.length))).reverse ++ .ref (xsg σ X.length q0) :: rest) (hn : as.length = n) (hX : σ.map (fun i => X[i]?) = Xc.map (fun c => some (xrE (xsg σ X.length) c))) {ci : Nat} {fs : List Value} (hq : Xc[q0]? = some (.inr (.inr (ci, fs)))) {r : vw_C} (hci : vwCl[ci]? = some r) (hr1 : r.1 = M'.1.cls)
    (hnd : va_nd σ = true) (hwf : xwf X ls rest = true) (hd : Nat.blt d' d = true) (hmm : (Nat.ble (z.1 + mc') mc && Nat.ble (z.2 + ms') ms) = true)
    (kk : ∀ (r : Option Value) (Y : List xE), Qc r Y → Nat.ble (X.length + Y.length) xB = true ∧ AJ L M d mc ms Q n0 (z.1 + mc', z.2 + ms') nx ls (r.toList ++ rest) (xput σ X Y)) : AJ L M d mc ms Q n0 z pc ls st X := by
  subst hst
  intro p e R s m args below meth c I A QF ad0 G ad H locs la HH hl
  obtain ⟨⟨hx, hb, hr, hml, hown, hts, hK, hlk2, hini, hA, hfr, hlo⟩, hmc, hms, hF, hret⟩ := id G
  have hck := xat_ck hM ho
  simp only [xck, Bool.and_eq_true] at hck
  obtain ⟨hdg, hnx⟩ := hck
  obtain rfl := xnx hnx
  have hdg := of_decide_eq_true hdg
  rw [Nat.add_sub_cancel_left] at hdg
  simp only [xcB, Bool.and_eq_true, Nat.ble_eq] at hcv
  obtain ⟨⟨⟨⟨⟨c1, c2⟩, c3⟩, c4⟩, c5⟩, c6, c7⟩ := hcv
  simp only [Bool.and_eq_true, Nat.ble_eq] at hmm
  have hd : d' < d := Nat.blt_eq.mp hd
  obtain ⟨⟨hPc, hFr⟩, hpre⟩ := x_before (av := .ref q0 :: as) hK hF hA HH hC.1 hnd hX
  have hwf2 := hwf
  simp only [xwf, Bool.and_eq_true, Nat.ble_eq] at hwf2
  have hG : GoodIn xtb (wsV M.1.cls idx M'.1.cls M'.1 (xW M')) := xgoodL (ws := [.methodLink M.1.cls idx M'.1, .instanceMethod M'.1, .selects M'.1.cls M'.1 M'.1, .initialized M'.1.cls]) c2 (by
    intro w hw
    simp only [List.mem_cons, List.not_mem_nil, or_false] at hw
    rcases hw with rfl | rfl | rfl | rfl
    · exact xmt_in hlk rfl
    · exact xwd_in c6
    · exact xwd_in c7
    · exact xwd_in c1)
  have hmap : ∀ u : Value, xv ad (xv (xsg σ X.length) u) = xv (fun k => ad (xsg σ X.length k)) u := fun u => xv_comp ad (xsg σ X.length) u
  refine x_after (a := (Value.ref (ad (xsg σ X.length q0)) :: as.map (xv fun k => ad (xsg σ X.length k))).toArray) G HH hl hwf hnd hX hFr ?_ kk
  refine va_runV (C := M'.1.cls) (b := ad (xsg σ X.length q0)) (As := as.map (xv fun k => ad (xsg σ X.length k))) ⟨hx, hb, hml, hown, hts⟩ (hC.2 I (fun k => ad (xsg σ X.length k)) H.size) (cwV n hts hG rfl rfl rfl ⟨rfl, (of_decide_eq_true c3).1, (of_decide_eq_true c3).2, of_decide_eq_true c4⟩ ⟨?_, ?_⟩) ⟨xPc_blind _ _ _ _ _ _, ?_, hpre⟩ rfl (by rw [List.length_map]; exact hn) hl.1.1 ?_ (lv_room ?_) hdg ⟨by omega, by omega⟩
  · show d' + 1 ≤ R.frames; omega
  · show 8 + (xml M' + 11) + 50 * d' ≤ R.locals; omega
  · obtain ⟨cell, q1, q2, q3⟩ := va_recv hK hPc hci (xw_get hq)
    exact ⟨cell, q1, q2, by rw [← hr1]; exact q3⟩
  · show ((as.map (xv (xsg σ X.length))).reverse ++ .ref (xsg σ X.length q0) :: rest).map (xv ad) = _
    rw [List.map_append, List.map_reverse, List.map_map, List.map_cons]
    have em : as.map (xv ad ∘ xv (xsg σ X.length)) = as.map (xv fun k => ad (xsg σ X.length k)) := List.map_congr_left (fun u _ => hmap u)
    rw [em]
    try rfl
  · rw [List.map_map]
    have : (rest.map ((fun v => v.category) ∘ xv ad)) = rest.map (fun v => v.category) := List.map_congr_left (fun u _ => xv_cat ad u)
    rw [this]; exact hwf2.2
set_option maxHeartbeats 1000000 in
/-- a call of a static method -/
theorem AJ.callS {L : xLn} {M : xM} {d mc ms : Nat} {Q : Option Value → List xE → Prop} {n0 : Nat} {z : Nat × Nat} {pc : Nat} {ls : List (Option Value)} {st : List Value} {X : List xE} (hM : xMk M = true) {M' : xM} {d' mc' ms' n : Nat} {as : List Value} {Xc : List xE} {Qc : Option Value → List xE → Prop}
    (hC : CT L M' d' mc' ms' as Xc Qc) (hcv : xcB M' 1 n = true) {idx nx tg : Nat} {v : Int32} {w : Int64} {a b t : Nat} {sw : List (Int32 × Nat)} (ho : xat M pc = some (.invokestatic idx, nx, tg, v, w, a, b, t, sw)) (hlk : xmt t (.methodLink (xown M) idx M'.1) = true)
    (σ : List Nat) (rest : List Value) (hst : st = (as.map (xv (xsg σ X.length))).reverse ++ rest) (hn : as.length = n) (hX : σ.map (fun i => X[i]?) = Xc.map (fun c => some (xrE (xsg σ X.length) c)))
    (hnd : va_nd σ = true) (hwf : xwf X ls rest = true) (hd : Nat.blt d' d = true) (hmm : (Nat.ble (z.1 + mc') mc && Nat.ble (z.2 + ms') ms) = true)
    (kk : ∀ (r : Option Value) (Y : List xE), Qc r Y → Nat.ble (X.length + Y.length) xB = true ∧ AJ L M d mc ms Q n0 (z.1 + mc', z.2 + ms') nx ls (r.toList ++ rest) (xput σ X Y)) : AJ L M d mc ms Q n0 z pc ls st X := by
  subst hst
  intro p e R s m args below meth c I A QF ad0 G ad H locs la HH hl
  obtain ⟨⟨hx, hb, hr, hml, hown, hts, hK, hlk2, hini, hA, hfr, hlo⟩, hmc, hms, hF, hret⟩ := id G
  have hck := xat_ck hM ho
  simp only [xck, Bool.and_eq_true] at hck
  obtain ⟨hdg, hnx, -⟩ := hck
  obtain rfl := xnx hnx
  have hdg := of_decide_eq_true hdg
  rw [Nat.add_sub_cancel_left] at hdg
  simp only [xcB, Bool.and_eq_true, Nat.ble_eq] at hcv
  obtain ⟨⟨⟨⟨⟨c1, c2⟩, c3⟩, c4⟩, c5⟩, c6⟩ := hcv
  simp only [Bool.and_eq_true, Nat.ble_eq] at hmm
  have hd : d' < d := Nat.blt_eq.mp hd
  obtain ⟨⟨hPc, hFr⟩, hpre⟩ := x_before (av := as) hK hF hA HH hC.1 hnd hX
  have hwf2 := hwf
  simp only [xwf, Bool.and_eq_true, Nat.ble_eq] at hwf2
  have hG : GoodIn xtb (va_wsS M.1.cls idx M'.1 (xW M')) := xgoodL (ws := [.methodLink M.1.cls idx M'.1, .static M'.1, .initialized M'.1.cls]) c2 (by
    intro w hw
    simp only [List.mem_cons, List.not_mem_nil, or_false] at hw
    rcases hw with rfl | rfl | rfl
    · exact xmt_in hlk rfl
    · exact xwd_in c6
    · exact xwd_in c1)
  have hmap : ∀ u : Value, xv ad (xv (xsg σ X.length) u) = xv (fun k => ad (xsg σ X.length k)) u := fun u => xv_comp ad (xsg σ X.length) u
  refine x_after (a := (as.map (xv fun k => ad (xsg σ X.length k))).toArray) G HH hl hwf hnd hX hFr ?_ kk
  refine va_runS (As := as.map (xv fun k => ad (xsg σ X.length k))) ⟨hx, hb, hml, hown, hts⟩ (hC.2 I (fun k => ad (xsg σ X.length k)) H.size) (va_cwS n hts hG rfl rfl rfl ⟨(of_decide_eq_true c3).1, (of_decide_eq_true c3).2, of_decide_eq_true c4⟩ ⟨?_, ?_⟩) ⟨xPc_blind _ _ _ _ _ _, hpre⟩ rfl (by rw [List.length_map]; exact hn) hl.1.1 ?_ (lv_room ?_) hdg ⟨by omega, by omega⟩
  · show d' + 1 ≤ R.frames; omega
  · show 8 + (xml M' + 11) + 50 * d' ≤ R.locals; omega
  · show ((as.map (xv (xsg σ X.length))).reverse ++ rest).map (xv ad) = _
    rw [List.map_append, List.map_reverse, List.map_map]
    have em : as.map (xv ad ∘ xv (xsg σ X.length)) = as.map (xv fun k => ad (xsg σ X.length k)) := List.map_congr_left (fun u _ => hmap u)
    rw [em]
    try rfl
  · rw [List.map_map]
    have : (rest.map ((fun v => v.category) ∘ xv ad)) = rest.map (fun v => v.category) := List.map_congr_left (fun u _ => xv_cat ad u)
    rw [this]; exact hwf2.2
set_option maxHeartbeats 1000000 in
/-- a call of a constructor -/
theorem AJ.callI {L : xLn} {M : xM} {d mc ms : Nat} {Q : Option Value → List xE → Prop} {n0 : Nat} {z : Nat × Nat} {pc : Nat} {ls : List (Option Value)} {st : List Value} {X : List xE} (hM : xMk M = true) {M' : xM} {d' mc' ms' q0 n : Nat} {as : List Value} {Xc : List xE} {Qc : Option Value → List xE → Prop}
    (hC : CT L M' d' mc' ms' (.ref q0 :: as) Xc Qc) (hcv : xcB M' 2 n = true) {idx nx tg : Nat} {v : Int32} {w : Int64} {a b t : Nat} {sw : List (Int32 × Nat)} (ho : xat M pc = some (.invokespecial idx, nx, tg, v, w, a, b, t, sw)) (hlk : xmt t (.methodLink (xown M) idx M'.1) = true)
    (σ : List Nat) (rest : List Value) (hst : st = (as.map (xv (xsg σ X.length))).reverse ++ .ref (xsg σ X.length q0) :: rest) (hn : as.length = n) (hX : σ.map (fun i => X[i]?) = Xc.map (fun c => some (xrE (xsg σ X.length) c)))
    (hnd : va_nd σ = true) (hwf : xwf X ls rest = true) (hd : Nat.blt d' d = true) (hmm : (Nat.ble (z.1 + mc') mc && Nat.ble (z.2 + ms') ms) = true)
    (kk : ∀ (r : Option Value) (Y : List xE), Qc r Y → Nat.ble (X.length + Y.length) xB = true ∧ AJ L M d mc ms Q n0 (z.1 + mc', z.2 + ms') nx ls (r.toList ++ rest) (xput σ X Y)) : AJ L M d mc ms Q n0 z pc ls st X := by
  subst hst
  intro p e R s m args below meth c I A QF ad0 G ad H locs la HH hl
  obtain ⟨⟨hx, hb, hr, hml, hown, hts, hK, hlk2, hini, hA, hfr, hlo⟩, hmc, hms, hF, hret⟩ := id G
  have hck := xat_ck hM ho
  simp only [xck, Bool.and_eq_true] at hck
  obtain ⟨hdg, hnx, -⟩ := hck
  obtain rfl := xnx hnx
  have hdg := of_decide_eq_true hdg
  rw [Nat.add_sub_cancel_left] at hdg
  simp only [xcB, Bool.and_eq_true, Nat.ble_eq] at hcv
  obtain ⟨⟨⟨⟨⟨c1, c2⟩, c3⟩, c4⟩, c5⟩, ⟨c6, c7⟩, c8⟩ := hcv
  have c8 := of_decide_eq_true c8
  simp only [Bool.and_eq_true, Nat.ble_eq] at hmm
  have hd : d' < d := Nat.blt_eq.mp hd
  obtain ⟨⟨hPc, hFr⟩, hpre⟩ := x_before (av := .ref q0 :: as) hK hF hA HH hC.1 hnd hX
  have hwf2 := hwf
  simp only [xwf, Bool.and_eq_true, Nat.ble_eq] at hwf2
  have hmap : ∀ u : Value, xv ad (xv (xsg σ X.length) u) = xv (fun k => ad (xsg σ X.length k)) u := fun u => xv_comp ad (xsg σ X.length) u
  have hwe : xW M' = Cond.code M'.1 (xcc M') (xml M') none :: xtb := by unfold xW; rw [c8]
  refine x_after (a := (Value.ref (ad (xsg σ X.length q0)) :: as.map (xv fun k => ad (xsg σ X.length k))).toArray) G HH hl hwf hnd hX hFr ?_ kk
  refine va_runI (b := ad (xsg σ X.length q0)) (As := as.map (xv fun k => ad (xsg σ X.length k))) ⟨hx, hb, hml, hown, hts⟩ (hC.2 I (fun k => ad (xsg σ X.length k)) H.size) (cwI n hts (xgoodW c2) hwe rfl rfl (hts _ (xwd_in c1)) (hts _ (xmt_in hlk rfl)) (hts _ (xwd_in c6)) (of_decide_eq_true c7) ⟨(of_decide_eq_true c3).1, (of_decide_eq_true c3).2, of_decide_eq_true c4⟩ ⟨?_, ?_⟩) ⟨xPc_blind _ _ _ _ _ _, hpre⟩ rfl (by rw [List.length_map]; exact hn) hl.1.1 ?_ (lv_room ?_) hdg ⟨by omega, by omega⟩
  · show d' + 1 ≤ R.frames; omega
  · show 8 + (xml M' + 11) + 50 * d' ≤ R.locals; omega
  · show ((as.map (xv (xsg σ X.length))).reverse ++ .ref (xsg σ X.length q0) :: rest).map (xv ad) = _
    rw [List.map_append, List.map_reverse, List.map_map, List.map_cons]
    have em : as.map (xv ad ∘ xv (xsg σ X.length)) = as.map (xv fun k => ad (xsg σ X.length k)) := List.map_congr_left (fun u _ => hmap u)
    rw [em]
    try rfl
  · rw [List.map_map]
    have : (rest.map ((fun v => v.category) ∘ xv ad)) = rest.map (fun v => v.category) := List.map_congr_left (fun u _ => xv_cat ad u)
    rw [this]; exact hwf2.2
end
